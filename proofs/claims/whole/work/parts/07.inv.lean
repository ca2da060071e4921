def MLK (own : String) (idx : Nat) (y2 : Mt) (np : Nat) : Prop := (Cond.methodLink own idx y2.1 ∈ gwT ∨ ∃ host, Cond.methodLinkNest own idx y2.1 host ∈ nwT) ∧ Cond.initialized y2.1.cls ∈ gwT ∧ Cond.code y2.1 y2.2.1 y2.2.2.1 y2.2.2.2.1 ∈ gwT ∧ (y2.1.cls ≠ "java/lang/invoke/MethodHandle" ∧ y2.1.cls ≠ "java/lang/invoke/VarHandle" ∧ (parseMethodDescriptor y2.1.desc).map (fun d => d.parameters.length) = some np) ∧ plainName y2.1.cls = true
def rmK (y y2 : Mt) : Prop := y2.2.2.2.2.1 + 1 ≤ y.2.2.2.2.1 ∧ 8 + (y2.2.2.1 + 11) + y2.2.2.2.2.2 ≤ y.2.2.2.2.2
theorem cat_map {ad : Nat → Nat} {st : List Value} : ((st.map (rn ad)).map fun v => v.category).sum = (st.map fun v => v.category).sum := by
  rw [List.map_map]
  congr 1
  exact List.map_congr_left (fun v _ => rn_cat v)
section Inv
variable {ph : Bool} {y : Mt} {nR n kc ks pc : Nat} {L st : List Value} {M : Mem} {Q : Int32 → Mem → Prop}
/-- what a callee may ask of the start, out of the caller's world -/
theorem pre_of {p : Program} {R : Room} {s : State} {m : MethodId} {args : Array Value} {meth : Method} {c : Code} {D : va_G} {cI cB : ClassId} {ad : Nat → Nat} {A : Nat → Prop} {H : Heap} {locs : List Loc} (C : Cx p R s m args meth c y) (Wd : Wx ph D cI cB ad n A M s H locs) (as : List Value) : ∀ U : State, U.heap = H → s.WarmedH U.vm → va_Pc (as.map (rn ad)) (PcO ph D cI cB ad n M H.size) (as.map (rn ad)).toArray U := by
  intro U hU hW
  have hF : ∀ q, va_A (wsO ph cI cB ad n M) H.size q → A q := by
    intro q h
    rcases h with ⟨k, e, h⟩ | h
    · exact Wd.2.2.1.2 k _ h
    · exact Wd.2.2.2.2.1 q (Nat.le_trans Wd.2.2.2.1.1 h)
  refine ⟨rfl, by rw [hU], va_K.moved hW.alike Wd.1, by rw [hU]; exact Wd.2.1, Wd.2.2.1.weaken (fun _ _ _ _ => trivial), Wd.2.2.2.2.2.1, Wd.2.2.2.2.2.2.1, Wd.2.2.2.2.2.2.2.1, Tx_moved hW.alike ?_, fun w hw => Nw_warm hw hW (C.2.2.2.2.2.1 w hw)⟩
  rw [hU]
  exact Tx_narrow (Tx_kept Wd.2.2.2.2.2.2.2.2 Wd.2.2.2.1.2.1) hF
theorem Wx_ad {D : va_G} {cI cB : ClassId} {ad ad' : Nat → Nat} {A : Nat → Prop} {s : State} {H : Heap} {locs : List Loc} (Wd : Wx ph D cI cB ad' n A M s H locs) (ha : ∀ k, k < n ∨ 100 ≤ k → ad' k = ad k) : Wx ph D cI cB ad n A M s H locs := by
  obtain ⟨k1, k2, k3, k4, k5, k6, k7, k8, k9⟩ := Wd
  have he := wsO_ad (cI := cI) (cB := cB) k6 k8 (fun k hk => ha k (Or.inl hk))
  rw [he] at k2 k3
  refine ⟨k1, k2, k3, k4, k5, k6, k7, k8, fun i hi => ?_, fun i hi => ?_⟩
  · rw [← ha (100 + i) (Or.inr (by omega))]
    exact k9.1 i hi
  · rw [← ha (100 + i) (Or.inr (by omega))]
    exact k9.2 i hi
theorem cb_of {own : String} {idx np kc2 ks2 : Nat} {y2 : Mt} {R : Room} {s : State} {args : Array Value} (ht : ∀ w ∈ gwT, w.before args s = true) (hlk : MLK own idx y2 np) (hl : Cond.methodLink own idx y2.1 ∈ gwT) (hfr : y2.2.2.2.2.1 + 1 ≤ R.frames) (hlo : 8 + (y2.2.2.1 + 11) + y2.2.2.2.2.2 ≤ R.locals) : CallB R s args own idx y2.1 y2.2.1 y2.2.2.1 y2.2.2.2.1 (wsM y2) (rmO y2 kc2 ks2) kc2 ks2 np :=
  callB_of np ht (gw_good hlk.2.2.1) rfl rfl rfl (ht _ hlk.2.1) (ht _ hl) hlk.2.2.2.1 ⟨hfr, hlo⟩
theorem cn_of {own host : String} {idx np kc2 ks2 : Nat} {y2 : Mt} {R : Room} {s : State} {args : Array Value} (ht : ∀ w ∈ gwT, w.before args s = true) (hlk : MLK own idx y2 np) (hl : va_Nw (.methodLinkNest own idx y2.1 host) s) (hfr : y2.2.2.2.2.1 + 1 ≤ R.frames) (hlo : 8 + (y2.2.2.1 + 11) + y2.2.2.2.2.2 ≤ R.locals) : va_CN R s args own idx y2.1 host y2.2.1 y2.2.2.1 y2.2.2.2.1 (wsM y2) (rmO y2 kc2 ks2) kc2 ks2 np :=
  va_cnB np ht (gw_good hlk.2.2.1) rfl rfl rfl hl (ht _ hlk.2.1) hlk.2.2.2.1 ⟨hfr, hlo⟩
/-- a call of an instance method, with all that the callee makes left behind -/
theorem ex_invV {idx k ci : Nat} {y2 : Mt} {as L2 : List Value} {Q2 : Int32 → Mem → Prop} (k2 s2 : Nat) (hd : decode y.2.1 pc = .ok (.invokevirtual idx, 3)) (hlk : MLK y.1.cls idx y2 as.length) (hsel : Cond.instanceMethod y2.1 ∈ gwT ∧ Cond.selects y2.1.cls y2.1 y2.1 ∈ gwT) (hrm : rmK y y2) (hk : k < n) (hS : S0 k = (ci + 2, NC ci)) (hc : ci < 8 ∧ nmC ci = y2.1.cls) (hL : L0 (.ref k :: as) y2.2.2.1 = L2) (hln : (lg_sl (.ref k :: as)).length ≤ y2.2.2.1) (hst : (st.map fun v => v.category).sum ≤ 8) (hE : Ex ph y2 n n k2 s2 0 L2 [] M Q2) (kk : ∀ v M', Q2 v M' → Ex ph y nR n kc ks (pc + 3) L (retS y2 v ++ st) M' Q) : Ex ph y nR n (kc + k2) (ks + s2) pc L (as.reverse ++ .ref k :: st) M Q := by
  subst hL
  intro p l e R s m args below meth c D cI cB ad A H locs cells slots KC KS Z ls C Wd hl h1 h2 h3 h4 hZ
  have hfr : y2.2.2.2.2.1 + 1 ≤ R.frames := Nat.le_trans hrm.1 C.2.2.2.2.2.2.2.1
  have hlo : 8 + (y2.2.2.1 + 11) + y2.2.2.2.2.2 ≤ R.locals := Nat.le_trans hrm.2 C.2.2.2.2.2.2.2.2
  have hM := ex_met l hE hlk.2.2.2.2 hln D cI cB ad H.size
  have hstk : (as.reverse ++ .ref k :: st).map (rn ad) = (as.map (rn ad)).reverse ++ .ref (ad k) :: st.map (rn ad) := by
    rw [List.map_append, List.map_reverse]
    rfl
  have hPV : PreV s H y2.1.cls (ad k) (va_Pc ((Value.ref k :: as).map (rn ad)) (PcO ph D cI cB ad n M H.size)) (as.map (rn ad)) := by
    refine ⟨PcO_blind, ?_, pre_of C Wd (.ref k :: as)⟩
    have := va_recv Wd.1 Wd.2.1 (C_cl ci hc.1) (q0 := k) (a := ad k) (ci := ci) (by rw [wsO_at hk, cell_obj hS])
    rw [← hc.2]
    exact this
  have go : va_Run p l e R s m args below meth c H locs cells slots k2 s2 (F0 m pc ls ((as.reverse ++ .ref k :: st).map (rn ad))) (st.map (rn ad)) (QcO y2 Q2 (BxO ph D cI cB ad n n (va_A (wsO ph cI cB ad n M) H.size)) (va_A (wsO ph cI cB ad n M) H.size) (Value.ref (ad k) :: as.map (rn ad)).toArray) (va_A (wsO ph cI cB ad n M) H.size) := by
    rcases hlk.1 with hl1 | ⟨host, hl1⟩
    · exact va_runV ⟨C.1, C.2.1, C.2.2.1, C.2.2.2.1, C.2.2.2.2.1⟩ hM ⟨cb_of C.2.2.2.2.1 hlk hl1 hfr hlo, C.2.2.2.2.1 _ hsel.1, C.2.2.2.2.1 _ hsel.2⟩ hPV rfl (by simp) hl.1 hstk (lv_room (by rw [cat_map]; exact hst)) hd ⟨by omega, by omega⟩
    · exact va_runVN ⟨C.1, C.2.1, C.2.2.1, C.2.2.2.1, C.2.2.2.2.1⟩ hM ⟨cn_of C.2.2.2.2.1 hlk (C.2.2.2.2.2.1 _ hl1) hfr hlo, C.2.2.2.2.1 _ hsel.1, C.2.2.2.2.1 _ hsel.2⟩ hPV rfl (by simp) hl.1 hstk (lv_room (by rw [cat_map]; exact hst)) hd ⟨by omega, by omega⟩
  refine call_go Wd go (fun ad' M' H1 locs1 v ha hq Wd1 => ?_)
  have := kk v M' hq p l e R s m args below meth c D cI cB ad A H1 locs1 (cells + k2) (slots + s2) KC KS Z ls C (Wx_ad Wd1 ha) hl (by omega) (by omega) h3 h4 hZ
  rw [List.map_append] at this
  have hrs : (retS y2 v).map (rn ad) = retS y2 v := by
    unfold retS
    split <;> rfl
  rw [hrs] at this
  exact this
theorem ex_invS {idx : Nat} {y2 : Mt} {as L2 : List Value} {Q2 : Int32 → Mem → Prop} (k2 s2 : Nat) (hd : decode y.2.1 pc = .ok (.invokestatic idx, 3)) (hlk : MLK y.1.cls idx y2 as.length) (hsel : Cond.static y2.1 ∈ gwT) (hrm : rmK y y2) (hL : L0 as y2.2.2.1 = L2) (hln : (lg_sl as).length ≤ y2.2.2.1) (hst : (st.map fun v => v.category).sum ≤ 8) (hE : Ex ph y2 n n k2 s2 0 L2 [] M Q2) (kk : ∀ v M', Q2 v M' → Ex ph y nR n kc ks (pc + 3) L (retS y2 v ++ st) M' Q) : Ex ph y nR n (kc + k2) (ks + s2) pc L (as.reverse ++ st) M Q := by
  subst hL
  intro p l e R s m args below meth c D cI cB ad A H locs cells slots KC KS Z ls C Wd hl h1 h2 h3 h4 hZ
  have hfr : y2.2.2.2.2.1 + 1 ≤ R.frames := Nat.le_trans hrm.1 C.2.2.2.2.2.2.2.1
  have hlo : 8 + (y2.2.2.1 + 11) + y2.2.2.2.2.2 ≤ R.locals := Nat.le_trans hrm.2 C.2.2.2.2.2.2.2.2
  have hM := ex_met l hE hlk.2.2.2.2 hln D cI cB ad H.size
  have hstk : (as.reverse ++ st).map (rn ad) = (as.map (rn ad)).reverse ++ st.map (rn ad) := by
    rw [List.map_append, List.map_reverse]
  have hPS : PreS s H (va_Pc (as.map (rn ad)) (PcO ph D cI cB ad n M H.size)) (as.map (rn ad)) := ⟨PcO_blind, pre_of C Wd as⟩
  have go : va_Run p l e R s m args below meth c H locs cells slots k2 s2 (F0 m pc ls ((as.reverse ++ st).map (rn ad))) (st.map (rn ad)) (QcO y2 Q2 (BxO ph D cI cB ad n n (va_A (wsO ph cI cB ad n M) H.size)) (va_A (wsO ph cI cB ad n M) H.size) (as.map (rn ad)).toArray) (va_A (wsO ph cI cB ad n M) H.size) := by
    rcases hlk.1 with hl1 | ⟨host, hl1⟩
    · exact va_runS ⟨C.1, C.2.1, C.2.2.1, C.2.2.2.1, C.2.2.2.2.1⟩ hM ⟨cb_of C.2.2.2.2.1 hlk hl1 hfr hlo, C.2.2.2.2.1 _ hsel⟩ hPS rfl (by simp) hl.1 hstk (lv_room (by rw [cat_map]; exact hst)) hd ⟨by omega, by omega⟩
    · exact va_runSN ⟨C.1, C.2.1, C.2.2.1, C.2.2.2.1, C.2.2.2.2.1⟩ hM ⟨cn_of C.2.2.2.2.1 hlk (C.2.2.2.2.2.1 _ hl1) hfr hlo, C.2.2.2.2.1 _ hsel, trivial⟩ hPS rfl (by simp) hl.1 hstk (lv_room (by rw [cat_map]; exact hst)) hd ⟨by omega, by omega⟩
  refine call_go Wd go (fun ad' M' H1 locs1 v ha hq Wd1 => ?_)
  have := kk v M' hq p l e R s m args below meth c D cI cB ad A H1 locs1 (cells + k2) (slots + s2) KC KS Z ls C (Wx_ad Wd1 ha) hl (by omega) (by omega) h3 h4 hZ
  rw [List.map_append] at this
  have hrs : (retS y2 v).map (rn ad) = retS y2 v := by
    unfold retS
    split <;> rfl
  rw [hrs] at this
  exact this
/-- a constructor's call: what it makes stays -/
theorem ex_invI {idx k nR2 : Nat} {y2 : Mt} {as L2 : List Value} {Q2 : Int32 → Mem → Prop} (k2 s2 : Nat) (hd : decode y.2.1 pc = .ok (.invokespecial idx, 3)) (hlk : MLK y.1.cls idx y2 as.length) (hsel : Cond.instanceMethod y2.1 ∈ gwT) (hin : y2.1.name = "<init>") (hret : y2.2.2.2.1 = none) (hrm : rmK y y2) (hL : L0 (.ref k :: as) y2.2.2.1 = L2) (hln : (lg_sl (.ref k :: as)).length ≤ y2.2.2.1) (hst : (st.map fun v => v.category).sum ≤ 8) (hok : (L ++ st).all (okv n) = true) (hnn : n ≤ nR2) (hE : Ex ph y2 nR2 n k2 s2 0 L2 [] M Q2) (kk : ∀ v M', Q2 v M' → Ex ph y nR nR2 kc ks (pc + 3) L st M' Q) : Ex ph y nR n (kc + k2) (ks + s2) pc L (as.reverse ++ .ref k :: st) M Q := by
  subst hL
  intro p l e R s m args below meth c D cI cB ad A H locs cells slots KC KS Z ls C Wd hl h1 h2 h3 h4 hZ
  have hfr : y2.2.2.2.2.1 + 1 ≤ R.frames := Nat.le_trans hrm.1 C.2.2.2.2.2.2.2.1
  have hlo : 8 + (y2.2.2.1 + 11) + y2.2.2.2.2.2 ≤ R.locals := Nat.le_trans hrm.2 C.2.2.2.2.2.2.2.2
  have hM := ex_met l hE hlk.2.2.2.2 hln D cI cB ad H.size
  have hstk : (as.reverse ++ .ref k :: st).map (rn ad) = (as.map (rn ad)).reverse ++ .ref (ad k) :: st.map (rn ad) := by
    rw [List.map_append, List.map_reverse]
    rfl
  have hPS : PreS s H (va_Pc ((Value.ref k :: as).map (rn ad)) (PcO ph D cI cB ad n M H.size)) (.ref (ad k) :: as.map (rn ad)) := ⟨PcO_blind, pre_of C Wd (.ref k :: as)⟩
  have go : va_Run p l e R s m args below meth c H locs cells slots k2 s2 (F0 m pc ls ((as.reverse ++ .ref k :: st).map (rn ad))) (st.map (rn ad)) (QcO y2 Q2 (BxO ph D cI cB ad n nR2 (va_A (wsO ph cI cB ad n M) H.size)) (va_A (wsO ph cI cB ad n M) H.size) (Value.ref (ad k) :: as.map (rn ad)).toArray) (va_A (wsO ph cI cB ad n M) H.size) := by
    rcases hlk.1 with hl1 | ⟨host, hl1⟩
    · exact va_runI ⟨C.1, C.2.1, C.2.2.1, C.2.2.2.1, C.2.2.2.2.1⟩ hM ⟨by have := cb_of (kc2 := k2) (ks2 := s2) C.2.2.2.2.1 hlk hl1 hfr hlo; rw [hret] at this; exact this, hin, C.2.2.2.2.1 _ hsel⟩ hPS rfl (by simp) hl.1 hstk (lv_room (by rw [cat_map]; exact hst)) hd ⟨by omega, by omega⟩
    · exact va_runIN ⟨C.1, C.2.1, C.2.2.1, C.2.2.2.1, C.2.2.2.2.1⟩ hM ⟨by have := cn_of (kc2 := k2) (ks2 := s2) C.2.2.2.2.1 hlk (C.2.2.2.2.2.1 _ hl1) hfr hlo; rw [hret] at this; exact this, hin, C.2.2.2.2.1 _ hsel⟩ hPS rfl (by simp) hl.1 hstk (lv_room (by rw [cat_map]; exact hst)) hd ⟨by omega, by omega⟩
  rw [List.all_append, Bool.and_eq_true] at hok
  refine call_go Wd go (fun ad' M' H1 locs1 v ha hq Wd1 => ?_)
  have := kk v M' hq p l e R s m args below meth c D cI cB ad' A H1 locs1 (cells + k2) (slots + s2) KC KS Z ls C Wd1 (by rw [lvO_ok ha hok.1]; exact hl) (by omega) (by omega) h3 h4 (fun ad2 M2 H2 locs2 v2 pc2 ls2 g1 g2 g3 g4 g5 => hZ ad2 M2 H2 locs2 v2 pc2 ls2 (fun k hk => by rw [g1 k (hk.imp (fun h => Nat.lt_of_lt_of_le h hnn) id), ha k hk]) g2 g3 g4 g5)
  rw [map_ok ha hok.2] at this
  rw [retS, hret]
  exact this
theorem ex_obj {idx k : Nat} (hd : decode y.2.1 pc = .ok (.invokespecial idx, 3)) (hlk : Cond.methodLink y.1.cls idx objectInit ∈ gwT ∧ Cond.instanceMethod objectInit ∈ gwT ∧ Cond.code objectInit ⟨#[0xb1]⟩ 1 none ∈ gwT) (hfr : 1 ≤ y.2.2.2.2.1) (hlo : (st.map fun v => v.category).sum + 12 ≤ y.2.2.2.2.2) (kk : Ex ph y nR n kc ks (pc + 3) L st M Q) : Ex ph y nR n kc ks pc L (.ref k :: st) M Q := by
  intro p l e R s m args below meth c D cI cB ad A H locs cells slots KC KS Z ls C Wd hl h1 h2 h3 h4 hZ
  refine W.objInit C.1 C.2.1 C.2.2.2.1 (C.2.2.2.2.1 _ hlk.1) (C.2.2.2.2.1 _ hlk.2.1) (C.2.2.2.2.1 _ hlk.2.2) rfl (hl.1.trans C.2.2.1.symm) rfl hd (Nat.le_trans hfr C.2.2.2.2.2.2.2.1) ?_ ?_
  · show 2 * 0 + _ + 12 ≤ _
    rw [cat_map]
    have := C.2.2.2.2.2.2.2.2
    omega
  · exact kk p l e R s m args below meth c D cI cB ad A H locs cells slots KC KS Z ls C Wd hl h1 h2 h3 h4 hZ
end Inv
