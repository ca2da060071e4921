def okv (n : Nat) : Value → Bool
  | .ref k => decide (k < n) || decide (100 ≤ k)
  | _ => true
theorem rn_ok {ad ad' : Nat → Nat} {n : Nat} {v : Value} (ha : ∀ k, k < n ∨ 100 ≤ k → ad' k = ad k) (h : okv n v = true) : rn ad' v = rn ad v := by
  cases v with
  | ref k =>
    simp only [okv, Bool.or_eq_true, decide_eq_true_eq] at h
    simp only [rn, ha k h]
  | _ => rfl
theorem map_ok {ad ad' : Nat → Nat} {n : Nat} {st : List Value} (ha : ∀ k, k < n ∨ 100 ≤ k → ad' k = ad k) (h : st.all (okv n) = true) : st.map (rn ad') = st.map (rn ad) :=
  List.map_congr_left (fun v hv => rn_ok ha (List.all_eq_true.mp h v hv))
theorem lvO_ok {ad ad' : Nat → Nat} {n : Nat} (ha : ∀ k, k < n ∨ 100 ≤ k → ad' k = ad k) : ∀ {L : List Value} {i : Nat}, L.all (okv n) = true → lvO ad' i L = lvO ad i L
  | [], _, _ => rfl
  | v :: vs, i, h => by
    rw [List.all_cons, Bool.and_eq_true] at h
    unfold lvO
    rw [lvO_ok ha h.2, rn_ok ha h.1]
theorem Wx_shrink {ph : Bool} {D : va_G} {cI cB : ClassId} {ad : Nat → Nat} {n nR : Nat} {A : Nat → Prop} {M : Mem} {s : State} {H : Heap} {locs : List Loc} (h : Wx ph D cI cB ad n A M s H locs) (hR : (nR == n || (ph && decide (78 ≤ nR) && decide (nR ≤ n))) = true) : Wx ph D cI cB ad nR A M s H locs := by
  simp only [Bool.or_eq_true, beq_iff_eq, Bool.and_eq_true, decide_eq_true_eq] at hR
  rcases hR with rfl | ⟨⟨h1, h2⟩, h3⟩
  · exact h
  · obtain ⟨k1, k2, k3, k4, k5, k6, k7, k8, k9⟩ := h
    have hin : ∀ (k : Nat) (q : Nat × va_E), (wsO ph cI cB ad nR M)[k]? = some q → (wsO ph cI cB ad n M)[k]? = some q := by
      intro k q hq
      have hk : k < nR := by
        have := (List.getElem?_eq_some_iff.mp hq).1
        simpa [wsO] using this
      rw [wsO_at hk] at hq
      rw [wsO_at (Nat.lt_of_lt_of_le hk h3)]
      exact hq
    refine ⟨k1, fun k q hq => k2 k q (hin k q hq), ⟨fun i j p q hp hq => k3.1 i j p q (hin i p hp) (hin j q hq), fun k q hq => k3.2 k q (hin k q hq)⟩, k4, k5, ?_, Nat.le_trans h3 k7, fun _ => h2, k9⟩
    intro k j ci q1 q2 q3 q4 q5
    have := k6 k j ci (Nat.lt_of_lt_of_le q1 h3) q2 q3 q4 q5
    rw [h1] at this ⊢
    exact this
section Ret
variable {ph : Bool} {y : Mt} {nR n kc ks pc : Nat} {L st : List Value} {M : Mem} {Q : Int32 → Mem → Prop}
theorem ex_iret {v : Int32} {ty : FieldType} (hd : decode y.2.1 pc = .ok (.ireturn, 1)) (hr : y.2.2.2.1 = some ty) (hn : narrow ty (.int v) = .int v) (hR : (nR == n || (ph && decide (78 ≤ nR) && decide (nR ≤ n))) = true) (hq : Q v M) : Ex ph y nR n kc ks pc L [.int v] M Q := by
  intro p l e R s m args below meth c D cI cB ad A H locs cells slots KC KS Z ls C Wd hl h1 h2 h3 h4 hZ
  have := hZ ad M H locs v pc ls (fun _ _ => rfl) hq (Wx_shrink Wd hR) (by rw [retI, hr]; exact hd) (by rw [narO, hr]; exact hn)
  rw [retS, hr] at this
  exact W.widen (by omega) (by omega) this
theorem ex_vret (hd : decode y.2.1 pc = .ok (.return_, 1)) (hr : y.2.2.2.1 = none) (hR : (nR == n || (ph && decide (78 ≤ nR) && decide (nR ≤ n))) = true) (hq : Q 0 M) : Ex ph y nR n kc ks pc L [] M Q := by
  intro p l e R s m args below meth c D cI cB ad A H locs cells slots KC KS Z ls C Wd hl h1 h2 h3 h4 hZ
  have := hZ ad M H locs 0 pc ls (fun _ _ => rfl) hq (Wx_shrink Wd hR) (by rw [retI, hr]; exact hd) (by rw [narO, hr]; trivial)
  rw [retS, hr] at this
  exact W.widen (by omega) (by omega) this
theorem ex_post {Q2 : Int32 → Mem → Prop} (h : Ex ph y nR n kc ks pc L st M Q2) (hq : ∀ v M', Q2 v M' → Q v M') : Ex ph y nR n kc ks pc L st M Q := by
  intro p l e R s m args below meth c D cI cB ad A H locs cells slots KC KS Z ls C Wd hl h1 h2 h3 h4 hZ
  exact h p l e R s m args below meth c D cI cB ad A H locs cells slots KC KS Z ls C Wd hl h1 h2 h3 h4 (fun ad' M' H' locs' v pc' ls' g1 g2 g3 g4 g5 => hZ ad' M' H' locs' v pc' ls' g1 (hq v M' g2) g3 g4 g5)
/-- fewer locals are enough -/
theorem ex_less {L2 : List Value} (h : Ex ph y nR n kc ks pc L2 st M Q) (hL : ∀ (i : Nat) (v : Value), L2[i]? = some v → nul v = false → L[i]? = some v) : Ex ph y nR n kc ks pc L st M Q := by
  intro p l e R s m args below meth c D cI cB ad A H locs cells slots KC KS Z ls C Wd hl h1 h2 h3 h4 hZ
  refine h p l e R s m args below meth c D cI cB ad A H locs cells slots KC KS Z ls C Wd ⟨hl.1, hl.2.1, fun q hq => hl.2.2 q ?_⟩ h1 h2 h3 h4 hZ
  obtain ⟨j, v, q1, q2, q3⟩ := lvO_mem.mp hq
  exact lvO_mem.mpr ⟨j, v, hL j v q1 q2, q2, q3⟩
end Ret
/-- a method's locals at its entry -/
def L0 (as : List Value) (nL : Nat) : List Value := (as.flatMap fun v => if v.category = 2 then [v, .null] else [v]) ++ List.replicate (nL - (as.flatMap fun v => if v.category = 2 then [v, .null] else [v]).length) .null
theorem nul_null : nul .null = true := rfl
theorem lvO_nulls {ad : Nat → Nat} : ∀ (k i : Nat), lvO ad i (List.replicate k .null) = []
  | 0, _ => rfl
  | k + 1, i => by
    rw [List.replicate_succ]
    unfold lvO
    rw [if_pos nul_null]
    exact lvO_nulls k (i + 1)
theorem L0_in {ad : Nat → Nat} {q : Nat × Value} (k : Nat) : ∀ (as : List Value) (i : Nat), q ∈ lvO ad i ((as.flatMap fun v => if v.category = 2 then [v, .null] else [v]) ++ List.replicate k .null) → q ∈ lv_args i (as.map (rn ad))
  | [], i, h => by
    rw [List.flatMap_nil, List.nil_append, lvO_nulls] at h
    cases h
  | v :: vs, i, h => by
    rw [List.flatMap_cons] at h
    rw [List.map_cons]
    unfold lv_args
    by_cases hc : v.category = 2
    · rw [if_pos hc] at h
      rw [if_pos ((rn_cat v).trans hc)]
      have hn : nul v = false := by
        cases v <;> first | rfl | (simp [Value.category] at hc)
      simp only [List.cons_append, List.nil_append] at h
      unfold lvO at h
      rw [if_neg (by simp [hn])] at h
      unfold lvO at h
      rw [if_pos nul_null] at h
      rcases List.mem_cons.mp h with h | h
      · exact List.mem_cons.mpr (Or.inl h)
      · exact List.mem_cons_of_mem _ (L0_in k vs (i + 1 + 1) h)
    · rw [if_neg hc] at h
      rw [if_neg (fun e => hc ((rn_cat v).symm.trans e))]
      simp only [List.cons_append, List.nil_append] at h
      unfold lvO at h
      by_cases hn : nul v = true
      · rw [if_pos hn] at h
        exact List.mem_cons_of_mem _ (L0_in k vs (i + 1) h)
      · rw [if_neg hn] at h
        rcases List.mem_cons.mp h with h | h
        · exact List.mem_cons.mpr (Or.inl h)
        · exact List.mem_cons_of_mem _ (L0_in k vs (i + 1) h)
def wsM (y : Mt) : List Cond := Cond.code y.1 y.2.1 y.2.2.1 y.2.2.2.1 :: gwT
def rmO (y : Mt) (kc ks : Nat) : Room := { frames := y.2.2.2.2.1, cells := kc, slots := ks, locals := y.2.2.2.2.2 }
def PcO (ph : Bool) (D : va_G) (cI cB : ClassId) (ad : Nat → Nat) (n : Nat) (M : Mem) (sz : Nat) : State → Prop := fun U => U.heap.size = sz ∧ va_K D clO [(cI, .int), (cB, .boolean)] U ∧ va_P D clO (wsO ph cI cB ad n M) U.heap ∧ va_D (fun _ => True) (wsO ph cI cB ad n M) ∧ wfM ph n M ∧ n ≤ 100 ∧ (ph = true → 78 ≤ n) ∧ Tx ad (va_A (wsO ph cI cB ad n M) sz) M U U.heap ∧ ∀ w ∈ nwT, va_Nw w U
def BxO (ph : Bool) (D : va_G) (cI cB : ClassId) (ad : Nat → Nat) (n nR : Nat) (A : Nat → Prop) : Mem → State → Prop := fun M' t => ∃ ad' : Nat → Nat, (∀ k, k < n ∨ 100 ≤ k → ad' k = ad k) ∧ va_K D clO [(cI, .int), (cB, .boolean)] t ∧ va_P D clO (wsO ph cI cB ad' nR M') t.heap ∧ va_D A (wsO ph cI cB ad' nR M') ∧ wfM ph nR M' ∧ nR ≤ 100 ∧ (ph = true → 78 ≤ nR) ∧ Tx ad' A M' t t.heap
def QcO (y : Mt) (Q : Int32 → Mem → Prop) (B : Mem → State → Prop) (A : Nat → Prop) : Array Value → State → Outcome → State → Prop := match y.2.2.2.1 with
  | none => va_Qv (fun M' => ∃ v, Q v M') B A
  | some _ => va_Qi (fun v M' => Q v M') B A
theorem Tx_moved {ad : Nat → Nat} {A : Nat → Prop} {M : Mem} {u U : State} {H : Heap} (hvm : u.vm.Alike U.vm) (h : Tx ad A M u H) : Tx ad A M U H := ⟨fun i hi => (h.1 i hi).moved hvm, fun i hi => (h.2 i hi).moved hvm⟩
theorem Tx_kept {ad : Nat → Nat} {A : Nat → Prop} {M : Mem} {U : State} {H H1 : Heap} (h : Tx ad A M U H) (hq : ∀ a : Nat, a < H.size → ¬ A a → H1[a]? = H[a]?) : Tx ad A M U H1 := ⟨fun i hi => (h.1 i hi).kept hq, fun i hi => (h.2 i hi).kept hq⟩
theorem Tx_narrow {ad : Nat → Nat} {A B : Nat → Prop} {M : Mem} {U : State} {H : Heap} (h : Tx ad A M U H) (hAB : ∀ q, B q → A q) : Tx ad B M U H := ⟨fun i hi => (h.1 i hi).narrow hAB, fun i hi => (h.2 i hi).narrow hAB⟩
theorem Nw_warm {w : Cond} (hw : w ∈ nwT) {s U : State} (hW : s.WarmedH U.vm) (h : va_Nw w s) : va_Nw w U := by
  have h1 := (List.mem_filter.mp hw).2
  cases w <;> first | exact va_Nw.warmF hW h | exact va_Nw.warmM hW h | (cases h1)
theorem Nw_same {w : Cond} (hw : w ∈ nwT) {u U : State} (he : u.vm = U.vm) (h : va_Nw w u) : va_Nw w U := by
  have h1 := (List.mem_filter.mp hw).2
  cases w <;> first | exact va_Nw.same rfl he h | (cases h1)
theorem PcO_blind {ph : Bool} {D : va_G} {cI cB : ClassId} {ad : Nat → Nat} {n sz : Nat} {M : Mem} {av : List Value} : FrameBlind (va_Pc av (PcO ph D cI cB ad n M sz)) := by
  intro a U g mk h
  obtain ⟨h0, h1, h2, h3, h4, h5, h6, h7, h8, h9⟩ := h
  exact ⟨h0, h1, va_K.moved (u := U) (U := U.calling g mk a) (Vm.Alike.refl U.vm) h2, h3, h4, h5, h6, h7, Tx_moved (u := U) (U := U.calling g mk a) (Vm.Alike.refl U.vm) h8, fun w hw => Nw_same (u := U) (U := U.calling g mk a) hw rfl (h9 w hw)⟩
theorem gw_good {y : Mt} (h : Cond.code y.1 y.2.1 y.2.2.1 y.2.2.2.1 ∈ gwT) : GoodIn gwT (wsM y) := by
  have hg : ∀ w ∈ gwT, w ∈ gwT ∧ ((w.onTables && w.keeps) = true ∨ ∃ ty, w = .arrayClass ty) := fun w hw => ⟨hw, good_of_word (List.mem_filter.mp hw).2⟩
  intro w hw
  rcases List.mem_cons.mp hw with rfl | h2
  · exact hg _ h
  · exact hg _ h2
theorem ex_met {ph : Bool} {y : Mt} {nR n kc ks : Nat} {M : Mem} {Q : Int32 → Mem → Prop} {as : List Value} (l : Launch) (hE : Ex ph y nR n kc ks 0 (L0 as y.2.2.1) [] M Q) (hp : plainName y.1.cls = true) (hlen : (lg_sl as).length ≤ y.2.2.1) (D : va_G) (cI cB : ClassId) (ad : Nat → Nat) (sz : Nat) :
    Met l y.1 (wsM y) (rmO y kc ks) (va_Pc (as.map (rn ad)) (PcO ph D cI cB ad n M sz)) (QcO y Q (BxO ph D cI cB ad n nR (va_A (wsO ph cI cB ad n M) sz)) (va_A (wsO ph cI cB ad n M) sz)) kc ks (va_A (wsO ph cI cB ad n M) sz) := by
  refine Met.ofW (cc := y.2.1) (maxL := y.2.2.1) (ret := y.2.2.2.1) hp rfl ?_
  intro p e s m args below meth c s₁ B hml hv
  obtain ⟨rfl, hsz, hK, hP, hD, hwf, hn1, hn2, hT, hN⟩ := hv
  have hts := atoms_spec (ws := wsM y) B.pre
  have hown : s.vm.findClass y.1.cls = some m.cls := findClass_of_methodNamed B.named
  have hlocks := B.notSynchronized
  have hin : meth.name = y.1.name := (name_of_methodNamed B.named B.method).1
  have hlen2 : (lg_sl (as.map (rn ad))).length ≤ y.2.2.1 := by
    have : (lg_sl (as.map (rn ad))).length = (lg_sl as).length := by
      unfold lg_sl
      rw [List.flatMap_map, List.length_flatMap, List.length_flatMap]
      congr 1
      apply List.map_congr_left
      intro v _
      rw [rn_cat]
      by_cases h : v.category = 2
      · rw [if_pos h, if_pos h]; rfl
      · rw [if_neg h, if_neg h]; rfl
    rw [this]; exact hlen
  have hl := lv_entry (as.map (rn ad)) (n := y.2.2.1) hlen2
  rw [lg_entry_eq]
  generalize (lg_sl (as.map (rn ad)) ++ List.replicate (y.2.2.1 - (lg_sl (as.map (rn ad))).length) Slot.unset).toArray = ls at hl ⊢
  subst hsz
  have hl2 : lv_has ls y.2.2.1 (lvO ad 0 (L0 as y.2.2.1)) := ⟨hl.1, hl.2.1, fun q hq => hl.2.2 q (L0_in _ as 0 hq)⟩
  have hD2 := hD.self (sz := s.heap.size)
  refine hE p l e _ s m _ below meth c D cI cB ad (va_A (wsO ph cI cB ad n M) s.heap.size) s.heap [] 0 0 kc ks _ ls ⟨B.exec, B.bytes, hml, hown, fun w hw => hts w (List.mem_cons_of_mem _ hw), hN, hin, Nat.le_refl _, Nat.le_refl _⟩ ⟨hK, hP, hD2, va_S.rf, fun q h => Or.inr h, hwf, hn1, hn2, hT⟩ hl2 (by omega) (by omega) (Nat.le_refl _) (Nat.le_refl _) ?_
  intro ad' M' H' locs' v pc' ls' ha hq hW hdc hnar
  obtain ⟨w1, w2, w3, w4, w5, w6, w7, w8, w9⟩ := hW
  have hB : ∀ t : State, t.heap = H' → s.WarmedH t.vm → BxO ph D cI cB ad n nR (va_A (wsO ph cI cB ad n M) s.heap.size) M' t := fun t ht hWm => ⟨ad', ha, va_K.moved hWm.alike w1, by rw [ht]; exact w2, w3, w6, w7, w8, Tx_moved hWm.alike (by rw [ht]; exact Tx_kept w9 w4.2.1)⟩
  unfold QcO
  cases hr : y.2.2.2.1 with
  | none =>
    rw [retI, hr] at hdc
    rw [retS, hr]
    exact W.vret B.exec B.bytes (B.returns.trans hr) (fun t ht hWm => ⟨⟨M', rfl, ⟨v, hq⟩, hB t ht hWm⟩, w4.F ht⟩) w4.2.2 hdc
  | some ty =>
    rw [retI, hr] at hdc
    rw [retS, hr]
    rw [narO, hr] at hnar
    exact W.zret B.exec B.bytes (B.returns.trans hr) hnar (fun t ht hWm => ⟨⟨v, M', rfl, hq, hB t ht hWm⟩, w4.F ht⟩) w4.2.2 hdc
theorem call_go {ph : Bool} {y2 : Mt} {nR2 n k2 s2 pc : Nat} {M : Mem} {Q2 : Int32 → Mem → Prop} {p : Program} {l : Launch} {e : Env} {R : Room} {s : State} {m : MethodId} {args : Array Value} {below : List Frame} {meth : Method} {c : Code} {D : va_G} {cI cB : ClassId} {ad : Nat → Nat} {A : Nat → Prop} {H : Heap} {locs : List Loc} {cells slots : Nat} {Z : State → Prop} {ls : Array Slot} {st0 rest : List Value} {a : Array Value}
    (Wd : Wx ph D cI cB ad n A M s H locs) (hr : va_Run p l e R s m args below meth c H locs cells slots k2 s2 (F0 m pc ls st0) rest (QcO y2 Q2 (BxO ph D cI cB ad n nR2 (va_A (wsO ph cI cB ad n M) H.size)) (va_A (wsO ph cI cB ad n M) H.size) a) (va_A (wsO ph cI cB ad n M) H.size))
    (kk : ∀ (ad' : Nat → Nat) (M' : Mem) (H1 : Heap) (locs1 : List Loc) (v : Int32), (∀ k, k < n ∨ 100 ≤ k → ad' k = ad k) → Q2 v M' → Wx ph D cI cB ad' nR2 A M' s H1 locs1 → W p l e R s m args below meth c H1 locs1 (cells + k2) (slots + s2) Z (F0 m (pc + 3) ls (retS y2 v ++ rest))) : W p l e R s m args below meth c H locs cells slots Z (F0 m pc ls st0) := by
  have hF : ∀ q, va_A (wsO ph cI cB ad n M) H.size q → A q := by
    intro q h
    rcases h with ⟨k, e, h⟩ | h
    · exact Wd.2.2.1.2 k _ h
    · exact Wd.2.2.2.2.1 q (Nat.le_trans Wd.2.2.2.1.1 h)
  have hback : ∀ (M' : Mem) (t : State) (H1 : Heap) (locs1 : List Loc), t.heap = H1 → s.vm.Alike t.vm → BxO ph D cI cB ad n nR2 (va_A (wsO ph cI cB ad n M) H.size) M' t → va_S A s.heap H1 locs1 → ∃ ad' : Nat → Nat, (∀ k, k < n ∨ 100 ≤ k → ad' k = ad k) ∧ Wx ph D cI cB ad' nR2 A M' s H1 locs1 := by
    intro M' t H1 locs1 ht hvm hB hS1
    obtain ⟨ad', b1, b2, b3, b4, b5, b6, b7, b8⟩ := hB
    rw [ht] at b3
    refine ⟨ad', b1, va_K.moved hvm.symm b2, b3, b4.weaken (fun _ _ _ h => hF _ h), hS1, Wd.2.2.2.2.1, b5, b6, b7, ?_, fun i hi => ?_⟩
    · intro i hi
      obtain ⟨cell, t1, t2, t3, t4, t5, t6, t7⟩ := (b8.1 i hi)
      obtain ⟨cell0, u1, u2, u3, u4, u5, u6, u7⟩ := (Wd.2.2.2.2.2.2.2.2.1 i hi)
      rw [b1 (100 + i) (Or.inr (by omega))] at t1 ⊢
      have hlt : ad (100 + i) < s.heap.size := (Array.getElem?_eq_some_iff.mp u1).1
      have hcell : s.heap[ad (100 + i)]? = some cell := by
        rw [← hS1.2.1 _ hlt u7, ← ht]
        exact t1
      exact ⟨cell, hcell, State.isArrayOf_alike hvm.symm t2, t3, t4, t5, t6, u7⟩
    · rw [b1 (100 + i) (Or.inr (by omega))]
      exact Wd.2.2.2.2.2.2.2.2.2 i hi
  unfold QcO at hr
  cases hy : y2.2.2.2.1 with
  | none =>
    rw [hy] at hr
    refine va_callv hr Wd.2.2.2.1 (fun q _ h => hF q h) hF (fun M' t H1 locs1 ht hvm hw hB hz1 hk1 hS1 => ?_)
    obtain ⟨v, hv⟩ := hw
    obtain ⟨ad', g1, g2⟩ := hback M' t H1 locs1 ht hvm hB hS1
    have := kk ad' M' H1 locs1 v g1 hv g2
    rw [retS, hy] at this
    exact this
  | some ty =>
    rw [hy] at hr
    refine va_calli hr Wd.2.2.2.1 (fun q _ h => hF q h) hF (fun v M' t H1 locs1 ht hvm hw hB hz1 hk1 hS1 => ?_)
    obtain ⟨ad', g1, g2⟩ := hback M' t H1 locs1 ht hvm hB hS1
    have := kk ad' M' H1 locs1 v g1 hw g2
    rw [retS, hy] at this
    exact this
