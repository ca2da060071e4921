def nmC (ci : Nat) : String := match ci with
  | 0 => RX0
  | 1 => RX1
  | 2 => RX2
  | 3 => RX3
  | 4 => RX4
  | 5 => RX5
  | 6 => RX6
  | _ => RX7
def TC (ci : Nat) : u_T := match ci with
  | 0 => TX0
  | 1 => TX1
  | 2 => TX2
  | 3 => TX3
  | 4 => TX4
  | 5 => TX5
  | 6 => TX6
  | _ => TX7
def NC (ci : Nat) : Nat := match ci with
  | 0 => 18
  | 1 => 2
  | 2 => 2
  | 3 => 7
  | 4 => 6
  | 5 => 5
  | 6 => 7
  | _ => 40
theorem C_cl : ∀ ci, ci < 8 → clO[ci]? = some (nmC ci, TC ci, NC ci) := by
  intro ci h
  match ci, h with
  | 0, _ => rfl
  | 1, _ => rfl
  | 2, _ => rfl
  | 3, _ => rfl
  | 4, _ => rfl
  | 5, _ => rfl
  | 6, _ => rfl
  | 7, _ => rfl
theorem mem_gw {w : Cond} (h : w ∈ lw_tbl) (hg : goodWord w = true) : w ∈ gwT := List.mem_filter.mpr ⟨h, hg⟩
theorem mem_nw {w : Cond} (h : w ∈ lw_tbl) (hg : lw_nst w = true) : w ∈ nwT := List.mem_filter.mpr ⟨h, hg⟩
set_option maxRecDepth 100000 in
theorem C_in0 : ((List.range 8).all (fun ci => (u_ws (nmC ci) (TC ci) (NC ci)).all (fun w => decide (w ∈ lw_tbl) && goodWord w))) = true := by decide +kernel
theorem C_in : ∀ ci, ci < 8 → ∀ w ∈ u_ws (nmC ci) (TC ci) (NC ci), w ∈ gwT := by
  intro ci h w hw
  have h1 := List.all_eq_true.mp (List.all_eq_true.mp C_in0 ci (List.mem_range.mpr h)) w hw
  rw [Bool.and_eq_true] at h1
  exact mem_gw (of_decide_eq_true h1.1) h1.2
theorem C_ty : ∀ ci, ci < 8 → ∀ k, k < NC ci → parseFieldDescriptor (TC ci k).2.2.1 = some (tyC ci k) := by
  intro ci h
  match ci, h with
  | 0, _ => exact tyX0_ok
  | 1, _ => exact tyX1_ok
  | 2, _ => exact tyX2_ok
  | 3, _ => exact tyX3_ok
  | 4, _ => exact tyX4_ok
  | 5, _ => exact tyX5_ok
  | 6, _ => exact tyX6_ok
  | 7, _ => exact tyX7_ok
theorem C_nm : ∀ ci, ci < 8 → ∀ a, a < NC ci → ∀ b, b < NC ci → a ≠ b → (TC ci a).2.1 ≠ (TC ci b).2.1 := by
  intro ci h
  match ci, h with
  | 0, _ => exact nmX0
  | 1, _ => exact nmX1
  | 2, _ => exact nmX2
  | 3, _ => exact nmX3
  | 4, _ => exact nmX4
  | 5, _ => exact nmX5
  | 6, _ => exact nmX6
  | 7, _ => exact nmX7
theorem C_own0 : ((List.range 8).all (fun ci => (List.range (NC ci)).all (fun j => (TC ci j).1 == nmC ci))) = true := by decide +kernel
theorem C_own {ci j : Nat} (h : ci < 8) (hj : j < NC ci) : (TC ci j).1 = nmC ci := by
  have h1 := List.all_eq_true.mp (List.all_eq_true.mp C_own0 ci (List.mem_range.mpr h)) j (List.mem_range.mpr hj)
  exact eq_of_beq h1
/-- an instruction's entry idx of class own names field j of class ci -/
def FLK (own : String) (idx ci j : Nat) : Prop := Cond.fieldLink own idx (nmC ci) (TC ci j).2.1 (TC ci j).2.2.1 ∈ gwT ∨ ∃ host, Cond.fieldLinkNest own idx (nmC ci) (TC ci j).2.1 (TC ci j).2.2.1 host ∈ nwT
def SLK (own : String) (idx i : Nat) : Prop := Cond.fieldLink own idx RX6 (sN i) "[I" ∈ gwT ∨ ∃ host, Cond.fieldLinkNest own idx RX6 (sN i) "[I" host ∈ nwT
theorem FLK.a {own : String} {idx ci j : Nat} (h : Cond.fieldLink own idx (nmC ci) (TC ci j).2.1 (TC ci j).2.2.1 ∈ lw_tbl) : FLK own idx ci j := Or.inl (mem_gw h rfl)
theorem FLK.b {own : String} {idx ci j : Nat} (host : String) (h : Cond.fieldLinkNest own idx (nmC ci) (TC ci j).2.1 (TC ci j).2.2.1 host ∈ lw_tbl) : FLK own idx ci j := Or.inr ⟨host, mem_nw h rfl⟩
theorem SLK.a {own : String} {idx i : Nat} (h : Cond.fieldLink own idx RX6 (sN i) "[I" ∈ lw_tbl) : SLK own idx i := Or.inl (mem_gw h rfl)
theorem SLK.b {own : String} {idx i : Nat} (host : String) (h : Cond.fieldLinkNest own idx RX6 (sN i) "[I" host ∈ lw_tbl) : SLK own idx i := Or.inr ⟨host, mem_nw h rfl⟩
theorem cell_obj {ph : Bool} {cI cB : ClassId} {ad : Nat → Nat} {k ci N : Nat} {m : Nat → Int32} (hS : S0 k = (ci + 2, N)) : cellE ph cI cB ad k m = .inr (ci, (List.range N).map (fun j => encF ph ad k ci j (m j))) := by
  unfold cellE
  rw [hS]
theorem cell_row {ph : Bool} {cI cB : ClassId} {ad : Nat → Nat} {k N : Nat} {m : Nat → Int32} (hS : S0 k = (0, N)) : cellE ph cI cB ad k m = .inl (cI, N, .inl m) := by
  unfold cellE
  rw [hS]
theorem cell_brow {ph : Bool} {cI cB : ClassId} {ad : Nat → Nat} {k N : Nat} {m : Nat → Int32} (hS : S0 k = (1, N)) : cellE ph cI cB ad k m = .inl (cB, N, .inl m) := by
  unfold cellE
  rw [hS]
theorem mset_k {M : Mem} {k j : Nat} {x : Int32} : mset M k j x k = upd (M k) j x := by simp [mset]
theorem mset_o {M : Mem} {k j a : Nat} {x : Int32} (h : a ≠ k) : mset M k j x a = M a := by simp [mset, h]
theorem mrow_k {M : Mem} {k : Nat} {f : Nat → Int32} : mrow M k f k = f := by simp [mrow]
theorem mrow_o {M : Mem} {k a : Nat} {f : Nat → Int32} (h : a ≠ k) : mrow M k f a = M a := by simp [mrow, h]
theorem Tx_same {ad : Nat → Nat} {A : Nat → Prop} {M M' : Mem} {s : State} {H : Heap} (h : Tx ad A M s H) (hM : ∀ a, 100 ≤ a → M' a = M a) : Tx ad A M' s H := by
  refine ⟨fun i hi => ?_, h.2⟩
  rw [hM (100 + i) (by omega), hM 110 (by omega)]
  exact h.1 i hi
section Heap
variable {ph : Bool} {y : Mt} {nR n kc ks pc : Nat} {L st : List Value} {M : Mem} {Q : Int32 → Mem → Prop}
theorem ex_get {idx k ci j : Nat} {v : Value} (hd : decode y.2.1 pc = .ok (.getfield idx, 3)) (hk : k < n) (hS : S0 k = (ci + 2, NC ci)) (hci : ci < 8) (hj : j < NC ci) (hlk : FLK y.1.cls idx ci j) (hv : ∀ ad, encF ph ad k ci j (M k j) = rn ad v) (kk : Ex ph y nR n kc ks (pc + 3) L (v :: st) M Q) : Ex ph y nR n kc ks pc L (.ref k :: st) M Q := by
  intro p l e R s m args below meth c D cI cB ad A H locs cells slots KC KS Z ls C Wd hl h1 h2 h3 h4 hZ
  have hw : (wsO ph cI cB ad n M)[k]? = some (ad k, .inr (ci, (List.range (NC ci)).map (fun j => encF ph ad k ci j (M k j)))) := by rw [wsO_at hk, cell_obj hS]
  have hf : ((List.range (NC ci)).map (fun j => encF ph ad k ci j (M k j)))[j]? = some (rn ad v) := by simp [hj, hv ad]
  have hsame : ∀ x, s.fieldFound? (TC ci j).1 (TC ci j).2.1 (TC ci j).2.2.1 = some x → s.fieldFound? (nmC ci) (TC ci j).2.1 (TC ci j).2.2.1 = some x := by rw [C_own hci hj]; exact fun _ h => h
  rcases hlk with hlk | ⟨host, hlk⟩
  · exact va_get C.1 C.2.1 C.2.2.2.2.1 (C_in ci hci) C.2.2.2.1 Wd.1 Wd.2.1 k hw (C_cl ci hci) j hj (C.2.2.2.2.1 _ hlk) hsame hf hd (kk p l e R s m args below meth c D cI cB ad A H locs cells slots KC KS Z ls C Wd hl h1 h2 h3 h4 hZ)
  · exact va_getN C.1 C.2.1 C.2.2.2.2.1 (C_in ci hci) C.2.2.2.1 Wd.1 Wd.2.1 k hw (C_cl ci hci) j hj (va_Nw.use rfl (C.2.2.2.2.2.1 _ hlk)) hsame hf hd (kk p l e R s m args below meth c D cI cB ad A H locs cells slots KC KS Z ls C Wd hl h1 h2 h3 h4 hZ)
/-- an int or boolean field -/
theorem ex_getI {idx k ci j : Nat} (hd : decode y.2.1 pc = .ok (.getfield idx, 3)) (hk : k < n) (hS : S0 k = (ci + 2, NC ci)) (hq : (decide (ci < 8) && decide (j < NC ci) && !rfq ci j) = true) (hlk : FLK y.1.cls idx ci j) (kk : Ex ph y nR n kc ks (pc + 3) L (.int (M k j) :: st) M Q) : Ex ph y nR n kc ks pc L (.ref k :: st) M Q := by
  simp only [Bool.and_eq_true, decide_eq_true_eq, Bool.not_eq_true'] at hq
  exact ex_get hd hk hS hq.1.1 hq.1.2 hlk (fun ad => by simp [encF, hq.2, rn]) kk
/-- a final field that names a place -/
theorem ex_getR {idx k ci j v : Nat} (hd : decode y.2.1 pc = .ok (.getfield idx, 3)) (hk : k < n) (hS : S0 k = (ci + 2, NC ci)) (hq : (decide (ci < 8) && decide (j < NC ci) && rfq ci j) = true) (hlk : FLK y.1.cls idx ci j) (hF : FR k j = v) (hv : ¬ v = 0) (kk : Ex true y nR n kc ks (pc + 3) L (.ref v :: st) M Q) : Ex true y nR n kc ks pc L (.ref k :: st) M Q := by
  simp only [Bool.and_eq_true, decide_eq_true_eq] at hq
  exact ex_get hd hk hS hq.1.1 hq.1.2 hlk (fun ad => by simp [encF, hq.2, rn, hF, hv]) kk
/-- a field that names a place by what it holds -/
theorem ex_getD {idx k ci j v : Nat} (hd : decode y.2.1 pc = .ok (.getfield idx, 3)) (hk : k < n) (hS : S0 k = (ci + 2, NC ci)) (hq : (decide (ci < 8) && decide (j < NC ci) && rfq ci j) = true) (hlk : FLK y.1.cls idx ci j) (hF : (ph && !(FR k j == 0)) = false) (hx : M k j = nI v) (hv : v < 100) (kk : Ex ph y nR n kc ks (pc + 3) L (.ref v :: st) M Q) : Ex ph y nR n kc ks pc L (.ref k :: st) M Q := by
  simp only [Bool.and_eq_true, decide_eq_true_eq] at hq
  refine ex_get hd hk hS hq.1.1 hq.1.2 hlk (fun ad => ?_) kk
  have h2 : ¬ (nI v < 0) := nI_pos (by omega)
  unfold encF
  rw [if_pos hq.2, hF, hx, if_neg (by simp), if_neg h2, nI_clamp (by omega)]
  rfl
theorem enc_set {ph : Bool} {ad : Nat → Nat} {k ci N j : Nat} {m : Nat → Int32} {x : Int32} {v : Value} (hj : j < N) (hv : encF ph ad k ci j x = v) : ((List.range N).map (fun j => encF ph ad k ci j (m j))).set j v = (List.range N).map (fun i => encF ph ad k ci i (upd m j x i)) := by
  apply List.ext_getElem?
  intro i
  rw [List.getElem?_set]
  by_cases h : j = i
  · subst h
    simp [hj, upd, hv]
  · rw [if_neg h]
    by_cases hi : i < N
    · simp [hi, upd, Ne.symm h]
    · simp [hi]
theorem ex_put {idx k ci j : Nat} {x : Int32} {v : Value} (hd : decode y.2.1 pc = .ok (.putfield idx, 3)) (hk : k < n) (hS : S0 k = (ci + 2, NC ci)) (hci : ci < 8) (hj : j < NC ci) (hlk : FLK y.1.cls idx ci j) (hfin : (TC ci j).2.2.2 = false ∨ (y.1.name = "<init>" ∧ nmC ci = y.1.cls ∧ Cond.fieldLink y.1.cls idx (nmC ci) (TC ci j).2.1 (TC ci j).2.2.1 ∈ gwT)) (hv : ∀ ad, encF ph ad k ci j x = rn ad v) (hnf : ∀ ad, narrow (tyC ci j) (rn ad v) = rn ad v ∧ fits (tyC ci j) (rn ad v) = true) (hwf : rfq ci j = true → ¬ x < 0 → x.toNatClampNeg < if ph then 78 else n) (kk : Ex ph y nR n kc ks (pc + 3) L st (mset M k j x) Q) : Ex ph y nR n kc ks pc L (v :: .ref k :: st) M Q := by
  intro p l e R s m args below meth c D cI cB ad A H locs cells slots KC KS Z ls C Wd hl h1 h2 h3 h4 hZ
  have hw : (wsO ph cI cB ad n M)[k]? = some (ad k, .inr (ci, (List.range (NC ci)).map (fun j => encF ph ad k ci j (M k j)))) := by rw [wsO_at hk, cell_obj hS]
  have hsame : ∀ x, s.fieldFound? (TC ci j).1 (TC ci j).2.1 (TC ci j).2.2.1 = some x → s.fieldFound? (nmC ci) (TC ci j).2.1 (TC ci j).2.2.1 = some x := by rw [C_own hci hj]; exact fun _ h => h
  have hlen : j < ((List.range (NC ci)).map (fun j => encF ph ad k ci j (M k j))).length := by simpa using hj
  have hset : (wsO ph cI cB ad n M).set k (ad k, .inr (ci, ((List.range (NC ci)).map (fun j => encF ph ad k ci j (M k j))).set j (rn ad v))) = wsO ph cI cB ad n (mset M k j x) := by
    rw [enc_set hj (hv ad), ← wsO_set (M := M) (M' := mset M k j x) (k := k) (fun a h => mset_o h), cell_obj hS, mset_k]
  have hgo : ∀ (H1 : Heap) (locs1 : List Loc), va_P D clO ((wsO ph cI cB ad n M).set k (ad k, .inr (ci, ((List.range (NC ci)).map (fun j => encF ph ad k ci j (M k j))).set j (rn ad v)))) H1 → va_D A ((wsO ph cI cB ad n M).set k (ad k, .inr (ci, ((List.range (NC ci)).map (fun j => encF ph ad k ci j (M k j))).set j (rn ad v)))) → va_S A s.heap H1 locs1 → W p l e R s m args below meth c H1 locs1 cells slots Z (F0 m (pc + 3) ls (st.map (rn ad))) := by
    intro H1 locs1 g1 g2 g3
    rw [hset] at g1 g2
    refine kk p l e R s m args below meth c D cI cB ad A H1 locs1 cells slots KC KS Z ls C ⟨Wd.1, g1, g2, g3, Wd.2.2.2.2.1, ?_, Wd.2.2.2.2.2.2.1, Wd.2.2.2.2.2.2.2.1, Tx_same Wd.2.2.2.2.2.2.2.2 (fun a ha => mset_o (by have := Wd.2.2.2.2.2.2.1; omega))⟩ hl h1 h2 h3 h4 hZ
    intro k2 j2 c2 q1 q2 q3 q4 q5
    by_cases e1 : k2 = k
    · subst e1
      rw [mset_k] at q5 ⊢
      have e3 : c2 = ci := by
        rw [hS] at q2
        simp only at q2
        omega
      subst e3
      by_cases e2 : j2 = j
      · subst e2
        simp only [upd, if_pos] at q5 ⊢
        exact hwf q4 q5
      · simp only [upd, if_neg e2] at q5 ⊢
        exact Wd.2.2.2.2.2.1 k2 j2 c2 q1 q2 q3 q4 q5
    · rw [mset_o e1] at q5 ⊢
      exact Wd.2.2.2.2.2.1 k2 j2 c2 q1 q2 q3 q4 q5
  by_cases hf2 : (TC ci j).2.2.2 = false
  · rcases hlk with hlk | ⟨host, hlk⟩
    · exact va_put C.1 C.2.1 C.2.2.2.2.1 (C_in ci hci) (tyC ci) (C_ty ci hci) (C_nm ci hci) C.2.2.2.1 Wd.1 Wd.2.1 Wd.2.2.1 Wd.2.2.2.1 k hw (C_cl ci hci) j hj (C.2.2.2.2.1 _ hlk) hsame hf2 (C_ty ci hci j hj) (hnf ad).1 (hnf ad).2 hlen hd hgo
    · exact va_putN C.1 C.2.1 C.2.2.2.2.1 (C_in ci hci) (tyC ci) (C_ty ci hci) (C_nm ci hci) C.2.2.2.1 Wd.1 Wd.2.1 Wd.2.2.1 Wd.2.2.2.1 k hw (C_cl ci hci) j hj (va_Nw.use rfl (C.2.2.2.2.2.1 _ hlk)) hsame hf2 (C_ty ci hci j hj) (hnf ad).1 (hnf ad).2 hlen hd hgo
  · rcases hfin with h | ⟨g1, g2, g3⟩
    · exact absurd h hf2
    · exact va_putF C.1 C.2.1 C.2.2.2.2.1 (C_in ci hci) (tyC ci) (C_ty ci hci) (C_nm ci hci) C.2.2.2.1 Wd.1 Wd.2.1 Wd.2.2.1 Wd.2.2.2.1 k hw (C_cl ci hci) j hj (C.2.2.2.2.1 _ g3) hsame (by simpa using hf2) (C.2.2.2.2.2.2.1.trans g1) ((C_own hci hj).trans g2) (C_ty ci hci j hj) (hnf ad).1 (hnf ad).2 hlen hd hgo
theorem ex_putI {idx k ci j : Nat} {x : Int32} (hd : decode y.2.1 pc = .ok (.putfield idx, 3)) (hk : k < n) (hS : S0 k = (ci + 2, NC ci)) (hq : (decide (ci < 8) && decide (j < NC ci) && !rfq ci j && !(TC ci j).2.2.2) = true) (hlk : FLK y.1.cls idx ci j) (hnf : narrow (tyC ci j) (.int x) = .int x ∧ fits (tyC ci j) (.int x) = true) (kk : Ex ph y nR n kc ks (pc + 3) L st (mset M k j x) Q) : Ex ph y nR n kc ks pc L (.int x :: .ref k :: st) M Q := by
  simp only [Bool.and_eq_true, decide_eq_true_eq, Bool.not_eq_true'] at hq
  exact ex_put hd hk hS hq.1.1.1 hq.1.1.2 hlk (Or.inl hq.2) (fun ad => by simp [encF, hq.1.2, rn]) (fun _ => hnf) (fun h => by rw [hq.1.2] at h; cases h) kk
theorem ex_putD {idx k ci j v : Nat} (hd : decode y.2.1 pc = .ok (.putfield idx, 3)) (hk : k < n) (hS : S0 k = (ci + 2, NC ci)) (hq : (decide (ci < 8) && decide (j < NC ci) && rfq ci j) = true) (hlk : FLK y.1.cls idx ci j) (hfin : (TC ci j).2.2.2 = false ∨ (y.1.name = "<init>" ∧ nmC ci = y.1.cls ∧ Cond.fieldLink y.1.cls idx (nmC ci) (TC ci j).2.1 (TC ci j).2.2.1 ∈ gwT)) (hF : (ph && !(FR k j == 0)) = false) (hv : v < if ph then 78 else n) (hv2 : v < 100) (hnf : ∀ a, narrow (tyC ci j) (.ref a) = .ref a ∧ fits (tyC ci j) (.ref a) = true) (kk : Ex ph y nR n kc ks (pc + 3) L st (mset M k j (nI v)) Q) : Ex ph y nR n kc ks pc L (.ref v :: .ref k :: st) M Q := by
  simp only [Bool.and_eq_true, decide_eq_true_eq] at hq
  have h2 : ¬ (nI v < 0) := nI_pos (by omega)
  refine ex_put hd hk hS hq.1.1 hq.1.2 hlk hfin (fun ad => ?_) (fun ad => hnf _) (fun _ _ => by rw [nI_clamp (by omega)]; exact hv) kk
  unfold encF
  rw [if_pos hq.2, hF, if_neg (by simp), if_neg h2, nI_clamp (by omega)]
  rfl
theorem ex_gets {idx i : Nat} (hd : decode y.2.1 pc = .ok (.getstatic idx, 3)) (hi : i < 8) (hlk : SLK y.1.cls idx i) (kk : Ex ph y nR n kc ks (pc + 3) L (.ref (100 + i) :: st) M Q) : Ex ph y nR n kc ks pc L st M Q := by
  intro p l e R s m args below meth c D cI cB ad A H locs cells slots KC KS Z ls C Wd hl h1 h2 h3 h4 hZ
  rcases hlk with hlk | ⟨host, hlk⟩
  · exact va_gets C.1 C.2.1 (Wd.2.2.2.2.2.2.2.2.2 i hi) Wd.2.2.2.1 C.2.2.2.1 (C.2.2.2.2.1 _ hlk) (fun _ h => h) hd (kk p l e R s m args below meth c D cI cB ad A H locs cells slots KC KS Z ls C Wd hl h1 h2 h3 h4 hZ)
  · exact va_getsN C.1 C.2.1 (Wd.2.2.2.2.2.2.2.2.2 i hi) Wd.2.2.2.1 C.2.2.2.1 (va_Nw.use rfl (C.2.2.2.2.2.1 _ hlk)) (fun _ h => h) hd (kk p l e R s m args below meth c D cI cB ad A H locs cells slots KC KS Z ls C Wd hl h1 h2 h3 h4 hZ)
theorem ex_iald {k len : Nat} {i : Int32} (hd : decode y.2.1 pc = .ok (.iaload, 1)) (hk : k < n) (hS : S0 k = (0, len)) (hin : vp_in i len) (kk : Ex ph y nR n kc ks (pc + 1) L (.int (M k i.toNatClampNeg) :: st) M Q) : Ex ph y nR n kc ks pc L (.int i :: .ref k :: st) M Q := by
  intro p l e R s m args below meth c D cI cB ad A H locs cells slots KC KS Z ls C Wd hl h1 h2 h3 h4 hZ
  exact va_iald C.1 C.2.1 Wd.1 Wd.2.1 k 0 (by rw [wsO_at hk, cell_row hS]) rfl hin hd (kk p l e R s m args below meth c D cI cB ad A H locs cells slots KC KS Z ls C Wd hl h1 h2 h3 h4 hZ)
theorem ex_zald {k len : Nat} {i : Int32} (hd : decode y.2.1 pc = .ok (.baload, 1)) (hk : k < n) (hS : S0 k = (1, len)) (hin : vp_in i len) (kk : Ex ph y nR n kc ks (pc + 1) L (.int (M k i.toNatClampNeg) :: st) M Q) : Ex ph y nR n kc ks pc L (.int i :: .ref k :: st) M Q := by
  intro p l e R s m args below meth c D cI cB ad A H locs cells slots KC KS Z ls C Wd hl h1 h2 h3 h4 hZ
  exact va_zald C.1 C.2.1 Wd.1 Wd.2.1 k 1 (by rw [wsO_at hk, cell_brow hS]) rfl hin hd (kk p l e R s m args below meth c D cI cB ad A H locs cells slots KC KS Z ls C Wd hl h1 h2 h3 h4 hZ)
theorem ex_tald {i : Nat} {x : Int32} (hd : decode y.2.1 pc = .ok (.iaload, 1)) (hi : i < 9) (hin : vp_in x (M 110 i).toNatClampNeg) (kk : Ex ph y nR n kc ks (pc + 1) L (.int (M (100 + i) x.toNatClampNeg) :: st) M Q) : Ex ph y nR n kc ks pc L (.int x :: .ref (100 + i) :: st) M Q := by
  intro p l e R s m args below meth c D cI cB ad A H locs cells slots KC KS Z ls C Wd hl h1 h2 h3 h4 hZ
  exact va_ti C.1 C.2.1 (Wd.2.2.2.2.2.2.2.2.1 i hi) Wd.2.2.2.1 hin rfl hd (kk p l e R s m args below meth c D cI cB ad A H locs cells slots KC KS Z ls C Wd hl h1 h2 h3 h4 hZ)
theorem ex_alen {k len : Nat} (hd : decode y.2.1 pc = .ok (.arraylength, 1)) (hk : k < n) (hS : S0 k = (0, len)) (kk : Ex ph y nR n kc ks (pc + 1) L (.int (nI len) :: st) M Q) : Ex ph y nR n kc ks pc L (.ref k :: st) M Q := by
  intro p l e R s m args below meth c D cI cB ad A H locs cells slots KC KS Z ls C Wd hl h1 h2 h3 h4 hZ
  exact va_alen (x := (len, .inl (M k))) (cA := cI) (v := nI len) C.1 C.2.1 Wd.1 Wd.2.1 k 0 (by rw [wsO_at hk, cell_row hS]) rfl rfl hd (kk p l e R s m args below meth c D cI cB ad A H locs cells slots KC KS Z ls C Wd hl h1 h2 h3 h4 hZ)
theorem ex_tlen {i : Nat} (hd : decode y.2.1 pc = .ok (.arraylength, 1)) (hi : i < 9) (kk : Ex ph y nR n kc ks (pc + 1) L (.int (nI (M 110 i).toNatClampNeg) :: st) M Q) : Ex ph y nR n kc ks pc L (.ref (100 + i) :: st) M Q := by
  intro p l e R s m args below meth c D cI cB ad A H locs cells slots KC KS Z ls C Wd hl h1 h2 h3 h4 hZ
  exact va_tlen C.1 C.2.1 (Wd.2.2.2.2.2.2.2.2.1 i hi) Wd.2.2.2.1 rfl hd (kk p l e R s m args below meth c D cI cB ad A H locs cells slots KC KS Z ls C Wd hl h1 h2 h3 h4 hZ)
theorem Wx_row {D : va_G} {cI cB : ClassId} {ad : Nat → Nat} {A : Nat → Prop} {s : State} {H H1 : Heap} {locs locs1 : List Loc} {k N tg : Nat} {M' : Mem} (Wd : Wx ph D cI cB ad n A M s H locs) (hk : k < n) (hS : S0 k = (tg, N)) (htg : tg < 2) (hM : ∀ a, a ≠ k → M' a = M a) (g1 : va_P D clO ((wsO ph cI cB ad n M).set k (ad k, cellE ph cI cB ad k (M' k))) H1) (g2 : va_D A ((wsO ph cI cB ad n M).set k (ad k, cellE ph cI cB ad k (M' k)))) (g3 : va_S A s.heap H1 locs1) : Wx ph D cI cB ad n A M' s H1 locs1 := by
  rw [wsO_set hM] at g1 g2
  refine ⟨Wd.1, g1, g2, g3, Wd.2.2.2.2.1, ?_, Wd.2.2.2.2.2.2.1, Wd.2.2.2.2.2.2.2.1, Tx_same Wd.2.2.2.2.2.2.2.2 (fun a ha => hM a (by have := Wd.2.2.2.2.2.2.1; omega))⟩
  intro k2 j2 c2 q1 q2 q3 q4 q5
  have e : k2 ≠ k := by
    intro e
    subst e
    rw [hS] at q2
    simp only at q2
    omega
  rw [hM k2 e] at q5 ⊢
  exact Wd.2.2.2.2.2.1 k2 j2 c2 q1 q2 q3 q4 q5
theorem ex_iast {k len : Nat} {i x : Int32} (hd : decode y.2.1 pc = .ok (.iastore, 1)) (hk : k < n) (hS : S0 k = (0, len)) (hin : vp_in i len) (kk : Ex ph y nR n kc ks (pc + 1) L st (mset M k i.toNatClampNeg x) Q) : Ex ph y nR n kc ks pc L (.int x :: .int i :: .ref k :: st) M Q := by
  intro p l e R s m args below meth c D cI cB ad A H locs cells slots KC KS Z ls C Wd hl h1 h2 h3 h4 hZ
  refine va_iast C.1 C.2.1 Wd.1 Wd.2.1 Wd.2.2.1 Wd.2.2.2.1 k 0 (by rw [wsO_at hk, cell_row hS]) rfl hin hd (fun H1 locs1 g1 g2 g3 => ?_)
  exact kk p l e R s m args below meth c D cI cB ad A H1 locs1 cells slots KC KS Z ls C (Wx_row Wd hk hS (by decide) (fun a h => mset_o h) (by rw [cell_row hS, mset_k]; exact g1) (by rw [cell_row hS, mset_k]; exact g2) g3) hl h1 h2 h3 h4 hZ
theorem ex_zast {k len : Nat} {i x : Int32} (hd : decode y.2.1 pc = .ok (.bastore, 1)) (hk : k < n) (hS : S0 k = (1, len)) (hin : vp_in i len) (hx : vp_nar .boolean x = x) (kk : Ex ph y nR n kc ks (pc + 1) L st (mset M k i.toNatClampNeg x) Q) : Ex ph y nR n kc ks pc L (.int x :: .int i :: .ref k :: st) M Q := by
  intro p l e R s m args below meth c D cI cB ad A H locs cells slots KC KS Z ls C Wd hl h1 h2 h3 h4 hZ
  refine va_zast C.1 C.2.1 Wd.1 Wd.2.1 Wd.2.2.1 Wd.2.2.2.1 k 1 (by rw [wsO_at hk, cell_brow hS]) rfl hin hd (fun H1 locs1 g1 g2 g3 => ?_)
  rw [hx] at g1 g2
  exact kk p l e R s m args below meth c D cI cB ad A H1 locs1 cells slots KC KS Z ls C (Wx_row Wd hk hS (by decide) (fun a h => mset_o h) (by rw [cell_brow hS, mset_k]; exact g1) (by rw [cell_brow hS, mset_k]; exact g2) g3) hl h1 h2 h3 h4 hZ
/-- System.arraycopy between two rows of ints -/
theorem ex_copy {idx k0 k1 n0 n1 : Nat} {sp dp x : Int32} (hd : decode y.2.1 pc = .ok (.invokestatic idx, 3)) (hlk : Cond.methodLink y.1.cls idx arraycopyName ∈ gwT ∧ Cond.native arraycopyName ∈ gwT ∧ Cond.static arraycopyName ∈ gwT ∧ Cond.initialized "java/lang/System" ∈ gwT) (hk0 : k0 < n) (hk1 : k1 < n) (hS0 : S0 k0 = (0, n0)) (hS1 : S0 k1 = (0, n1)) (g1 : ¬ sp < 0) (g2 : ¬ dp < 0) (g3 : ¬ x < 0) (g4 : sp.toNatClampNeg + x.toNatClampNeg ≤ n0) (g5 : dp.toNatClampNeg + x.toNatClampNeg ≤ n1) (hfr : 1 ≤ y.2.2.2.2.1) (hlo : (st.map fun v => v.category).sum + (nativeFrameWords "java/lang/System" "arraycopy" 5 + 11) ≤ y.2.2.2.2.2) (kk : Ex ph y nR n kc ks (pc + 3) L st (mrow M k1 (va_cpy (M k0) (M k1) sp.toNatClampNeg dp.toNatClampNeg x.toNatClampNeg)) Q) : Ex ph y nR n kc ks pc L (.int x :: .int dp :: .ref k1 :: .int sp :: .ref k0 :: st) M Q := by
  intro p l e R s m args below meth c D cI cB ad A H locs cells slots KC KS Z ls C Wd hl h1 h2 h3 h4 hZ
  have hcat : ((st.map (rn ad)).map fun v => v.category) = st.map fun v => v.category := by
    rw [List.map_map]
    exact List.map_congr_left (fun v _ => rn_cat v)
  refine va_copyi C.1 C.2.1 (C.2.2.1.trans hl.1.symm) C.2.2.2.1 (C.2.2.2.2.1 _ hlk.1) (C.2.2.2.2.1 _ hlk.2.1) (C.2.2.2.2.1 _ hlk.2.2.1) (C.2.2.2.2.1 _ hlk.2.2.2) Wd.1 Wd.2.1 Wd.2.2.1 Wd.2.2.2.1 k0 k1 0 0 (by rw [wsO_at hk0, cell_row hS0]) (by rw [wsO_at hk1, cell_row hS1]) rfl rfl rfl g1 g2 g3 g4 g5 (fun _ _ => rfl) (Nat.le_trans hfr C.2.2.2.2.2.2.2.1) (by rw [hcat]; exact Nat.le_trans hlo C.2.2.2.2.2.2.2.2) hd (fun H1 locs1 g1 g2 g3 => ?_)
  exact kk p l e R s m args below meth c D cI cB ad A H1 locs1 cells slots KC KS Z ls C (Wx_row Wd hk1 hS1 (by decide) (fun a h => mrow_o h) (by rw [cell_row hS1, mrow_k]; exact g1) (by rw [cell_row hS1, mrow_k]; exact g2) g3) hl h1 h2 h3 h4 hZ
end Heap
