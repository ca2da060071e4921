section Lay
variable {M0 M : Mem} {S : Mus} {mk sg : Nat → Int} {L : List Int} {st : Option Int} {Q : Int32 → Mem → Prop}
def RWT (M : Mem) (st : Option Int) : Prop := match st with
  | none => M 46 27 = 1
  | some p => M 46 27 = 0 ∧ M 46 28 = zI p ∧ 7 ≤ p ∧ p ≤ 55
/-- what the reference's writer stands on -/
def PB (M0 : Mem) (S : Mus) (mk sg : Nat → Int) : Prop := RM M0 0 S ∧ RT M0 ∧ MV S ∧ GV S ∧ (∀ i : Nat, i < gNi S → MKR M0 mk i) ∧ ∀ b v : Nat, b < gNb S → v < gVo S b → M0 75 (3 * b + v) = zI (sg (3 * b + v)) ∧ (sg (3 * b + v) = 0 ∨ sg (3 * b + v) = 1)
def PS (M0 M : Mem) (L : List Int) (st : Option Int) : Prop := (∀ k : Nat, k ≠ 46 → k ≠ 76 → M k = M0 k) ∧ (∀ j : Nat, j ≠ 27 → j ≠ 28 → j ≠ 37 → M 46 j = M0 46 j) ∧ TP M 46 37 76 L ∧ RWT M st
theorem RWT_of {M M' : Mem} (h : RWT M st) (e1 : M' 46 27 = M 46 27) (e2 : M' 46 28 = M 46 28) : RWT M' st := by
  unfold RWT at h ⊢
  rw [e1, e2]
  exact h
theorem x_lay {a : Int} (h : PS M0 M L st) (hl : L.length ≤ 900000) (hQ : ∀ M' : Mem, PS M0 M' (L ++ [a]) st → Q 0 M') : w_X7_lay (zI a) M Q := by
  obtain ⟨h1, h2, h3, h4⟩ := h
  unfold w_X7_lay
  rw [h3.1, lz4000, zI_le (by omega) (by omega) (by omega) (by omega), zI_in (by omega) (by omega), zI_tn (by omega) (by omega), tn_nat, lz1, zI_add]
  refine ⟨fun q M1 e1 => ?_, fun q => ⟨by omega, fun M3 e3 M4 e4 => ?_⟩⟩
  · exact hQ M1 ⟨fun k g1 g2 => by rw [e1, mset_o g1]; exact h1 k g1 g2, fun j g1 g2 g3 => by rw [e1, mset_j g3]; exact h2 j g1 g2 g3, TP_over h3 (by omega) (by omega) e1, RWT_of h4 (by rw [e1, mset_j (by omega)]) (by rw [e1, mset_j (by omega)])⟩
  · have e5 : M3 46 37 = zI (L.length : Int) := by rw [e3, mset_o (by omega)]; exact h3.1
    rw [e5, zI_add] at e4
    exact hQ M4 ⟨fun k g1 g2 => by rw [e4, mset_o g1, e3, mset_o g2]; exact h1 k g1 g2, fun j g1 g2 g3 => by rw [e4, mset_j g3, e3, mset_o (by omega)]; exact h2 j g1 g2 g3, TP_snoc h3 (by omega) e3 e4, RWT_of h4 (by rw [e4, mset_j (by omega), e3, mset_o (by omega)]) (by rw [e4, mset_j (by omega), e3, mset_o (by omega)])⟩
theorem x_laySign {s : Int} (h : PS M0 M L st) (hl : L.length ≤ 800000) (hs : 0 ≤ s ∧ s ≤ 3) (hQ : ∀ M' : Mem, PS M0 M' (L ++ sigC s) st → Q 0 M') : w_X7_laySign (zI s) M Q := by
  unfold w_X7_laySign
  have k0 : zI s ≤ 0 ↔ s ≤ 0 := by rw [lz0, zI_le (by omega) (by omega) (by omega) (by omega)]
  have k1 : zI s = 1 ↔ s = 1 := by rw [lz1, zI_eq (by omega) (by omega) (by omega) (by omega)]
  have k2 : zI s = 2 ↔ s = 2 := by rw [lz2, zI_eq (by omega) (by omega) (by omega) (by omega)]
  rw [k0]
  simp only [k1, k2]
  have hs3 : s = 0 ∨ s = 1 ∨ s = 2 ∨ s = 3 := by omega
  refine ⟨fun q => hQ M ?_, fun q z1 e1 => ?_⟩
  · have : s = 0 := by omega
    subst this
    rw [show sigC 0 = [] from rfl, List.append_nil]
    exact h
  · rcases hs3 with rfl | rfl | rfl | rfl
    · exact absurd (Int.le_refl 0) q
    · rw [if_pos rfl, lz41] at e1
      subst e1
      exact x_lay h (by omega) hQ
    · rw [if_neg (by omega), if_pos rfl, lz35] at e1
      subst e1
      exact x_lay h (by omega) hQ
    · rw [if_neg (by omega), if_neg (by omega), lz33] at e1
      subst e1
      exact x_lay h (by omega) hQ
theorem PS_at (hB : PB M0 S mk sg) (h : PS M0 M L st) {i a : Nat} (hi : i < gNi S) (ha : a < 10) : M (58 + a) i = zI (rat (gIt S i) a) := by
  rw [h.1 (58 + a) (by omega) (by omega)]
  exact RM0_at hB.1 hi ha
theorem one_iff {a b : Int} : zI (one a b) = 1 ↔ a = b := by
  have := one_bd a b
  rw [lz1, zI_eq (by omega) (by omega) (by omega) (by omega)]
  unfold one
  split
  · next g => exact ⟨fun _ => g, fun _ => rfl⟩
  · next g => exact ⟨fun z => by omega, fun z => absurd z g⟩
theorem x_item266 {i : Nat} {l2 : Int32} (hB : PB M0 S mk sg) (h : PS M0 M L st) (hl : L.length ≤ 700000) (hi : i < gNi S) (hQ : ∀ M' : Mem, PS M0 M' (L ++ clC (mk i)) st → Q 0 M') : w_X7_layItem_266 Q (zI i) l2 M := by
  have hni := hB.2.2.1.2.2.2.1
  have hk := (hB.2.2.2.2.1 i hi).2.1
  unfold w_X7_layItem_266
  rw [zI_in (by omega) (by omega), zI_tn (by omega) (by omega), tn_nat, h.1 73 (by omega) (by omega), hk, one_iff]
  refine ⟨by omega, fun q => hQ M ?_, fun q => ?_⟩
  · unfold clC
    rw [if_neg q, List.append_nil]
    exact h
  · rw [lz24, lz6]
    refine x_lay h (by omega) (fun M1 h1 => x_lay h1 (by simp only [List.length_append, List.length_cons, List.length_nil]; omega) (fun M2 h2 => hQ M2 ?_))
    unfold clC
    rw [if_pos q, ← app2]
    exact h2
theorem x_item250 {i : Nat} {l2 : Int32} (hB : PB M0 S mk sg) (h : PS M0 M L st) (hl : L.length ≤ 600000) (hi : i < gNi S) (hQ : ∀ M' : Mem, PS M0 M' (L ++ slC (mk i) ++ clC (mk i)) st → Q 0 M') : w_X7_layItem_250 Q (zI i) l2 M := by
  have hni := hB.2.2.1.2.2.2.1
  have hk := (hB.2.2.2.2.1 i hi).2.2
  unfold w_X7_layItem_250
  rw [zI_in (by omega) (by omega), zI_tn (by omega) (by omega), tn_nat, h.1 74 (by omega) (by omega), hk, one_iff]
  refine ⟨by omega, fun q => x_item266 hB h (by omega) hi (fun M' h' => hQ M' ?_), fun q => ?_⟩
  · unfold slC
    rw [if_neg q, List.append_nil]
    exact h'
  · rw [lz9]
    refine x_lay h (by omega) (fun M1 h1 => x_item266 hB h1 (by simp only [List.length_append, List.length_cons, List.length_nil]; omega) hi (fun M' h' => hQ M' ?_))
    rw [show slC (mk i) = [9] by unfold slC; rw [if_pos q]]
    exact h'
theorem x_item171 {i : Nat} (hB : PB M0 S mk sg) (h : PS M0 M L st) (hl : L.length ≤ 500000) (hi : i < gNi S) (hQ : ∀ M' : Mem, PS M0 M' (L ++ ivC S i (gIt S i 9).toNat ++ tieC (gIt S i 7) ++ slC (mk i) ++ clC (mk i)) st → Q 0 M') : ∃ k, w_X7_layItem_171 Q k (zI i) 0 M := by
  have hv := hB.2.2.1
  have hni := hv.2.2.2.1
  obtain ⟨-, -, -, -, -, -, -, w7, -, w9, w10⟩ := hv.2.2.2.2.2.1 i hi
  refine ⟨(gIt S i 9).toNat + 1, ?_⟩
  have key : ∀ (k j : Nat) (Mx : Mem), (j : Int) ≤ gIt S i 9 → (gIt S i 9).toNat - j < k → PS M0 Mx (L ++ ivC S i j) st → w_X7_layItem_171 Q k (zI i) (zI j) Mx := by
    intro k
    induction k with
    | zero => intro j Mx g1 g2; omega
    | succ k ih =>
      intro j Mx hj hk hx
      have il := ivC_len S i j
      have e67 : Mx 67 i = zI (gIt S i 9) := PS_at hB hx hi (a := 9) (by omega)
      have e65 : Mx 65 i = zI (gIt S i 7) := PS_at hB hx hi (a := 7) (by omega)
      show wb_X7_layItem_171 Q (w_X7_layItem_171 Q k) _ _ Mx
      unfold wb_X7_layItem_171
      have k1 : zI (gIt S i 7) = 1 ↔ gIt S i 7 = 1 := by rw [lz1, zI_eq (by omega) (by omega) (by omega) (by omega)]
      rw [zI_in (by omega) (by omega), zI_tn (by omega) (by omega), tn_nat, e67, e65, k1, zI_le (by omega) (by omega) (by omega) (by omega)]
      refine ⟨by omega, fun q => ⟨by omega, fun q1 => ?_, fun q1 => ?_⟩, fun q => ?_⟩
      · have : j = (gIt S i 9).toNat := by omega
        subst this
        refine x_item250 hB hx (by simp only [List.length_append]; omega) hi (fun M' h' => hQ M' ?_)
        unfold tieC
        rw [if_neg q1, List.append_nil]
        exact h'
      · have : j = (gIt S i 9).toNat := by omega
        subst this
        rw [lz8, lz9]
        refine x_lay hx (by simp only [List.length_append]; omega) (fun M1 h1 => x_lay h1 (by simp only [List.length_append, List.length_cons, List.length_nil]; omega) (fun M2 h2 => ?_))
        rw [app2] at h2
        refine x_item250 hB h2 (by simp only [List.length_append, List.length_cons, List.length_nil]; omega) hi (fun M' h' => hQ M' ?_)
        rw [show tieC (gIt S i 7) = [8, 9] by unfold tieC; rw [if_pos q1]]
        exact h'
      · obtain ⟨n, s, e, n1, n2, s1, s2⟩ := w10 j (by omega)
        have e68 : ∀ (Mz : Mem) (L' : List Int) (st' : Option Int), PS M0 Mz L' st' → Mz 68 (4 * i + j) = zI (n + 16 * s) := fun Mz L' st' hz => by
          rw [hz.1 68 (by omega) (by omega)]
          have := hB.1.2.2.2.2.2 i j hi (by omega)
          rw [show 600 * 0 + i = i by omega] at this
          rw [this, e]
        rw [lz4, zI_mul, zI_add, zI_in (by omega) (by omega), zI_tn (by omega) (by omega), show (4 * (i : Int) + (j : Int)).toNat = 4 * i + j by omega, e68 Mx _ _ hx, lz16, zI_div (by omega) (by omega) (by omega) (by omega), show (n + 16 * s) / 16 = s by omega]
        refine ⟨by omega, x_laySign hx (by simp only [List.length_append]; omega) ⟨s1, s2⟩ (fun M36 h36 => ⟨by omega, ?_⟩)⟩
        have sl := sigC_len s
        have u5 : ∀ t : Nat, t < 7 → M36 51 t = zI ([12, 44, 60, 20, 52, 18, 36].getD t 0) := fun t ht => by rw [h36.1 51 (by omega) (by omega)]; exact hB.2.1.2.2.2.2 t ht
        rw [e68 M36 _ _ h36, zI_div (by omega) (by omega) (by omega) (by omega), show (n + 16 * s) / 16 = s by omega, zI_mul, zI_sub, lz2, zI_sub, zI_in (by omega) (by omega), zI_tn (by omega) (by omega), u5 _ (by omega)]
        refine ⟨by omega, ?_⟩
        rw [show [12, 44, 60, 20, 52, 18, 36].getD (n + 16 * s - s * 16 - 2).toNat 0 = dnC n by unfold dnC; rw [show n + 16 * s - s * 16 - 2 = n - 2 by omega]]
        refine x_lay h36 (by simp only [List.length_append]; omega) (fun M40 h40 x41 e41 => ?_)
        have e41' : x41 = zI ((j + 1 : Nat) : Int) := by rw [e41, lz1, zI_add]; rfl
        subst e41'
        refine ih (j + 1) M40 (by omega) (by omega) ?_
        unfold ivC
        rw [e, show (n + 16 * s) / 16 = s by omega, show (n + 16 * s) % 16 = n by omega, ← List.append_assoc, ← List.append_assoc]
        exact h40
  exact key _ 0 M (by omega) (by omega) (by show PS M0 M (L ++ []) st; rw [List.append_nil]; exact h)
theorem x_item148 {i : Nat} (hB : PB M0 S mk sg) (h : PS M0 M L st) (hl : L.length ≤ 400000) (hi : i < gNi S) (hQ : ∀ M' : Mem, PS M0 M' (L ++ dotC (gIt S i 6) ++ ivC S i (gIt S i 9).toNat ++ tieC (gIt S i 7) ++ slC (mk i) ++ clC (mk i)) st → Q 0 M') : ∃ k, w_X7_layItem_148 Q k (zI i) 0 M := by
  have hv := hB.2.2.1
  have hni := hv.2.2.2.1
  obtain ⟨-, -, -, -, -, -, w6, -⟩ := hv.2.2.2.2.2.1 i hi
  refine ⟨(gIt S i 6).toNat + 1, ?_⟩
  have key : ∀ (k j : Nat) (Mx : Mem), (j : Int) ≤ gIt S i 6 → (gIt S i 6).toNat - j < k → PS M0 Mx (L ++ List.replicate j 4) st → w_X7_layItem_148 Q k (zI i) (zI j) Mx := by
    intro k
    induction k with
    | zero => intro j Mx g1 g2; omega
    | succ k ih =>
      intro j Mx hj hk hx
      have e64 : Mx 64 i = zI (gIt S i 6) := PS_at hB hx hi (a := 6) (by omega)
      show wb_X7_layItem_148 Q (w_X7_layItem_148 Q k) _ _ Mx
      unfold wb_X7_layItem_148
      rw [zI_in (by omega) (by omega), zI_tn (by omega) (by omega), tn_nat, e64, zI_le (by omega) (by omega) (by omega) (by omega)]
      refine ⟨by omega, fun q => ?_, fun q => ?_⟩
      · have : j = (gIt S i 6).toNat := by omega
        subst this
        exact x_item171 hB hx (by rw [List.length_append, List.length_replicate]; omega) hi hQ
      · rw [lz4]
        refine x_lay hx (by rw [List.length_append, List.length_replicate]; omega) (fun M5 h5 x6 e6 => ?_)
        have e6' : x6 = zI ((j + 1 : Nat) : Int) := by rw [e6, lz1, zI_add]; rfl
        subst e6'
        refine ih (j + 1) M5 (by omega) (by omega) ?_
        rw [List.replicate_succ', ← List.append_assoc]
        exact h5
  exact key _ 0 M (by omega) (by omega) (by rw [show List.replicate 0 (4 : Int) = [] from rfl, List.append_nil]; exact h)
theorem or_nt {p k : Int} (hp : 0 ≤ p) (hk : 0 ≤ k ∧ k ≤ 3) : zI ([25, 17, 11, 27, 19, 10, 26].getD (p % 7).toNat 0) ||| zI ([36, 4, 32, 0].getD k.toNat 0) = zI (ntC p k) := by
  have hn' : p % 7 = 0 ∨ p % 7 = 1 ∨ p % 7 = 2 ∨ p % 7 = 3 ∨ p % 7 = 4 ∨ p % 7 = 5 ∨ p % 7 = 6 := by omega
  have hk' : k = 0 ∨ k = 1 ∨ k = 2 ∨ k = 3 := by omega
  unfold ntC
  rcases hn' with e | e | e | e | e | e | e <;> rcases hk' with rfl | rfl | rfl | rfl <;> rw [e] <;> decide +kernel
theorem x_item101 {i : Nat} {st' : Option Int} (hB : PB M0 S mk sg) (h : PS M0 M L st') (hl : L.length ≤ 300000) (hi : i < gNi S) (hn : ¬ gIt S i 2 = 0) (hQ : ∀ M' : Mem, PS M0 M' (L ++ [ntC (gIt S i 2) (gIt S i 4)] ++ dotC (gIt S i 6) ++ ivC S i (gIt S i 9).toNat ++ tieC (gIt S i 7) ++ slC (mk i) ++ clC (mk i)) (some (gIt S i 2)) → Q 0 M') : w_X7_layItem_101 Q (zI i) M := by
  have hv := hB.2.2.1
  have hni := hv.2.2.2.1
  obtain ⟨-, -, w2, -, w4, -, w6, -, -, w9, -⟩ := hv.2.2.2.2.2.1 i hi
  have erp : rat (gIt S i) 2 = gIt S i 2 := by
    show rp (gIt S i 2) = gIt S i 2
    exact if_neg hn
  have e60 : M 60 i = zI (gIt S i 2) := by
    have : M 60 i = zI (rat (gIt S i) 2) := PS_at hB h hi (a := 2) (by omega)
    rw [this, erp]
  have e62 : M 62 i = zI (gIt S i 4) := PS_at hB h hi (a := 4) (by omega)
  unfold w_X7_layItem_101
  intro M10 e10
  rw [zI_in (by omega) (by omega), zI_tn (a := (i : Int)) (by omega) (by omega), tn_nat]
  refine ⟨by omega, fun M12 e12 => ?_⟩
  have f10 : ∀ k : Nat, k ≠ 46 → M12 k = M k := fun k g => by rw [e12, mset_o g, e10, mset_o g]
  have e10' : M10 60 i = zI (gIt S i 2) := by rw [e10, mset_o (by omega)]; exact e60
  rw [e10'] at e12
  have h12 : PS M0 M12 L (some (gIt S i 2)) := by
    obtain ⟨h1, h2, h3, h4⟩ := h
    refine ⟨fun k g1 g2 => by rw [f10 k g1]; exact h1 k g1 g2, fun j g1 g2 g3 => by rw [e12, mset_j g2, e10, mset_j g1]; exact h2 j g1 g2 g3, ⟨by rw [e12, mset_j (by omega), e10, mset_j (by omega)]; exact h3.1, fun j j1 j2 => by rw [f10 76 (by omega)]; exact h3.2 j j1 j2⟩, ?_, ?_, by omega, by omega⟩
    · rw [e12, mset_j (by omega), e10, mset_at]
    · rw [e12, mset_at]
  have u0 : ∀ t : Nat, t < 7 → M12 47 t = zI ([25, 17, 11, 27, 19, 10, 26].getD t 0) := fun t ht => by rw [h12.1 47 (by omega) (by omega)]; exact hB.2.1.1 t ht
  have u1 : ∀ t : Nat, t < 4 → M12 48 t = zI ([36, 4, 32, 0].getD t 0) := fun t ht => by rw [h12.1 48 (by omega) (by omega)]; exact hB.2.1.2.1 t ht
  rw [f10 60 (by omega), f10 62 (by omega), e60, e62, lz7, zI_div (by omega) (by omega) (by omega) (by omega), zI_mul, zI_sub, zI_in (by omega) (by omega), zI_in (by omega) (by omega), zI_tn (by omega) (by omega), zI_tn (by omega) (by omega), u0 _ (by omega), u1 _ (by omega), show gIt S i 2 - gIt S i 2 / 7 * 7 = gIt S i 2 % 7 by omega, or_nt (by omega) w4]
  refine ⟨by omega, by omega, by omega, by omega, x_lay h12 (by omega) (fun M18 h18 => x_item148 hB h18 (by simp only [List.length_append, List.length_cons, List.length_nil]; omega) hi hQ)⟩
theorem x_layItem {i : Nat} (hB : PB M0 S mk sg) (h : PS M0 M L st) (hl : L.length ≤ 200000) (hi : i < gNi S) (hQ : ∀ M' : Mem, PS M0 M' (L ++ itC S (mk i) i st) (nst S i st) → Q 0 M') : w_X7_layItem (zI i) M Q := by
  have hv := hB.2.2.1
  have hni := hv.2.2.2.1
  have hk := (hB.2.2.2.2.1 i hi).1
  obtain ⟨-, -, w2, w3, w4, -, w6, w7, -, w9, -⟩ := hv.2.2.2.2.2.1 i hi
  have hgi := (hB.2.2.2.1.2.2.1 i hi).2.2
  have main : ∀ (L1 : List Int) (M1 : Mem), L1.length ≤ 200002 → PS M0 M1 L1 st → (∀ M' : Mem, PS M0 M' (L1 ++ bodyC S i st ++ slC (mk i) ++ clC (mk i)) (nst S i st) → Q 0 M') → w_X7_layItem_21 Q (zI i) M1 := by
    intro L1 M1 hl1 h1 hQ1
    have e60 : M1 60 i = zI (rp (gIt S i 2)) := PS_at hB h1 hi (a := 2) (by omega)
    have e61 : M1 61 i = zI (gIt S i 3) := PS_at hB h1 hi (a := 3) (by omega)
    have e62 : M1 62 i = zI (gIt S i 4) := PS_at hB h1 hi (a := 4) (by omega)
    have hrp : -1 ≤ rp (gIt S i 2) ∧ rp (gIt S i 2) ≤ 55 ∧ (0 ≤ rp (gIt S i 2) ↔ ¬ gIt S i 2 = 0) := by
      unfold rp
      split <;> omega
    unfold w_X7_layItem_21
    rw [zI_in (by omega) (by omega), zI_tn (by omega) (by omega), tn_nat, e60, e61, e62, lz0, zI_le (by omega) (by omega) (by omega) (by omega), hrp.2.2]
    refine ⟨by omega, fun g => ⟨by omega, ?_⟩, fun g => ⟨by omega, ?_⟩⟩
    · have er : rp (gIt S i 2) = gIt S i 2 := if_neg g
      have sl := sigC_len (gIt S i 3)
      refine x_laySign h1 (by omega) w3 (fun M5 h5 => ?_)
      have e605 : M5 60 i = zI (gIt S i 2) := by
        have : M5 60 i = zI (rp (gIt S i 2)) := PS_at hB h5 hi (a := 2) (by omega)
        rw [this, er]
      have unf : bodyC S i st = sigC (gIt S i 3) ++ octC st (gIt S i 2) ++ [ntC (gIt S i 2) (gIt S i 4)] ++ dotC (gIt S i 6) ++ ivC S i (gIt S i 9).toNat ++ tieC (gIt S i 7) := if_neg g
      have ns : nst S i st = some (gIt S i 2) := if_neg g
      have yes : octC st (gIt S i 2) = [ocC (gIt S i 2)] → w_X7_layItem_81 Q (zI i) M5 := by
        intro ho
        have u3 : ∀ t : Nat, t < 7 → M5 50 t = zI ([8, 24, 56, 16, 40, 48, 32].getD t 0) := fun t ht => by rw [h5.1 50 (by omega) (by omega)]; exact hB.2.1.2.2.2.1 t ht
        unfold w_X7_layItem_81
        rw [zI_in (by omega) (by omega), zI_tn (a := (i : Int)) (by omega) (by omega), tn_nat, e605, lz7, zI_div (by omega) (by omega) (by omega) (by omega), lz1, zI_sub, zI_in (by omega) (by omega), zI_tn (by omega) (by omega), u3 _ (by omega)]
        refine ⟨by omega, by omega, x_lay (a := ocC (gIt S i 2)) h5 (by simp only [List.length_append]; omega) (fun M9 h9 => x_item101 hB h9 (by simp only [List.length_append, List.length_cons, List.length_nil]; omega) hi g (fun M' h' => hQ1 M' ?_))⟩
        rw [unf, ho, ns]
        simp only [List.append_assoc] at h' ⊢
        exact h'
      have no : octC st (gIt S i 2) = [] → w_X7_layItem_101 Q (zI i) M5 := by
        intro ho
        refine x_item101 hB h5 (by simp only [List.length_append]; omega) hi g (fun M' h' => hQ1 M' ?_)
        rw [unf, ho, ns]
        simp only [List.append_assoc, List.nil_append] at h' ⊢
        exact h'
      rw [← lz0]
      have h5w := h5.2.2.2
      rw [e605]
      cases st with
      | none =>
        have hw : M5 46 27 = 1 := h5w
        rw [hw]
        exact ⟨fun _ => yes rfl, fun z => absurd z (by decide)⟩
      | some p =>
        obtain ⟨hw1, hw2, hw3, hw4⟩ : M5 46 27 = 0 ∧ M5 46 28 = zI p ∧ 7 ≤ p ∧ p ≤ 55 := h5w
        rw [hw1, hw2]
        refine ⟨fun z => absurd rfl z, fun _ => ⟨by omega, x_wantsSign (by omega) (by omega) (fun g2 => ⟨fun z => absurd z (by decide), fun _ => yes ?_⟩) (fun g2 => ⟨fun _ => no ?_, fun z => absurd rfl z⟩)⟩⟩
        · show (if leapB p (gIt S i 2) = true then [ocC (gIt S i 2)] else []) = _
          rw [if_pos ((leapB_iff _ _).mpr g2)]
        · show (if leapB p (gIt S i 2) = true then [ocC (gIt S i 2)] else []) = _
          rw [if_neg (fun z => g2 ((leapB_iff _ _).mp z))]
    · have g' : gIt S i 2 = 0 := by omega
      have h79 := hgi g'
      have u2 : ∀ t : Nat, t < 4 → M1 49 t = zI ([13, 37, 39, 45].getD t 0) := fun t ht => by rw [h1.1 49 (by omega) (by omega)]; exact hB.2.1.2.2.1 t ht
      rw [zI_in (by omega) (by omega), zI_tn (by omega) (by omega), u2 _ (by omega), ← lz0]
      refine ⟨by omega, x_lay (a := rsC (gIt S i 4)) h1 (by omega) (fun M2 h2 => x_item148 hB h2 (by simp only [List.length_append, List.length_cons, List.length_nil]; omega) hi (fun M' h' => hQ1 M' ?_))⟩
      rw [show bodyC S i st = [rsC (gIt S i 4)] ++ dotC (gIt S i 6) from if_pos g', show nst S i st = st from if_pos g']
      rw [h79.1, h79.2, show ivC S i (0 : Int).toNat = [] from rfl, show tieC 0 = [] from rfl, List.append_nil, List.append_nil] at h'
      simp only [List.append_assoc] at h' ⊢
      exact h'
  unfold w_X7_layItem
  rw [zI_in (by omega) (by omega), zI_tn (by omega) (by omega), tn_nat, h.1 72 (by omega) (by omega), hk, one_iff]
  refine ⟨by omega, fun q => main L M (by omega) h (fun M' h' => hQ M' ?_), fun q => ?_⟩
  · unfold itC opC
    rw [if_neg q, List.nil_append]
    simp only [List.append_assoc] at h' ⊢
    exact h'
  · rw [lz48, lz3]
    refine x_lay h (by omega) (fun M1 h1 => x_lay h1 (by simp only [List.length_append, List.length_cons, List.length_nil]; omega) (fun M2 h2 => main _ M2 (by simp only [List.length_append, List.length_cons, List.length_nil]; omega) h2 (fun M' h' => hQ M' ?_)))
    unfold itC
    rw [show opC (mk i) = [48, 3] by unfold opC; rw [if_pos q]]
    rw [app2] at h'
    simp only [List.append_assoc] at h' ⊢
    exact h'
end Lay
