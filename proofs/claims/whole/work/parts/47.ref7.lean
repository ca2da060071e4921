section Ref7
variable {M : Mem} {S : Mus} {c : Nat} {row : Nat → Int} {Q : Int32 → Mem → Prop}
theorem x_item (p2 : Int32) {a : Int} (h : RS M S c row) (ba : -2147483648 ≤ a ∧ a < 2147483648) (hN : (a < 0 ∨ (gNi S : Int) ≤ a) → Q (-1) M) (hR : 0 ≤ a → a < gNi S → (∀ w : Nat, w < 15 → ¬ p2 = zI w) → Q (-2) M) (hQ : 0 ≤ a → a < gNi S → ∀ w : Nat, w < 15 → p2 = zI w → ∀ M' : Mem, (∀ k : Nat, k ≠ 78 → M' k = M k) → Q (zI (tellI S a.toNat w)) M') : w_X7_item (zI a) p2 M Q := by
  obtain ⟨w, rfl, w1, w2⟩ := zI_ex p2
  have hM := h.2.2.2.2.1
  have hv := h.2.2.2.2.2.2
  have hni := hv.2.2.2.1
  have c0 : zI a < 0 ↔ a < 0 := by rw [lz0, zI_lt (by omega) (by omega) (by omega) (by omega)]
  have d0 : zI w < 0 ↔ w < 0 := by rw [lz0, zI_lt (by omega) (by omega) (by omega) (by omega)]
  have d14 : zI w ≤ 14 ↔ w ≤ 14 := by rw [lz14, zI_le (by omega) (by omega) (by omega) (by omega)]
  have d10 : zI w ≤ 10 ↔ w ≤ 10 := by rw [lz10, zI_le (by omega) (by omega) (by omega) (by omega)]
  have no : 0 ≤ a → a < gNi S → (w < 0 ∨ 14 < w) → Q (-2) M := fun g1 g2 g => hR g1 g2 (fun w' hw e => by rw [zI_eq (by omega) (by omega) (by omega) (by omega)] at e; omega)
  unfold w_X7_item
  rw [c0, tc0, hM.2.1, zI_lt (by omega) (by omega) (by omega) (by omega), d0, d14, d10]
  refine ⟨fun q => hN (Or.inl q), fun q1 => ⟨vi0, fun q2 => ⟨fun q3 => no (by omega) q2 (Or.inl q3), fun q3 => ⟨fun q4 => ?_, fun q4 => no (by omega) q2 (Or.inr (by omega))⟩⟩, fun q2 => hN (Or.inr (by omega))⟩⟩
  have hi : a.toNat < gNi S := by omega
  have hin : vp_in (zI a) 1200 := by rw [zI_in (by omega) (by omega)]; omega
  have htn : (zI a).toNatClampNeg = a.toNat := zI_tn (by omega) (by omega)
  have at_ : ∀ k : Nat, k < 10 → M (58 + k) a.toNat = zI (rat (gIt S a.toNat) k) := fun k hk => RM0_at hM hi hk
  have hm4 := (hv.2.2.2.2.2.1 a.toNat hi).2.2.2.2.2.2.2.2.2.1
  have hQ' : ∀ w' : Nat, w' < 15 → w = w' → ∀ M' : Mem, (∀ k : Nat, k ≠ 78 → M' k = M k) → Q (zI (tellI S a.toNat w')) M' := fun w' hw e => hQ (by omega) q2 w' hw (by rw [e])
  rw [htn]
  refine ⟨fun q5 => ?_, fun q5 => ?_⟩
  · intro M2 e2
    refine ⟨hin, vin rfl, fun M5 e5 => ⟨hin, vin rfl, fun M8 e8 => ⟨hin, vin rfl, fun M11 e11 => ⟨hin, vin rfl, fun M14 e14 => ⟨hin, vin rfl, fun M17 e17 => ⟨hin, vin rfl, fun M20 e20 => ⟨hin, vin rfl, fun M23 e23 => ?_⟩⟩⟩⟩⟩⟩⟩
    have far2 : ∀ k : Nat, k ≠ 78 → M2 k = M k := fun k g => by rw [e2, mrow_o g]
    have far5 : ∀ k : Nat, k ≠ 78 → M5 k = M k := fun k g => by rw [e5, mset_o g, far2 k g]
    have far8 : ∀ k : Nat, k ≠ 78 → M8 k = M k := fun k g => by rw [e8, mset_o g, far5 k g]
    have far11 : ∀ k : Nat, k ≠ 78 → M11 k = M k := fun k g => by rw [e11, mset_o g, far8 k g]
    have far14 : ∀ k : Nat, k ≠ 78 → M14 k = M k := fun k g => by rw [e14, mset_o g, far11 k g]
    have far17 : ∀ k : Nat, k ≠ 78 → M17 k = M k := fun k g => by rw [e17, mset_o g, far14 k g]
    have far20 : ∀ k : Nat, k ≠ 78 → M20 k = M k := fun k g => by rw [e20, mset_o g, far17 k g]
    have far23 : ∀ k : Nat, k ≠ 78 → M23 k = M k := fun k g => by rw [e23, mset_o g, far20 k g]
    have h23 : RM M23 0 S := ⟨by rw [far23 _ (by omega)]; exact hM.1, by rw [far23 _ (by omega)]; exact hM.2.1, by rw [far23 _ (by omega)]; exact hM.2.2.1, fun b hb => by rw [far23 _ (by omega), far23 _ (by omega)]; exact hM.2.2.2.1 b hb, fun i a hi ha => by rw [far23 _ (by omega)]; exact hM.2.2.2.2.1 i a hi ha, fun i k hi hk => by rw [far23 _ (by omega)]; exact hM.2.2.2.2.2 i k hi hk⟩
    have l23 : M23 46 7 = zI (gLen S) := by rw [far23 _ (by omega)]; exact h.2.2.1
    have ea : zI a = zI ((600 * 0 + a.toNat : Nat) : Int) := by congr 1; omega
    rw [ea]
    rw [ea] at hin
    have lo : True := trivial
    · skip
      refine x_lastsOf (o := 0) (by omega) h23 l23 hv hi ?_
      refine ⟨vin rfl, fun M27 e27 => ⟨hin, vin rfl, fun M30 e30 => ⟨hin, vin rfl, fun M33 e33 => ⟨hin, vin rfl, fun M36 e36 => ⟨?_, ?_⟩⟩⟩⟩⟩
      · rw [zI_in (by omega) (by omega)]; omega
      · have far27 : ∀ k : Nat, k ≠ 78 → M27 k = M k := fun k g => by rw [e27, mset_o g, far23 k g]
        have far30 : ∀ k : Nat, k ≠ 78 → M30 k = M k := fun k g => by rw [e30, mset_o g, far27 k g]
        have far33 : ∀ k : Nat, k ≠ 78 → M33 k = M k := fun k g => by rw [e33, mset_o g, far30 k g]
        have far36 : ∀ k : Nat, k ≠ 78 → M36 k = M k := fun k g => by rw [e36, mset_o g, far33 k g]
        rw [zI_tn (by omega) (by omega)]
        have hcase : w = 0 ∨ w = 1 ∨ w = 2 ∨ w = 3 ∨ w = 4 ∨ w = 5 ∨ w = 6 ∨ w = 7 ∨ w = 8 ∨ w = 9 ∨ w = 10 := by omega
        rcases hcase with rfl | rfl | rfl | rfl | rfl | rfl | rfl | rfl | rfl | rfl | rfl
        · have q := hQ' 0 (by omega) rfl M36 far36
          have ev : M36 78 (0 : Int).toNat = zI (rat (gIt S a.toNat) 0) := by
            rw [e36, mset_j (show (0 : Int).toNat ≠ Int32.toNatClampNeg 10 by decide), e33, mset_j (show (0 : Int).toNat ≠ Int32.toNatClampNeg 9 by decide), e30, mset_j (show (0 : Int).toNat ≠ Int32.toNatClampNeg 8 by decide), e27, mset_j (show (0 : Int).toNat ≠ Int32.toNatClampNeg 7 by decide), e23, mset_j (show (0 : Int).toNat ≠ Int32.toNatClampNeg 6 by decide), e20, mset_j (show (0 : Int).toNat ≠ Int32.toNatClampNeg 5 by decide), e17, mset_j (show (0 : Int).toNat ≠ Int32.toNatClampNeg 4 by decide), e14, mset_j (show (0 : Int).toNat ≠ Int32.toNatClampNeg 3 by decide), e11, mset_j (show (0 : Int).toNat ≠ Int32.toNatClampNeg 2 by decide), e8, mset_j (show (0 : Int).toNat ≠ Int32.toNatClampNeg 1 by decide), e5]
            show mset _ 78 0 _ 78 0 = _
            rw [mset_at, far2 _ (by omega)]; exact at_ 0 (by omega)
          rw [ev]
          exact q
        · have q := hQ' 1 (by omega) rfl M36 far36
          have ev : M36 78 (1 : Int).toNat = zI (rat (gIt S a.toNat) 1) := by
            rw [e36, mset_j (show (1 : Int).toNat ≠ Int32.toNatClampNeg 10 by decide), e33, mset_j (show (1 : Int).toNat ≠ Int32.toNatClampNeg 9 by decide), e30, mset_j (show (1 : Int).toNat ≠ Int32.toNatClampNeg 8 by decide), e27, mset_j (show (1 : Int).toNat ≠ Int32.toNatClampNeg 7 by decide), e23, mset_j (show (1 : Int).toNat ≠ Int32.toNatClampNeg 6 by decide), e20, mset_j (show (1 : Int).toNat ≠ Int32.toNatClampNeg 5 by decide), e17, mset_j (show (1 : Int).toNat ≠ Int32.toNatClampNeg 4 by decide), e14, mset_j (show (1 : Int).toNat ≠ Int32.toNatClampNeg 3 by decide), e11, mset_j (show (1 : Int).toNat ≠ Int32.toNatClampNeg 2 by decide), e8]
            show mset _ 78 1 _ 78 1 = _
            rw [mset_at, far5 _ (by omega)]; exact at_ 1 (by omega)
          rw [ev]
          exact q
        · have q := hQ' 2 (by omega) rfl M36 far36
          have ev : M36 78 (2 : Int).toNat = zI (rat (gIt S a.toNat) 2) := by
            rw [e36, mset_j (show (2 : Int).toNat ≠ Int32.toNatClampNeg 10 by decide), e33, mset_j (show (2 : Int).toNat ≠ Int32.toNatClampNeg 9 by decide), e30, mset_j (show (2 : Int).toNat ≠ Int32.toNatClampNeg 8 by decide), e27, mset_j (show (2 : Int).toNat ≠ Int32.toNatClampNeg 7 by decide), e23, mset_j (show (2 : Int).toNat ≠ Int32.toNatClampNeg 6 by decide), e20, mset_j (show (2 : Int).toNat ≠ Int32.toNatClampNeg 5 by decide), e17, mset_j (show (2 : Int).toNat ≠ Int32.toNatClampNeg 4 by decide), e14, mset_j (show (2 : Int).toNat ≠ Int32.toNatClampNeg 3 by decide), e11]
            show mset _ 78 2 _ 78 2 = _
            rw [mset_at, far8 _ (by omega)]; exact at_ 2 (by omega)
          rw [ev]
          exact q
        · have q := hQ' 3 (by omega) rfl M36 far36
          have ev : M36 78 (3 : Int).toNat = zI (rat (gIt S a.toNat) 3) := by
            rw [e36, mset_j (show (3 : Int).toNat ≠ Int32.toNatClampNeg 10 by decide), e33, mset_j (show (3 : Int).toNat ≠ Int32.toNatClampNeg 9 by decide), e30, mset_j (show (3 : Int).toNat ≠ Int32.toNatClampNeg 8 by decide), e27, mset_j (show (3 : Int).toNat ≠ Int32.toNatClampNeg 7 by decide), e23, mset_j (show (3 : Int).toNat ≠ Int32.toNatClampNeg 6 by decide), e20, mset_j (show (3 : Int).toNat ≠ Int32.toNatClampNeg 5 by decide), e17, mset_j (show (3 : Int).toNat ≠ Int32.toNatClampNeg 4 by decide), e14]
            show mset _ 78 3 _ 78 3 = _
            rw [mset_at, far11 _ (by omega)]; exact at_ 3 (by omega)
          rw [ev]
          exact q
        · have q := hQ' 4 (by omega) rfl M36 far36
          have ev : M36 78 (4 : Int).toNat = zI (rat (gIt S a.toNat) 4) := by
            rw [e36, mset_j (show (4 : Int).toNat ≠ Int32.toNatClampNeg 10 by decide), e33, mset_j (show (4 : Int).toNat ≠ Int32.toNatClampNeg 9 by decide), e30, mset_j (show (4 : Int).toNat ≠ Int32.toNatClampNeg 8 by decide), e27, mset_j (show (4 : Int).toNat ≠ Int32.toNatClampNeg 7 by decide), e23, mset_j (show (4 : Int).toNat ≠ Int32.toNatClampNeg 6 by decide), e20, mset_j (show (4 : Int).toNat ≠ Int32.toNatClampNeg 5 by decide), e17]
            show mset _ 78 4 _ 78 4 = _
            rw [mset_at, far14 _ (by omega)]; exact at_ 4 (by omega)
          rw [ev]
          exact q
        · have q := hQ' 5 (by omega) rfl M36 far36
          have ev : M36 78 (5 : Int).toNat = zI (rat (gIt S a.toNat) 5) := by
            rw [e36, mset_j (show (5 : Int).toNat ≠ Int32.toNatClampNeg 10 by decide), e33, mset_j (show (5 : Int).toNat ≠ Int32.toNatClampNeg 9 by decide), e30, mset_j (show (5 : Int).toNat ≠ Int32.toNatClampNeg 8 by decide), e27, mset_j (show (5 : Int).toNat ≠ Int32.toNatClampNeg 7 by decide), e23, mset_j (show (5 : Int).toNat ≠ Int32.toNatClampNeg 6 by decide), e20]
            show mset _ 78 5 _ 78 5 = _
            rw [mset_at, far17 _ (by omega)]; exact at_ 5 (by omega)
          rw [ev]
          exact q
        · have q := hQ' 6 (by omega) rfl M36 far36
          have ev : M36 78 (6 : Int).toNat = zI (rat (gIt S a.toNat) 6) := by
            rw [e36, mset_j (show (6 : Int).toNat ≠ Int32.toNatClampNeg 10 by decide), e33, mset_j (show (6 : Int).toNat ≠ Int32.toNatClampNeg 9 by decide), e30, mset_j (show (6 : Int).toNat ≠ Int32.toNatClampNeg 8 by decide), e27, mset_j (show (6 : Int).toNat ≠ Int32.toNatClampNeg 7 by decide), e23]
            show mset _ 78 6 _ 78 6 = _
            rw [mset_at, far20 _ (by omega)]; exact at_ 6 (by omega)
          rw [ev]
          exact q
        · have q := hQ' 7 (by omega) rfl M36 far36
          have ev : M36 78 (7 : Int).toNat = zI (lastG S a.toNat) := by
            rw [e36, mset_j (show (7 : Int).toNat ≠ Int32.toNatClampNeg 10 by decide), e33, mset_j (show (7 : Int).toNat ≠ Int32.toNatClampNeg 9 by decide), e30, mset_j (show (7 : Int).toNat ≠ Int32.toNatClampNeg 8 by decide), e27]
            show mset _ 78 7 _ 78 7 = _
            rw [mset_at]
          rw [ev]
          exact q
        · have q := hQ' 8 (by omega) rfl M36 far36
          have ev : M36 78 (8 : Int).toNat = zI (rat (gIt S a.toNat) 7) := by
            rw [e36, mset_j (show (8 : Int).toNat ≠ Int32.toNatClampNeg 10 by decide), e33, mset_j (show (8 : Int).toNat ≠ Int32.toNatClampNeg 9 by decide), e30]
            show mset _ 78 8 _ 78 8 = _
            rw [mset_at, far27 _ (by omega)]; exact at_ 7 (by omega)
          rw [ev]
          exact q
        · have q := hQ' 9 (by omega) rfl M36 far36
          have ev : M36 78 (9 : Int).toNat = zI (rat (gIt S a.toNat) 8) := by
            rw [e36, mset_j (show (9 : Int).toNat ≠ Int32.toNatClampNeg 10 by decide), e33]
            show mset _ 78 9 _ 78 9 = _
            rw [mset_at, far30 _ (by omega)]; exact at_ 8 (by omega)
          rw [ev]
          exact q
        · have q := hQ' 10 (by omega) rfl M36 far36
          have ev : M36 78 (10 : Int).toNat = zI (rat (gIt S a.toNat) 9) := by
            rw [e36]
            show mset _ 78 10 _ 78 10 = _
            rw [mset_at, far33 _ (by omega)]; exact at_ 9 (by omega)
          rw [ev]
          exact q
  · have e67 := at_ 9 (by omega)
    have e67' : M 67 a.toNat = zI (gIt S a.toNat 9) := e67
    rw [e67', lz11, zI_sub, lz4, zI_mul, zI_add, zI_sub, zI_in (a := 4 * a + w - 11) (by omega) (by omega), zI_tn (a := 4 * a + w - 11) (by omega) (by omega), show (4 * a + w - 11).toNat = 4 * a.toNat + (w - 11).toNat by omega]
    have cle : zI (gIt S a.toNat 9) ≤ zI (w - 11) ↔ gIt S a.toNat 9 ≤ w - 11 := zI_le (by omega) (by omega) (by omega) (by omega)
    simp only [cle]
    refine ⟨hin, ⟨fun _ => trivial, fun _ => ⟨by omega, trivial⟩⟩, fun z hz => ?_⟩
    have hcase : w = 11 ∨ w = 12 ∨ w = 13 ∨ w = 14 := by omega
    rcases hcase with rfl | rfl | rfl | rfl
    · have q := hQ' 11 (by omega) rfl M (fun _ _ => rfl)
      have et : tellI S a.toNat 11 = if (0 : Int) < gIt S a.toNat 9 then gIt S a.toNat 10 else 0 := rfl
      rw [et] at q
      by_cases g : (0 : Int) < gIt S a.toNat 9
      · rw [if_pos g] at q
        have e68 := hM.2.2.2.2.2 a.toNat 0 hi (by omega)
        rw [show 4 * (600 * 0 + a.toNat) + 0 = 4 * a.toNat + ((11 : Int) - 11).toNat by omega] at e68
        rw [if_neg (by omega), e68] at hz
        subst hz
        exact q
      · rw [if_neg g] at q
        rw [if_pos (by omega)] at hz
        subst hz
        rw [← lz0] at q
        exact q
    · have q := hQ' 12 (by omega) rfl M (fun _ _ => rfl)
      have et : tellI S a.toNat 12 = if (1 : Int) < gIt S a.toNat 9 then gIt S a.toNat 11 else 0 := rfl
      rw [et] at q
      by_cases g : (1 : Int) < gIt S a.toNat 9
      · rw [if_pos g] at q
        have e68 := hM.2.2.2.2.2 a.toNat 1 hi (by omega)
        rw [show 4 * (600 * 0 + a.toNat) + 1 = 4 * a.toNat + ((12 : Int) - 11).toNat by omega] at e68
        rw [if_neg (by omega), e68] at hz
        subst hz
        exact q
      · rw [if_neg g] at q
        rw [if_pos (by omega)] at hz
        subst hz
        rw [← lz0] at q
        exact q
    · have q := hQ' 13 (by omega) rfl M (fun _ _ => rfl)
      have et : tellI S a.toNat 13 = if (2 : Int) < gIt S a.toNat 9 then gIt S a.toNat 12 else 0 := rfl
      rw [et] at q
      by_cases g : (2 : Int) < gIt S a.toNat 9
      · rw [if_pos g] at q
        have e68 := hM.2.2.2.2.2 a.toNat 2 hi (by omega)
        rw [show 4 * (600 * 0 + a.toNat) + 2 = 4 * a.toNat + ((13 : Int) - 11).toNat by omega] at e68
        rw [if_neg (by omega), e68] at hz
        subst hz
        exact q
      · rw [if_neg g] at q
        rw [if_pos (by omega)] at hz
        subst hz
        rw [← lz0] at q
        exact q
    · have q := hQ' 14 (by omega) rfl M (fun _ _ => rfl)
      have et : tellI S a.toNat 14 = if (3 : Int) < gIt S a.toNat 9 then gIt S a.toNat 13 else 0 := rfl
      rw [et] at q
      by_cases g : (3 : Int) < gIt S a.toNat 9
      · rw [if_pos g] at q
        have e68 := hM.2.2.2.2.2 a.toNat 3 hi (by omega)
        rw [show 4 * (600 * 0 + a.toNat) + 3 = 4 * a.toNat + ((14 : Int) - 11).toNat by omega] at e68
        rw [if_neg (by omega), e68] at hz
        subst hz
        exact q
      · rw [if_neg g] at q
        rw [if_pos (by omega)] at hz
        subst hz
        rw [← lz0] at q
        exact q
end Ref7
