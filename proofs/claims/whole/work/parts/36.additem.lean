/-- one more item of the last voice -/
def aItem (S : Mus) (a2 a3 a4 a5 a6 : Int) (k : Nat) : Int := match k with
  | 0 => (gNb S : Int) - 1
  | 1 => (gVo S (gNb S - 1) : Int) - 1
  | 2 => a2
  | 3 => a3
  | 4 => a4
  | 5 => a5
  | 6 => a6
  | _ => 0
def sItem (S : Mus) (a2 a3 a4 a5 a6 : Int) : Mus := (gLen S, gHd S, gNb S, gNi S + 1, gVo S, (fun i k => if i = gNi S then aItem S a2 a3 a4 a5 a6 k else gIt S i k), gFo S, nup (gSz S) (lastS S).toNat (gSz S (lastS S).toNat + 1))
theorem e_addItem {M : Mem} {m : Nat} {a2 a3 a4 a5 a6 : Int} {S : Mus} {Q : Int32 → Mem → Prop} (h : MW M m S) (hv : MV S) (hl : ¬ lastS S < 0) (hi : gNi S < 600) (hQ : ∀ M' : Mem, MW M' m (sItem S a2 a3 a4 a5 a6) → onlyM M M' m → Q (zI (gNi S)) M') : w_X0_addItem m (zI a2) (zI a3) (zI a4) (zI a5) (zI a6) M Q := by
  obtain ⟨l1, l2, l3⟩ := lastS_sp hl
  have hnb := hv.2.2.1
  have hb3 := hv.2.2.2.2.1 _ l1
  have hq := h
  obtain ⟨q0, q1, q2, q3, q4, q5, q6, q7⟩ := hq
  have lb := lastS_bd hv
  unfold w_X0_addItem
  refine e_lastSlot h hv ⟨fun c => ?_, fun _ => ⟨fun _ => ?_, fun c => ?_⟩⟩
  · rw [lz0, zI_lt (by omega) (by omega) (by omega) (by omega)] at c; omega
  · rw [q3, q2, lz1, zI_sub, zI_in (by omega) (by omega), zI_tn (by omega) (by omega), tn_nat]
    refine ⟨by omega, fun M4 e4 => ?_⟩
    have g4 : M4 m = M m := by rw [e4, mset_o (by omega)]
    have v4 : M4 (m + 1) = M (m + 1) := by rw [e4, mset_o (by omega)]
    rw [g4, v4, q2, q3, zI_sub, zI_in (by omega) (by omega), zI_in (by omega) (by omega), zI_tn (by omega) (by omega), zI_tn (by omega) (by omega), tn_nat, show ((gNb S : Int) - 1).toNat = gNb S - 1 by omega, q4 _ l1, zI_sub]
    refine ⟨by omega, by omega, fun M7 e7 => ?_⟩
    have g7 : M7 m = M m := by rw [e7, mset_o (by omega), g4]
    rw [g7, q3, zI_in (by omega) (by omega), zI_tn (by omega) (by omega), tn_nat]
    refine ⟨by omega, fun M9 e9 => ?_⟩
    have g9 : M9 m = M m := by rw [e9, mset_o (by omega), g7]
    rw [g9, q3, zI_in (by omega) (by omega), zI_tn (by omega) (by omega), tn_nat]
    refine ⟨by omega, fun M11 e11 => ?_⟩
    have g11 : M11 m = M m := by rw [e11, mset_o (by omega), g9]
    rw [g11, q3, zI_in (by omega) (by omega), zI_tn (by omega) (by omega), tn_nat]
    refine ⟨by omega, fun M13 e13 => ?_⟩
    have g13 : M13 m = M m := by rw [e13, mset_o (by omega), g11]
    rw [g13, q3, zI_in (by omega) (by omega), zI_tn (by omega) (by omega), tn_nat]
    refine ⟨by omega, fun M15 e15 => ?_⟩
    have g15 : M15 m = M m := by rw [e15, mset_o (by omega), g13]
    rw [g15, q3, zI_in (by omega) (by omega), zI_tn (by omega) (by omega), tn_nat]
    refine ⟨by omega, fun M17 e17 => ?_⟩
    have g17 : M17 m = M m := by rw [e17, mset_o (by omega), g15]
    rw [g17, q3, zI_in (by omega) (by omega), zI_tn (by omega) (by omega), tn_nat]
    refine ⟨by omega, fun M19 e19 => ?_⟩
    have g19 : M19 m = M m := by rw [e19, mset_o (by omega), g17]
    rw [g19, q3, zI_in (by omega) (by omega), zI_tn (by omega) (by omega), tn_nat]
    refine ⟨by omega, fun M21 e21 => ?_⟩
    have g21 : M21 m = M m := by rw [e21, mset_o (by omega), g19]
    rw [g21, q3, zI_in (by omega) (by omega), zI_tn (by omega) (by omega), tn_nat]
    refine ⟨by omega, fun M23 e23 => ?_⟩
    have g23 : M23 m = M m := by rw [e23, mset_o (by omega), g21]
    have s23 : M23 (m + 3) = M (m + 3) := by rw [e23, mset_o (by omega), e21, mset_o (by omega), e19, mset_o (by omega), e17, mset_o (by omega), e15, mset_o (by omega), e13, mset_o (by omega), e11, mset_o (by omega), e9, mset_o (by omega), e7, mset_o (by omega), e4, mset_o (by omega)]
    have sl := (q5 _ _ l1 l2).2
    rw [← tn_nat (3 * (gNb S - 1) + (gVo S (gNb S - 1) - 1)), ← l3] at sl
    rw [zI_in (by omega) (by omega), zI_tn (by omega) (by omega), s23, sl, zI_add]
    refine ⟨by omega, by omega, fun M26 e26 M27 e27 => ?_⟩
    have g26 : M26 m = M m := by rw [e26, mset_o (by omega), g23]
    rw [g26, q3, zI_add] at e27
    have r27 : M27 m 3 = zI ((gNi S : Int) + 1) := by rw [e27, mset_at]
    rw [r27, zI_sub, show (gNi S : Int) + 1 - 1 = gNi S by omega]
    refine hQ M27 ?_ (fun k hk => ?_)
    · have fm : ∀ j : Nat, j ≠ 3 → M27 m j = M m j := fun j g => by rw [e27, mset_j g, g26]
      have f1 : ∀ k : Nat, k ≠ m → k ≠ m + 3 → (k < m + 4 ∨ m + 13 < k) → M27 k = M k := fun k x1 x2 x3 => by rw [e27, mset_o x1, e26, mset_o x2, e23, mset_o (by omega), e21, mset_o (by omega), e19, mset_o (by omega), e17, mset_o (by omega), e15, mset_o (by omega), e13, mset_o (by omega), e11, mset_o (by omega), e9, mset_o (by omega), e7, mset_o (by omega), e4, mset_o (by omega)]
      refine ⟨by rw [fm 0 (by omega)]; exact q0, by rw [fm 1 (by omega)]; exact q1, by rw [fm 2 (by omega)]; exact q2, ?_, fun b hb => by rw [f1 _ (by omega) (by omega) (by omega)]; exact q4 b hb, fun b v hb hv2 => ?_, fun i a hi2 ha => ?_, fun i k hi2 hk => ?_⟩
      · rw [r27]; rfl
      · have hb3 := hv.2.2.2.2.1 b hb
        show M27 (m + 2) (3 * b + v) = zI (gFo S (3 * b + v)) ∧ M27 (m + 3) (3 * b + v) = zI ((if 3 * b + v = (lastS S).toNat then gSz S (lastS S).toNat + 1 else gSz S (3 * b + v) : Nat) : Int)
        rw [f1 _ (by omega) (by omega) (by omega), e27, mset_o (by omega), e26]
        refine ⟨(q5 b v hb hv2).1, ?_⟩
        by_cases g : 3 * b + v = (lastS S).toNat
        · rw [if_pos g, g, mset_at]; rfl
        · rw [if_neg g, mset_j g, s23]; exact (q5 b v hb hv2).2
      · show M27 (m + 4 + a) i = zI (if i = gNi S then aItem S a2 a3 a4 a5 a6 a else gIt S i a)
        have hi3 : i < gNi S + 1 := hi2
        rw [e27, mset_o (by omega), e26, mset_o (by omega)]
        have hcase : a = 0 ∨ a = 1 ∨ a = 2 ∨ a = 3 ∨ a = 4 ∨ a = 5 ∨ a = 6 ∨ a = 7 ∨ a = 8 ∨ a = 9 := by omega
        by_cases g : i = gNi S
        · rw [if_pos g, g]
          rcases hcase with rfl | rfl | rfl | rfl | rfl | rfl | rfl | rfl | rfl | rfl
          · rw [e23, mset_o (by omega), e21, mset_o (by omega), e19, mset_o (by omega), e17, mset_o (by omega), e15, mset_o (by omega), e13, mset_o (by omega), e11, mset_o (by omega), e9, mset_o (by omega), e7, mset_o (by omega), e4]; show mset _ _ _ _ (m + 4) _ = _; rw [mset_at]; rfl
          · rw [e23, mset_o (by omega), e21, mset_o (by omega), e19, mset_o (by omega), e17, mset_o (by omega), e15, mset_o (by omega), e13, mset_o (by omega), e11, mset_o (by omega), e9, mset_o (by omega), e7]; show mset _ _ _ _ (m + 5) _ = _; rw [mset_at]; rfl
          · rw [e23, mset_o (by omega), e21, mset_o (by omega), e19, mset_o (by omega), e17, mset_o (by omega), e15, mset_o (by omega), e13, mset_o (by omega), e11, mset_o (by omega), e9]; show mset _ _ _ _ (m + 6) _ = _; rw [mset_at]; rfl
          · rw [e23, mset_o (by omega), e21, mset_o (by omega), e19, mset_o (by omega), e17, mset_o (by omega), e15, mset_o (by omega), e13, mset_o (by omega), e11]; show mset _ _ _ _ (m + 7) _ = _; rw [mset_at]; rfl
          · rw [e23, mset_o (by omega), e21, mset_o (by omega), e19, mset_o (by omega), e17, mset_o (by omega), e15, mset_o (by omega), e13]; show mset _ _ _ _ (m + 8) _ = _; rw [mset_at]; rfl
          · rw [e23, mset_o (by omega), e21, mset_o (by omega), e19, mset_o (by omega), e17, mset_o (by omega), e15]; show mset _ _ _ _ (m + 9) _ = _; rw [mset_at]; rfl
          · rw [e23, mset_o (by omega), e21, mset_o (by omega), e19, mset_o (by omega), e17]; show mset _ _ _ _ (m + 10) _ = _; rw [mset_at]; rfl
          · rw [e23, mset_o (by omega), e21, mset_o (by omega), e19]; show mset _ _ _ _ (m + 11) _ = _; rw [mset_at]; exact lz0
          · rw [e23, mset_o (by omega), e21]; show mset _ _ _ _ (m + 12) _ = _; rw [mset_at]; exact lz0
          · rw [e23]; show mset _ _ _ _ (m + 13) _ = _; rw [mset_at]; exact lz0
        · rw [if_neg g]
          have q := q6 i a (by omega) ha
          rcases hcase with rfl | rfl | rfl | rfl | rfl | rfl | rfl | rfl | rfl | rfl
          · rw [e23, mset_o (by omega), e21, mset_o (by omega), e19, mset_o (by omega), e17, mset_o (by omega), e15, mset_o (by omega), e13, mset_o (by omega), e11, mset_o (by omega), e9, mset_o (by omega), e7, mset_o (by omega), e4]; show mset _ _ _ _ (m + 4) _ = _; rw [mset_j g]; exact q
          · rw [e23, mset_o (by omega), e21, mset_o (by omega), e19, mset_o (by omega), e17, mset_o (by omega), e15, mset_o (by omega), e13, mset_o (by omega), e11, mset_o (by omega), e9, mset_o (by omega), e7]; show mset _ _ _ _ (m + 5) _ = _; rw [mset_j g, e4, mset_o (by omega)]; exact q
          · rw [e23, mset_o (by omega), e21, mset_o (by omega), e19, mset_o (by omega), e17, mset_o (by omega), e15, mset_o (by omega), e13, mset_o (by omega), e11, mset_o (by omega), e9]; show mset _ _ _ _ (m + 6) _ = _; rw [mset_j g, e7, mset_o (by omega), e4, mset_o (by omega)]; exact q
          · rw [e23, mset_o (by omega), e21, mset_o (by omega), e19, mset_o (by omega), e17, mset_o (by omega), e15, mset_o (by omega), e13, mset_o (by omega), e11]; show mset _ _ _ _ (m + 7) _ = _; rw [mset_j g, e9, mset_o (by omega), e7, mset_o (by omega), e4, mset_o (by omega)]; exact q
          · rw [e23, mset_o (by omega), e21, mset_o (by omega), e19, mset_o (by omega), e17, mset_o (by omega), e15, mset_o (by omega), e13]; show mset _ _ _ _ (m + 8) _ = _; rw [mset_j g, e11, mset_o (by omega), e9, mset_o (by omega), e7, mset_o (by omega), e4, mset_o (by omega)]; exact q
          · rw [e23, mset_o (by omega), e21, mset_o (by omega), e19, mset_o (by omega), e17, mset_o (by omega), e15]; show mset _ _ _ _ (m + 9) _ = _; rw [mset_j g, e13, mset_o (by omega), e11, mset_o (by omega), e9, mset_o (by omega), e7, mset_o (by omega), e4, mset_o (by omega)]; exact q
          · rw [e23, mset_o (by omega), e21, mset_o (by omega), e19, mset_o (by omega), e17]; show mset _ _ _ _ (m + 10) _ = _; rw [mset_j g, e15, mset_o (by omega), e13, mset_o (by omega), e11, mset_o (by omega), e9, mset_o (by omega), e7, mset_o (by omega), e4, mset_o (by omega)]; exact q
          · rw [e23, mset_o (by omega), e21, mset_o (by omega), e19]; show mset _ _ _ _ (m + 11) _ = _; rw [mset_j g, e17, mset_o (by omega), e15, mset_o (by omega), e13, mset_o (by omega), e11, mset_o (by omega), e9, mset_o (by omega), e7, mset_o (by omega), e4, mset_o (by omega)]; exact q
          · rw [e23, mset_o (by omega), e21]; show mset _ _ _ _ (m + 12) _ = _; rw [mset_j g, e19, mset_o (by omega), e17, mset_o (by omega), e15, mset_o (by omega), e13, mset_o (by omega), e11, mset_o (by omega), e9, mset_o (by omega), e7, mset_o (by omega), e4, mset_o (by omega)]; exact q
          · rw [e23]; show mset _ _ _ _ (m + 13) _ = _; rw [mset_j g, e21, mset_o (by omega), e19, mset_o (by omega), e17, mset_o (by omega), e15, mset_o (by omega), e13, mset_o (by omega), e11, mset_o (by omega), e9, mset_o (by omega), e7, mset_o (by omega), e4, mset_o (by omega)]; exact q
      · show M27 (m + 14) (4 * i + k) = zI (if i = gNi S then aItem S a2 a3 a4 a5 a6 (10 + k) else gIt S i (10 + k))
        have hi3 : i < gNi S + 1 := hi2
        have hk2 : (k : Int) < (if i = gNi S then aItem S a2 a3 a4 a5 a6 9 else gIt S i 9) := hk
        by_cases g : i = gNi S
        · rw [if_pos g] at hk2; have : aItem S a2 a3 a4 a5 a6 9 = 0 := rfl; omega
        · rw [if_neg g] at hk2; rw [if_neg g, f1 _ (by omega) (by omega) (by omega)]; exact q7 i k (by omega) hk2
    · rw [e27, mset_o (by omega), e26, mset_o (by omega), e23, mset_o (by omega), e21, mset_o (by omega), e19, mset_o (by omega), e17, mset_o (by omega), e15, mset_o (by omega), e13, mset_o (by omega), e11, mset_o (by omega), e9, mset_o (by omega), e7, mset_o (by omega), e4, mset_o (by omega)]
  · rw [q3, lz600, zI_lt (by omega) (by omega) (by omega) (by omega)] at c; omega
theorem MV_item {S : Mus} {a2 a3 a4 a5 a6 : Int} (h : MV S) (hl : ¬ lastS S < 0) (hi : gNi S < 600) (hs : gSz S (lastS S).toNat < 40) (h2 : a2 = 0 ∨ (7 ≤ a2 ∧ a2 ≤ 55)) (h3 : 0 ≤ a3 ∧ a3 ≤ 3) (h4 : 0 ≤ a4 ∧ a4 ≤ 3) (h5 : -1 ≤ a5 ∧ a5 ≤ 2) (h6 : 0 ≤ a6 ∧ a6 ≤ 2) : MV (sItem S a2 a3 a4 a5 a6) := by
  obtain ⟨l1, l2, l3⟩ := lastS_sp hl
  obtain ⟨v1, v2, v3, v4, v5, v6, v7, v8⟩ := h
  have l4 : (lastS S).toNat = 3 * (gNb S - 1) + (gVo S (gNb S - 1) - 1) := by rw [l3]; rfl
  have hend := v8 (by omega) (by omega)
  have hb3 := v5 _ l1
  have it0 : ∀ k, (sItem S a2 a3 a4 a5 a6).2.2.2.2.2.1 (gNi S) k = aItem S a2 a3 a4 a5 a6 k := fun k => if_pos rfl
  refine ⟨v1, v2, v3, ?_, v5, fun i hi2 => ?_, fun b v hb hv2 => ?_, fun _ _ => ?_⟩
  · show gNi S + 1 ≤ 600; omega
  · have hi3 : i < gNi S + 1 := hi2
    by_cases g : i = gNi S
    · subst g
      have e : ∀ k, gIt (sItem S a2 a3 a4 a5 a6) (gNi S) k = aItem S a2 a3 a4 a5 a6 k := it0
      unfold IV
      simp only [e]
      refine ⟨⟨?_, ?_⟩, ⟨?_, ?_⟩, h2, h3, h4, h5, h6, Or.inl rfl, Or.inl rfl, ⟨Int.le_refl 0, (show (0 : Int) ≤ 4 by omega)⟩, fun k hk => ?_⟩
      · show 0 ≤ (gNb S : Int) - 1; omega
      · show (gNb S : Int) - 1 < gNb S; omega
      · show 0 ≤ (gVo S (gNb S - 1) : Int) - 1; omega
      · show (gVo S (gNb S - 1) : Int) - 1 < gVo S ((gNb S : Int) - 1).toNat
        rw [show ((gNb S : Int) - 1).toNat = gNb S - 1 by omega]; omega
      · have : aItem S a2 a3 a4 a5 a6 9 = 0 := rfl
        omega
    · have e : ∀ k, gIt (sItem S a2 a3 a4 a5 a6) i k = gIt S i k := fun k => if_neg g
      have := v6 i (by omega)
      unfold IV at this ⊢
      simp only [e]
      exact this
  · have hb' : b < gNb S := hb
    have hv' : v < gVo S b := hv2
    have hbv := v5 b hb'
    obtain ⟨r1, r2, r3⟩ := v7 b v hb' hv'
    show gFo S (3 * b + v) + (if 3 * b + v = (lastS S).toNat then gSz S (lastS S).toNat + 1 else gSz S (3 * b + v)) ≤ gNi S + 1 ∧ (if 3 * b + v = (lastS S).toNat then gSz S (lastS S).toNat + 1 else gSz S (3 * b + v)) ≤ 40 ∧ ∀ i : Nat, i < gNi S + 1 → (((if i = gNi S then aItem S a2 a3 a4 a5 a6 0 else gIt S i 0) = b ∧ (if i = gNi S then aItem S a2 a3 a4 a5 a6 1 else gIt S i 1) = v) ↔ (gFo S (3 * b + v) ≤ i ∧ i < gFo S (3 * b + v) + (if 3 * b + v = (lastS S).toNat then gSz S (lastS S).toNat + 1 else gSz S (3 * b + v))))
    by_cases g : 3 * b + v = (lastS S).toNat
    · have gb : b = gNb S - 1 ∧ v = gVo S (gNb S - 1) - 1 := by
        rw [l4] at g
        omega
      simp only [if_pos g]
      rw [← g] at hs ⊢
      have hend2 : gFo S (3 * b + v) + gSz S (3 * b + v) = gNi S := by rw [gb.1, gb.2]; exact hend
      refine ⟨by omega, by omega, fun i hi2 => ?_⟩
      by_cases gi : i = gNi S
      · simp only [if_pos gi]
        have e0 : aItem S a2 a3 a4 a5 a6 0 = (gNb S : Int) - 1 := rfl
        have e1 : aItem S a2 a3 a4 a5 a6 1 = (gVo S (gNb S - 1) : Int) - 1 := rfl
        rw [e0, e1]
        constructor
        · intro _; omega
        · intro _; omega
      · simp only [if_neg gi]
        rw [r3 i (by omega)]
        omega
    · simp only [if_neg g]
      refine ⟨by omega, r2, fun i hi2 => ?_⟩
      by_cases gi : i = gNi S
      · simp only [if_pos gi]
        have e0 : aItem S a2 a3 a4 a5 a6 0 = (gNb S : Int) - 1 := rfl
        have e1 : aItem S a2 a3 a4 a5 a6 1 = (gVo S (gNb S - 1) : Int) - 1 := rfl
        rw [e0, e1]
        rw [l4] at g
        constructor
        · intro _; omega
        · intro _; omega
      · simp only [if_neg gi]
        exact r3 i (by omega)
  · show gFo S (3 * (gNb S - 1) + (gVo S (gNb S - 1) - 1)) + (if 3 * (gNb S - 1) + (gVo S (gNb S - 1) - 1) = (lastS S).toNat then gSz S (lastS S).toNat + 1 else gSz S (3 * (gNb S - 1) + (gVo S (gNb S - 1) - 1))) = gNi S + 1
    rw [if_pos l4.symm, l4]
    omega
