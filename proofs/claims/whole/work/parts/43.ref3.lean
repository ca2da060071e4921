section Ref3
variable {M : Mem} {S : Mus} {c : Nat} {row : Nat → Int} {Q : Int32 → Mem → Prop}
theorem RS_mus {M' : Mem} {S' : Mus} (h : RS M S c row) (hO : ∀ k : Nat, (k < 53 ∨ 68 < k) → M' k = M k) (hR : RM M' 0 S') (hl : gLen S' = gLen S) (hv : MV S') : RS M' S' c row ∧ fl M M' := by
  obtain ⟨k1, k2, k3, k4, k5, k6, k7⟩ := h
  refine ⟨⟨by rw [hO 46 (by omega)]; exact k1, k2, by rw [hO 46 (by omega), hl]; exact k3, fun j hj => by rw [hO 52 (by omega)]; exact k4 j hj, hR, ?_, hv⟩, fun k hk => hO k (by omega)⟩
  unfold RT at k6 ⊢
  rw [hO 47 (by omega), hO 48 (by omega), hO 49 (by omega), hO 50 (by omega), hO 51 (by omega)]
  exact k6
theorem x_meter {u d : Int} (h : RS M S c row) (bu : -2147483648 ≤ u ∧ u < 2147483648) (bd : -2147483648 ≤ d ∧ d < 2147483648) (hR : ¬ okMet u d → Q (-2) M) (hS : okMet u d → 0 < gNb S → Q (-3) M) (hQ : okMet u d → gNb S = 0 → ∀ M' : Mem, RS M' (sLen S (512 * u / d)) c row → fl M M' → Q (zI (512 * u / d)) M') : w_X7_meter (zI u) (zI d) M Q := by
  have hv := h.2.2.2.2.2.2
  have hnb := hv.2.2.1
  unfold w_X7_meter
  simp only [lz0, lz1, lz2, lz3, lz4, lz8, lz16, lz512, lz2048]
  simp (disch := omega) only [zI_eq, zI_lt]
  intro z hz
  have hd : ¬ z = zI 0 → 1 ≤ u ∧ u ≤ 16 ∧ (d = 1 ∨ d = 2 ∨ d = 4 ∨ d = 8 ∨ d = 16) := by
    intro q
    by_cases g6 : u < 1
    · rw [if_pos g6] at hz; exact absurd hz q
    · by_cases g7 : 16 < u
      · rw [if_neg g6, if_pos g7] at hz; exact absurd hz q
      · refine ⟨by omega, by omega, ?_⟩
        rw [if_neg g6, if_neg g7] at hz
        by_cases g1 : d = 1
        · exact Or.inl g1
        · by_cases g2 : d = 2
          · exact Or.inr (Or.inl g2)
          · by_cases g3 : d = 4
            · exact Or.inr (Or.inr (Or.inl g3))
            · by_cases g4 : d = 8
              · exact Or.inr (Or.inr (Or.inr (Or.inl g4)))
              · by_cases g5 : d = 16
                · exact Or.inr (Or.inr (Or.inr (Or.inr g5)))
                · rw [if_neg g1, if_neg g2, if_neg g3, if_neg g4, if_neg g5] at hz
                  exact absurd hz q
  have hR' := hR
  rw [lz2, zI_neg] at hR'
  refine ⟨fun q => hR' (fun k => ?_), fun q => ?_⟩
  · unfold okMet at k
    rw [hz, if_neg (by omega), if_neg (by omega)] at q
    obtain ⟨-, -, k3, -⟩ := k
    rcases k3 with rfl | rfl | rfl | rfl | rfl <;> simp at q <;> exact absurd q (by decide)
  · obtain ⟨u1, u2, d3⟩ := hd q
    have hdb : 0 ≤ 512 * u / d ∧ 512 * u / d ≤ 8192 := by rcases d3 with rfl | rfl | rfl | rfl | rfl <;> omega
    have tz : (zI 0).toNatClampNeg = 0 := by decide +kernel
    rw [zI_mul, zI_div (by omega) (by omega) (by omega) (by omega), zI_le (by omega) (by omega) (by omega) (by omega), tz, h.2.2.2.2.1.1, zI_le (by omega) (by omega) (by omega) (by omega)]
    refine ⟨by omega, fun q3 => ⟨vi_0, fun q4 => ⟨by omega, fun M5 e5 => ?_⟩, fun q4 => ?_⟩, fun q3 => hR' (fun k => by unfold okMet at k; omega)⟩
    · have ok : okMet u d := ⟨u1, u2, d3, q3⟩
      have e6 : M5 46 7 = zI (512 * u / d) := by rw [e5, mset_at]
      rw [e6]
      have far : ∀ k : Nat, k ≠ 46 → M5 k = M k := fun k g => by rw [e5, mset_o g]
      obtain ⟨k1, k2, k3, k4, k5, k6, k7⟩ := h
      refine hQ ok (by omega) M5 ⟨by rw [e5, mset_j (by omega)]; exact k1, k2, e6, fun j hj => by rw [far 52 (by omega)]; exact k4 j hj, ⟨by rw [far 53 (by omega)]; exact k5.1, by rw [far 54 (by omega)]; exact k5.2.1, by rw [far 55 (by omega)]; exact k5.2.2.1, fun b hb => by rw [far 57 (by omega), far 56 (by omega)]; exact k5.2.2.2.1 b hb, fun i a hi ha => by rw [far _ (by omega)]; exact k5.2.2.2.2.1 i a hi ha, fun i k hi hk => by rw [far 68 (by omega)]; exact k5.2.2.2.2.2 i k hi hk⟩, ?_, MV_len k7 (by omega) ⟨met_pos ok, q3⟩⟩ (fun k hk => far k (by omega))
      unfold RT at k6 ⊢
      rw [far 47 (by omega), far 48 (by omega), far 49 (by omega), far 50 (by omega), far 51 (by omega)]
      exact k6
    · have := hS ⟨u1, u2, d3, q3⟩ (by omega)
      rw [lz3, zI_neg] at this
      exact this
theorem x_bar (p : Int32) (h : RS M S c row) (hS : (¬ endsW S ∨ (¬ p = 0 ∧ gNb S = 0)) → Q (-3) M) (hF : endsW S → (p = 0 ∨ ¬ gNb S = 0) → gNb S = 60 → Q (-4) M) (hR : endsW S → ¬ p = 0 → ¬ gNb S = 0 → gNb S < 60 → ∀ M' : Mem, RS M' (sBar S) c row → fl M M' → Q (zI (gNb S)) M') (hV : endsW S → p = 0 → gNb S < 60 → ∀ M' : Mem, RS M' (sVoice (sBar S)) c row → fl M M' → Q (zI (gNb S)) M') : w_X7_bar p M Q := by
  have hM := h.2.2.2.2.1
  have hv := h.2.2.2.2.2.2
  have hnb := hv.2.2.1
  have cn : ∀ t : Int, 0 ≤ t → t ≤ 60 → (zI (gNb S) = zI t ↔ (gNb S : Int) = t) := fun t _ _ => zI_eq (by omega) (by omega) (by omega) (by omega)
  have go : endsW S → (p = 0 ∨ ¬ gNb S = 0) → w_X7_bar_23 Q p M := by
    intro g1 g2
    unfold w_X7_bar_23
    rw [tc0, hM.1, zI_in (by omega) (by omega), zI_tn (by omega) (by omega), tn_nat]
    refine ⟨vi0, fun q => ⟨vi0, fun z5 e5 => ⟨by omega, fun M7 e7 => ⟨vi0, fun z9 e9 => ?_⟩⟩⟩, fun q => ?_⟩
    · rw [lz60, cn 60 (by omega) (by omega)] at q
      have r7 : M7 53 0 = zI (gNb S) := by rw [e7, mset_o (by omega)]; exact hM.1
      rw [r7, zI_in (by omega) (by omega), zI_tn (by omega) (by omega), tn_nat]
      refine ⟨by omega, fun M11 e11 => ⟨vi0, vi0, fun M14 e14 => ⟨vi0, ?_⟩⟩⟩
      have r11 : M11 53 0 = zI (gNb S) := by rw [e11, mset_o (by omega)]; exact r7
      rw [r11, lz1, zI_add] at e14
      have r14 : M14 53 0 = zI ((gNb S : Int) + 1) := by rw [e14, mset_at]
      rw [r14, lz1, zI_sub, show (gNb S : Int) + 1 - 1 = gNb S by omega]
      have far : ∀ k : Nat, k ≠ 53 → k ≠ 56 → k ≠ 57 → M14 k = M k := fun k a1 a2 a3 => by rw [e14, mset_o a1, e11, mset_o a3, e7, mset_o a2]
      have c57 : ∀ b : Nat, M14 57 b = if b = gNb S then z9 else M 57 b := fun b => by
        rw [e14, mset_o (by omega), e11]
        by_cases g : b = gNb S
        · rw [g, mset_at, if_pos rfl]
        · rw [mset_j g, if_neg g, e7, mset_o (by omega)]
      have c56 : ∀ b : Nat, M14 56 b = if b = gNb S then z5 else M 56 b := fun b => by
        rw [e14, mset_o (by omega), e11, mset_o (by omega), e7]
        by_cases g : b = gNb S
        · rw [g, mset_at, if_pos rfl]
        · rw [mset_j g, if_neg g]
      by_cases gp : p = 0
      · rw [if_pos gp] at e5 e9
        have hR2 : RM M14 0 (sVoice (sBar S)) := by
          refine ⟨by rw [r14]; rfl, by rw [far 54 (by omega) (by omega) (by omega)]; exact hM.2.1, by rw [far 55 (by omega) (by omega) (by omega)]; exact hM.2.2.1, fun b hb => ?_, fun i a hi ha => by rw [far _ (by omega) (by omega) (by omega)]; exact hM.2.2.2.2.1 i a hi ha, fun i k hi hk => by rw [far 68 (by omega) (by omega) (by omega)]; exact hM.2.2.2.2.2 i k hi hk⟩
          have hb' : b < gNb S + 1 := hb
          rw [Nat.mul_zero, Nat.zero_add, c57, c56]
          show _ = zI ((if b = gNb S + 1 - 1 then (if gNb S + 1 - 1 = gNb S then 0 else gVo S (gNb S + 1 - 1)) + 1 else (if b = gNb S then 0 else gVo S b) : Nat) : Int) ∧ _ = zI (if (if b = gNb S + 1 - 1 then (if gNb S + 1 - 1 = gNb S then 0 else gVo S (gNb S + 1 - 1)) + 1 else (if b = gNb S then 0 else gVo S b)) = 0 then 1 else 0)
          by_cases g : b = gNb S
          · have y1 : (if b = gNb S then z9 else M 57 b) = z9 := if_pos g
            have y2 : (if b = gNb S then z5 else M 56 b) = z5 := if_pos g
            have y3 : (if b = gNb S + 1 - 1 then (if gNb S + 1 - 1 = gNb S then 0 else gVo S (gNb S + 1 - 1)) + 1 else (if b = gNb S then 0 else gVo S b)) = 1 := by rw [if_pos (by omega), if_pos (by omega)]
            rw [y1, y2, y3, e9, e5]
            exact ⟨lz1, lz0⟩
          · rw [if_neg g, if_neg g, if_neg (by omega), if_neg g]
            have := hM.2.2.2.1 b (by omega)
            rw [Nat.mul_zero, Nat.zero_add] at this
            exact this
        obtain ⟨k1, k2⟩ := RS_mus h (fun k hk => far k (by omega) (by omega) (by omega)) hR2 rfl (MV_voice (MV_bar hv (by omega)) (Nat.succ_pos _) (by show (if gNb S + 1 - 1 = gNb S then 0 else gVo S (gNb S + 1 - 1)) < 3; rw [if_pos (by omega)]; omega))
        exact hV g1 gp (by omega) M14 k1 k2
      · rw [if_neg gp] at e5 e9
        have hR2 : RM M14 0 (sBar S) := by
          refine ⟨by rw [r14]; rfl, by rw [far 54 (by omega) (by omega) (by omega)]; exact hM.2.1, by rw [far 55 (by omega) (by omega) (by omega)]; exact hM.2.2.1, fun b hb => ?_, fun i a hi ha => by rw [far _ (by omega) (by omega) (by omega)]; exact hM.2.2.2.2.1 i a hi ha, fun i k hi hk => by rw [far 68 (by omega) (by omega) (by omega)]; exact hM.2.2.2.2.2 i k hi hk⟩
          have hb' : b < gNb S + 1 := hb
          rw [Nat.mul_zero, Nat.zero_add, c57, c56]
          show _ = zI ((if b = gNb S then 0 else gVo S b : Nat) : Int) ∧ _ = zI (if (if b = gNb S then 0 else gVo S b) = 0 then 1 else 0)
          by_cases g : b = gNb S
          · rw [if_pos g, if_pos g, if_pos g, if_pos rfl, e9, e5]
            exact ⟨lz0, lz1⟩
          · rw [if_neg g, if_neg g, if_neg g]
            have := hM.2.2.2.1 b (by omega)
            rw [Nat.mul_zero, Nat.zero_add] at this
            exact this
        obtain ⟨k1, k2⟩ := RS_mus h (fun k hk => far k (by omega) (by omega) (by omega)) hR2 rfl (MV_bar hv (by omega))
        exact hR g1 gp (g2.resolve_left gp) (by omega) M14 k1 k2
    · rw [lz60, cn 60 (by omega) (by omega)] at q
      exact hF g1 g2 (by omega)
  unfold w_X7_bar
  refine x_lacks hM h.2.2.1 hv (fun g => ⟨fun q => absurd rfl q, fun _ => ⟨fun q => go g (Or.inl q), fun q => ⟨vi0, fun q2 => ?_, fun q2 => ?_⟩⟩⟩) (fun g => ⟨fun _ => hS (Or.inl g), fun q => absurd q (by decide)⟩)
  · rw [tc0, hM.1, lz0, cn 0 (by omega) (by omega)] at q2
    exact go g (Or.inr (by omega))
  · rw [tc0, hM.1, lz0, cn 0 (by omega) (by omega)] at q2
    exact hS (Or.inr ⟨q, by omega⟩)
theorem x_voice (h : RS M S c row) (hS : (lastS S < 0 ∨ ¬ endsW S) → Q (-3) M) (hF : ¬ lastS S < 0 → endsW S → gVo S (gNb S - 1) = 3 → Q (-4) M) (hV : ¬ lastS S < 0 → endsW S → gVo S (gNb S - 1) < 3 → ∀ M' : Mem, RS M' (sVoice S) c row → fl M M' → Q (zI (gVo S (gNb S - 1))) M') : w_X7_voice M Q := by
  have hM := h.2.2.2.2.1
  have hv := h.2.2.2.2.2.2
  have hnb := hv.2.2.1
  unfold w_X7_voice
  refine ⟨vi0, fun x2 e2 => ?_⟩
  rw [tc0, hM.1, lz1, zI_sub] at e2
  by_cases g : gNb S = 0
  · subst e2
    refine ⟨fun _ => hS (Or.inl (by unfold lastS; rw [if_pos (Or.inl g)]; omega)), fun q => ?_⟩
    rw [lz0, zI_lt (by omega) (by omega) (by omega) (by omega)] at q
    omega
  · have e2' : x2 = zI ((gNb S - 1 : Nat) : Int) := by rw [e2]; congr 1; omega
    subst e2'
    obtain ⟨b1, b2⟩ := hM.2.2.2.1 (gNb S - 1) (by omega)
    rw [Nat.mul_zero, Nat.zero_add] at b1 b2
    have hb3 := hv.2.2.2.2.1 (gNb S - 1) (by omega)
    refine ⟨fun q => by rw [lz0, zI_lt (by omega) (by omega) (by omega) (by omega)] at q; omega, fun _ => ?_⟩
    rw [zI_in (by omega) (by omega), zI_tn (by omega) (by omega), tn_nat, b2]
    by_cases g2 : gVo S (gNb S - 1) = 0
    · rw [if_pos g2]
      exact ⟨by omega, fun _ => hS (Or.inl (by unfold lastS; rw [if_pos (Or.inr g2)]; omega)), fun q => absurd (by decide +kernel) q⟩
    · rw [if_neg g2]
      refine ⟨by omega, fun q => absurd q (by decide +kernel), fun _ => ?_⟩
      have hls : ¬ lastS S < 0 := by unfold lastS; rw [if_neg (by omega)]; omega
      refine x_lacks hM h.2.2.1 hv (fun ge => ⟨fun _ => ⟨by omega, ?_⟩, fun q => absurd rfl q⟩) (fun ge => ⟨fun q => absurd q (by decide), fun _ => hS (Or.inr ge)⟩)
      have c3 : zI (gVo S (gNb S - 1) : Int) = 3 ↔ gVo S (gNb S - 1) = 3 := by rw [lz3, zI_eq (by omega) (by omega) (by omega) (by omega)]; omega
      rw [b1]
      simp only [c3]
      refine ⟨fun q => ⟨by omega, by omega, fun M9 e9 => ⟨by omega, ?_⟩⟩, fun q => hF hls ge q⟩
      rw [lz1, zI_add] at e9
      have r9 : M9 57 (gNb S - 1) = zI ((gVo S (gNb S - 1) : Int) + 1) := by rw [e9, mset_at]
      rw [r9, lz1, zI_sub, show (gVo S (gNb S - 1) : Int) + 1 - 1 = gVo S (gNb S - 1) by omega]
      have far : ∀ k : Nat, k ≠ 57 → M9 k = M k := fun k a => by rw [e9, mset_o a]
      have hR2 : RM M9 0 (sVoice S) := by
        refine ⟨by rw [far 53 (by omega)]; exact hM.1, by rw [far 54 (by omega)]; exact hM.2.1, by rw [far 55 (by omega)]; exact hM.2.2.1, fun b hb => ?_, fun i a hi ha => by rw [far _ (by omega)]; exact hM.2.2.2.2.1 i a hi ha, fun i k hi hk => by rw [far 68 (by omega)]; exact hM.2.2.2.2.2 i k hi hk⟩
        rw [Nat.mul_zero, Nat.zero_add, far 56 (by omega)]
        show _ = zI ((if b = gNb S - 1 then gVo S (gNb S - 1) + 1 else gVo S b : Nat) : Int) ∧ _ = zI (if (if b = gNb S - 1 then gVo S (gNb S - 1) + 1 else gVo S b) = 0 then 1 else 0)
        by_cases gb : b = gNb S - 1
        · rw [if_pos gb, if_neg (by omega), gb, r9, b2, if_neg g2]
          exact ⟨rfl, rfl⟩
        · rw [if_neg gb, e9, mset_j gb]
          have := hM.2.2.2.1 b hb
          rw [Nat.mul_zero, Nat.zero_add] at this
          exact this
      obtain ⟨k1, k2⟩ := RS_mus h (fun k hk => far k (by omega)) hR2 rfl (MV_voice hv (by omega) (by omega))
      exact hV hls ge (by omega) M9 k1 k2
theorem x_put {a2 a3 a4 a5 a6 : Int} (h : RS M S c row) (hls : ¬ lastS S < 0) (hi : gNi S < 600) (hsz : gSz S (lastS S).toNat < 40) (h2 : a2 = 0 ∨ (7 ≤ a2 ∧ a2 ≤ 55)) (h3 : 0 ≤ a3 ∧ a3 ≤ 3) (h4 : 0 ≤ a4 ∧ a4 ≤ 3) (h5 : 0 ≤ a5 ∧ a5 ≤ 2) (h6 : 0 ≤ a6 ∧ a6 ≤ 2) (hQ : ∀ M' : Mem, RS M' (sItem S a2 a3 a4 a5 a6) c row → fl M M' → Q (zI (gNi S)) M') : w_X7_put (zI (rp a2)) (zI a3) (zI a4) (zI a5) (zI a6) M Q := by
  have hM := h.2.2.2.2.1
  have hv := h.2.2.2.2.2.2
  have hnb := hv.2.2.1
  obtain ⟨l1, l2, l3⟩ := lastS_sp hls
  have hb3 := hv.2.2.2.2.1 _ l1
  obtain ⟨b1, b2⟩ := hM.2.2.2.1 (gNb S - 1) l1
  rw [Nat.mul_zero, Nat.zero_add] at b1 b2
  unfold w_X7_put
  rw [tc0]
  refine ⟨vi0, fun x2 e2 => ?_⟩
  rw [hM.2.1] at e2
  subst e2
  rw [zI_in (by omega) (by omega), zI_tn (by omega) (by omega), tn_nat, hM.1, lz1, zI_sub]
  refine ⟨vi0, by omega, fun M5 e5 => ?_⟩
  have n5 : M5 53 = M 53 := by rw [e5, mset_o (by omega)]
  have v5 : M5 57 = M 57 := by rw [e5, mset_o (by omega)]
  rw [n5, v5, hM.1, zI_sub, zI_in (by omega) (by omega), zI_tn (by omega) (by omega), show ((gNb S : Int) - 1).toNat = gNb S - 1 by omega, b1, zI_sub]
  refine ⟨vi0, by omega, by omega, fun M9 e9 => ⟨by omega, fun M11 e11 => ⟨by omega, fun M13 e13 => ⟨by omega, fun M15 e15 => ⟨by omega, fun M17 e17 => ⟨by omega, fun M19 e19 => ⟨by omega, fun M21 e21 => ⟨by omega, fun M23 e23 => ⟨by omega, fun M25 e25 => ⟨5, ?_⟩⟩⟩⟩⟩⟩⟩⟩⟩⟩
  have far25 : ∀ k : Nat, (k < 58 ∨ 67 < k) → M25 k = M k := fun k hk => by rw [e25, mset_o (by omega), e23, mset_o (by omega), e21, mset_o (by omega), e19, mset_o (by omega), e17, mset_o (by omega), e15, mset_o (by omega), e13, mset_o (by omega), e11, mset_o (by omega), e9, mset_o (by omega), e5, mset_o (by omega)]
  have at25 : ∀ i a : Nat, a < 10 → M25 (58 + a) i = if i = gNi S then zI (rat (aItem S a2 a3 a4 a5 a6) a) else M (58 + a) i := by
    intro i a ha
    have hcase : a = 0 ∨ a = 1 ∨ a = 2 ∨ a = 3 ∨ a = 4 ∨ a = 5 ∨ a = 6 ∨ a = 7 ∨ a = 8 ∨ a = 9 := by omega
    by_cases g : i = gNi S
    · rw [if_pos g, g]
      rcases hcase with rfl | rfl | rfl | rfl | rfl | rfl | rfl | rfl | rfl | rfl
      · rw [e25, mset_o (by omega), e23, mset_o (by omega), e21, mset_o (by omega), e19, mset_o (by omega), e17, mset_o (by omega), e15, mset_o (by omega), e13, mset_o (by omega), e11, mset_o (by omega), e9, mset_o (by omega), e5]; show mset _ 58 _ _ 58 _ = _; rw [mset_at]; rfl
      · rw [e25, mset_o (by omega), e23, mset_o (by omega), e21, mset_o (by omega), e19, mset_o (by omega), e17, mset_o (by omega), e15, mset_o (by omega), e13, mset_o (by omega), e11, mset_o (by omega), e9]; show mset _ 59 _ _ 59 _ = _; rw [mset_at]; rfl
      · rw [e25, mset_o (by omega), e23, mset_o (by omega), e21, mset_o (by omega), e19, mset_o (by omega), e17, mset_o (by omega), e15, mset_o (by omega), e13, mset_o (by omega), e11]; show mset _ 60 _ _ 60 _ = _; rw [mset_at]; rfl
      · rw [e25, mset_o (by omega), e23, mset_o (by omega), e21, mset_o (by omega), e19, mset_o (by omega), e17, mset_o (by omega), e15, mset_o (by omega), e13]; show mset _ 61 _ _ 61 _ = _; rw [mset_at]; rfl
      · rw [e25, mset_o (by omega), e23, mset_o (by omega), e21, mset_o (by omega), e19, mset_o (by omega), e17, mset_o (by omega), e15]; show mset _ 62 _ _ 62 _ = _; rw [mset_at]; rfl
      · rw [e25, mset_o (by omega), e23, mset_o (by omega), e21, mset_o (by omega), e19, mset_o (by omega), e17]; show mset _ 63 _ _ 63 _ = _; rw [mset_at]; rfl
      · rw [e25, mset_o (by omega), e23, mset_o (by omega), e21, mset_o (by omega), e19]; show mset _ 64 _ _ 64 _ = _; rw [mset_at]; rfl
      · rw [e25, mset_o (by omega), e23, mset_o (by omega), e21]; show mset _ 65 _ _ 65 _ = _; rw [mset_at]; exact lz0
      · rw [e25, mset_o (by omega), e23]; show mset _ 66 _ _ 66 _ = _; rw [mset_at]; exact lz0
      · rw [e25]; show mset _ 67 _ _ 67 _ = _; rw [mset_at]; exact lz0
    · rw [if_neg g]
      rcases hcase with rfl | rfl | rfl | rfl | rfl | rfl | rfl | rfl | rfl | rfl
      · rw [e25, mset_o (by omega), e23, mset_o (by omega), e21, mset_o (by omega), e19, mset_o (by omega), e17, mset_o (by omega), e15, mset_o (by omega), e13, mset_o (by omega), e11, mset_o (by omega), e9, mset_o (by omega), e5]; show mset _ 58 _ _ 58 _ = _; rw [mset_j g]
      · rw [e25, mset_o (by omega), e23, mset_o (by omega), e21, mset_o (by omega), e19, mset_o (by omega), e17, mset_o (by omega), e15, mset_o (by omega), e13, mset_o (by omega), e11, mset_o (by omega), e9]; show mset _ 59 _ _ 59 _ = _; rw [mset_j g, e5, mset_o (by omega)]
      · rw [e25, mset_o (by omega), e23, mset_o (by omega), e21, mset_o (by omega), e19, mset_o (by omega), e17, mset_o (by omega), e15, mset_o (by omega), e13, mset_o (by omega), e11]; show mset _ 60 _ _ 60 _ = _; rw [mset_j g, e9, mset_o (by omega), e5, mset_o (by omega)]
      · rw [e25, mset_o (by omega), e23, mset_o (by omega), e21, mset_o (by omega), e19, mset_o (by omega), e17, mset_o (by omega), e15, mset_o (by omega), e13]; show mset _ 61 _ _ 61 _ = _; rw [mset_j g, e11, mset_o (by omega), e9, mset_o (by omega), e5, mset_o (by omega)]
      · rw [e25, mset_o (by omega), e23, mset_o (by omega), e21, mset_o (by omega), e19, mset_o (by omega), e17, mset_o (by omega), e15]; show mset _ 62 _ _ 62 _ = _; rw [mset_j g, e13, mset_o (by omega), e11, mset_o (by omega), e9, mset_o (by omega), e5, mset_o (by omega)]
      · rw [e25, mset_o (by omega), e23, mset_o (by omega), e21, mset_o (by omega), e19, mset_o (by omega), e17]; show mset _ 63 _ _ 63 _ = _; rw [mset_j g, e15, mset_o (by omega), e13, mset_o (by omega), e11, mset_o (by omega), e9, mset_o (by omega), e5, mset_o (by omega)]
      · rw [e25, mset_o (by omega), e23, mset_o (by omega), e21, mset_o (by omega), e19]; show mset _ 64 _ _ 64 _ = _; rw [mset_j g, e17, mset_o (by omega), e15, mset_o (by omega), e13, mset_o (by omega), e11, mset_o (by omega), e9, mset_o (by omega), e5, mset_o (by omega)]
      · rw [e25, mset_o (by omega), e23, mset_o (by omega), e21]; show mset _ 65 _ _ 65 _ = _; rw [mset_j g, e19, mset_o (by omega), e17, mset_o (by omega), e15, mset_o (by omega), e13, mset_o (by omega), e11, mset_o (by omega), e9, mset_o (by omega), e5, mset_o (by omega)]
      · rw [e25, mset_o (by omega), e23]; show mset _ 66 _ _ 66 _ = _; rw [mset_j g, e21, mset_o (by omega), e19, mset_o (by omega), e17, mset_o (by omega), e15, mset_o (by omega), e13, mset_o (by omega), e11, mset_o (by omega), e9, mset_o (by omega), e5, mset_o (by omega)]
      · rw [e25]; show mset _ 67 _ _ 67 _ = _; rw [mset_j g, e23, mset_o (by omega), e21, mset_o (by omega), e19, mset_o (by omega), e17, mset_o (by omega), e15, mset_o (by omega), e13, mset_o (by omega), e11, mset_o (by omega), e9, mset_o (by omega), e5, mset_o (by omega)]
  have key : ∀ (k j : Nat) (N : Mem), j ≤ 4 → 4 - j < k → (∀ k2 : Nat, k2 ≠ 68 → N k2 = M25 k2) → (∀ q : Nat, q < 4 * gNi S → N 68 q = M 68 q) → w_X7_put_114 Q k (zI (rp a2)) (zI a3) (zI a4) (zI a5) (zI a6) (zI (gNi S)) (zI j) N := by
    intro k
    induction k with
    | zero => intro j N g1 g2; omega
    | succ k ih =>
      intro j N hj hk hN1 hN2
      show wb_X7_put_114 Q (w_X7_put_114 Q k) _ _ _ _ _ _ _ N
      unfold wb_X7_put_114
      simp only [lz4]
      rw [zI_le (by omega) (by omega) (by omega) (by omega), zI_mul, zI_add, zI_in (by omega) (by omega), zI_tn (a := 4 * (gNi S : Int) + (j : Int)) (by omega) (by omega), show (4 * (gNi S : Int) + (j : Int)).toNat = 4 * gNi S + j by omega, tc0]
      refine ⟨fun q => ⟨vi0, vi0, fun M28 e28 => ?_⟩, fun q => ⟨by omega, fun M30 e30 x31 e31 => ?_⟩⟩
      · have n54 : N 54 0 = zI (gNi S) := by rw [hN1 54 (by omega), far25 54 (by omega)]; exact hM.2.1
        rw [n54, lz1, zI_add] at e28
        have far : ∀ k : Nat, k ≠ 54 → k ≠ 68 → (k < 58 ∨ 67 < k) → M28 k = M k := fun k x1 x2 x3 => by rw [e28, mset_o x1, hN1 k x2, far25 k x3]
        have hR2 : RM M28 0 (sItem S a2 a3 a4 a5 a6) := by
          refine ⟨by rw [far 53 (by omega) (by omega) (by omega)]; exact hM.1, by rw [e28, mset_at]; rfl, by rw [far 55 (by omega) (by omega) (by omega)]; exact hM.2.2.1, fun b hb => by rw [far 57 (by omega) (by omega) (by omega), far 56 (by omega) (by omega) (by omega)]; exact hM.2.2.2.1 b hb, fun i a hi2 ha => ?_, fun i k2 hi2 hk2 => ?_⟩
          · have hi3 : i < gNi S + 1 := hi2
            rw [Nat.mul_zero, Nat.zero_add, e28, mset_o (by omega), hN1 _ (by omega), at25 i a ha]
            show _ = zI (rat (fun k => if i = gNi S then aItem S a2 a3 a4 a5 a6 k else gIt S i k) a)
            by_cases g : i = gNi S
            · simp only [if_pos g]
            · simp only [if_neg g]
              have := hM.2.2.2.2.1 i a (by omega) ha
              rw [Nat.mul_zero, Nat.zero_add] at this
              exact this
          · have hi3 : i < gNi S + 1 := hi2
            have hk3 : (k2 : Int) < (if i = gNi S then aItem S a2 a3 a4 a5 a6 9 else gIt S i 9) := hk2
            show _ = zI (if i = gNi S then aItem S a2 a3 a4 a5 a6 (10 + k2) else gIt S i (10 + k2))
            by_cases g : i = gNi S
            · rw [if_pos g] at hk3
              have : aItem S a2 a3 a4 a5 a6 9 = 0 := rfl
              omega
            · rw [if_neg g] at hk3
              have hm4 := (hv.2.2.2.2.2.1 i (by omega)).2.2.2.2.2.2.2.2.2.1
              have := hM.2.2.2.2.2 i k2 (by omega) hk3
              rw [if_neg g, e28, mset_o (by omega), hN2 _ (by omega)]
              exact this
        obtain ⟨k1, k2⟩ := RS_mus h (fun k hk => far k (by omega) (by omega) (by omega)) hR2 rfl (MV_item hv hls hi hsz h2 h3 h4 (by omega) h6)
        exact hQ M28 k1 k2
      · have e31' : x31 = zI ((j + 1 : Nat) : Int) := by rw [e31, lz1, zI_add]; congr 1
        subst e31'
        exact ih (j + 1) M30 (by omega) (by omega) (fun k2 g => by rw [e30, mset_o g]; exact hN1 k2 g) (fun q hq => by rw [e30, mset_j (by omega)]; exact hN2 q hq)
  exact key 5 0 M25 (by omega) (by omega) (fun _ _ => rfl) (fun q hq => by rw [far25 68 (by omega)])
end Ref3
