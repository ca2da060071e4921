section Ref2
variable {M : Mem} {S : Mus} {c : Nat} {row : Nat → Int} {Q : Int32 → Mem → Prop}
theorem sumF_one {a : Nat} : ∀ n : Nat, sumF (fun _ => (1 : Int)) a n = n
  | 0 => rfl
  | n + 1 => by
    unfold sumF
    rw [sumF_one n]
    rfl
theorem x_voiceSize {o b v : Nat} (ho : o < 2) (h : RM M o S) (hv : MV S) (hb : b < gNb S) (hvv : v < gVo S b) (hQ : Q (zI (gSz S (3 * b + v))) M) : w_X7_voiceSize (zI o) (zI b) (zI v) M Q := by
  have hn := hv.2.2.2.1
  have hnb := hv.2.2.1
  have hb3 := hv.2.2.2.2.1 b hb
  have hs := sel_sum hv hb hvv (fun _ => 1)
  rw [sumF_one] at hs
  rw [← hs] at hQ
  unfold w_X7_voiceSize
  intro x1 e1
  rw [lz600, zI_mul] at e1
  refine ⟨gNi S + 1, ?_⟩
  have key : ∀ (k i : Nat), i ≤ gNi S → gNi S - i < k → w_X7_voiceSize_10 Q k (zI o) (zI b) (zI v) (zI (sumF (selF S b v (fun _ => 1)) 0 i)) (zI ((600 * o + i : Nat) : Int)) M := by
    intro k
    induction k with
    | zero => intro i g1 g2; omega
    | succ k ih =>
      intro i hi hk
      show wb_X7_voiceSize_10 Q (w_X7_voiceSize_10 Q k) _ _ _ _ _ M
      unfold wb_X7_voiceSize_10
      rw [lz600, zI_mul, zI_tn (a := (o : Int)) (by omega) (by omega), tn_nat, h.2.1, zI_add, zI_in (by omega) (by omega), zI_le (by omega) (by omega) (by omega) (by omega), zI_in (by omega) (by omega), zI_tn (by omega) (by omega), tn_nat]
      refine ⟨by omega, fun q => ?_, fun q => ⟨by omega, ⟨fun _ => trivial, fun _ => ⟨by omega, fun _ => trivial, fun _ => trivial⟩⟩, fun z hz x6 e6 x7 e7 => ?_⟩⟩
      · have : i = gNi S := by omega
        subst this
        exact hQ
      · have hi2 : i < gNi S := by omega
        obtain ⟨w0, w1, -⟩ := hv.2.2.2.2.2.1 i hi2
        have hv3 : gVo S (gIt S i 0).toNat ≤ 3 := hv.2.2.2.2.1 _ (by omega)
        have e8 : M 58 (600 * o + i) = zI (gIt S i 0) := RM_at h hi2 (a := 0) (by omega)
        have e9 : M 59 (600 * o + i) = zI (gIt S i 1) := RM_at h hi2 (a := 1) (by omega)
        have c8 : zI (gIt S i 0) = zI (b : Int) ↔ gIt S i 0 = b := zI_eq (by omega) (by omega) (by omega) (by omega)
        have c9 : zI (gIt S i 1) = zI (v : Int) ↔ gIt S i 1 = v := zI_eq (by omega) (by omega) (by omega) (by omega)
        rw [e8, e9] at hz
        simp only [c8, c9] at hz
        have ez : z = zI (selF S b v (fun _ => 1) i) := by
          rw [hz]
          unfold selF
          by_cases g1 : gIt S i 0 = b
          · by_cases g2 : gIt S i 1 = v
            · rw [if_pos g1, if_pos g2, if_pos ⟨g1, g2⟩]; exact lz1
            · rw [if_pos g1, if_neg g2, if_neg (fun z => g2 z.2)]; exact lz0
          · rw [if_neg g1, if_neg (fun z => g1 z.1)]; exact lz0
        have e6' : x6 = zI (sumF (selF S b v (fun _ => 1)) 0 (i + 1)) := by
          rw [e6, ez, zI_add]
          show _ = zI (sumF (selF S b v (fun _ => 1)) 0 i + selF S b v (fun _ => 1) (0 + i))
          rw [Nat.zero_add]
        have e7' : x7 = zI ((600 * o + (i + 1) : Nat) : Int) := by rw [e7, lz1, zI_add]; congr 1
        subst e6' e7'
        exact ih (i + 1) (by omega) (by omega)
  have := key (gNi S + 1) 0 (by omega) (by omega)
  rw [e1, show ((o : Int) * 600) = ((600 * o + 0 : Nat) : Int) by omega]
  exact this
theorem x_voiceFirst {o b v : Nat} (ho : o < 2) (h : RM M o S) (hv : MV S) (hb : b < gNb S) (hvv : v < gVo S b) (hQ : Q (if gSz S (3 * b + v) = 0 then -1 else zI ((600 * o + gFo S (3 * b + v) : Nat) : Int)) M) : w_X7_voiceFirst (zI o) (zI b) (zI v) M Q := by
  have hn := hv.2.2.2.1
  have hnb := hv.2.2.1
  have hb3 := hv.2.2.2.2.1 b hb
  obtain ⟨r1, r2, r3⟩ := hv.2.2.2.2.2.2.1 b v hb hvv
  unfold w_X7_voiceFirst
  rw [lz600, zI_mul, zI_tn (by omega) (by omega), tn_nat, h.2.1, zI_add, zI_in (by omega) (by omega), lz1, zI_sub, zI_neg]
  refine ⟨by omega, fun x2 e2 => ⟨gNi S + 1, ?_⟩⟩
  have key : ∀ (k p : Nat), p ≤ gNi S → p < k → w_X7_voiceFirst_19 Q k (zI o) (zI b) (zI v) (zI (if gSz S (3 * b + v) = 0 ∨ gFo S (3 * b + v) + gSz S (3 * b + v) ≤ p then -1 else if gFo S (3 * b + v) ≤ p then ((600 * o + p : Nat) : Int) else ((600 * o + gFo S (3 * b + v) : Nat) : Int))) (zI (((600 * o + p : Nat) : Int) - 1)) M := by
    intro k
    induction k with
    | zero => intro p g1 g2; omega
    | succ k ih =>
      intro p hp hk
      show wb_X7_voiceFirst_19 Q (w_X7_voiceFirst_19 Q k) _ _ _ _ _ M
      unfold wb_X7_voiceFirst_19
      rw [lz600, zI_mul, zI_lt (by omega) (by omega) (by omega) (by omega), zI_in (by omega) (by omega), zI_tn (by omega) (by omega)]
      refine ⟨fun q => ?_, fun q => ⟨by omega, ⟨fun _ => trivial, fun _ => ⟨by omega, fun _ => trivial, fun _ => trivial⟩⟩, fun z hz x6 e6 => ?_⟩⟩
      · have hp0 : p = 0 := by omega
        subst hp0
        by_cases g : gSz S (3 * b + v) = 0
        · rw [if_pos (Or.inl g)]
          rw [if_pos g, lz1, zI_neg] at hQ
          exact hQ
        · rw [if_neg (by omega)]
          rw [if_neg g] at hQ
          by_cases g2 : gFo S (3 * b + v) ≤ 0
          · rw [if_pos g2, show 600 * o + 0 = 600 * o + gFo S (3 * b + v) by omega]; exact hQ
          · rw [if_neg g2]; exact hQ
      · have hi2 : p - 1 < gNi S := by omega
        have e1 : (((600 * o + p : Nat) : Int) - 1).toNat = 600 * o + (p - 1) := by omega
        obtain ⟨w0, w1, -⟩ := hv.2.2.2.2.2.1 (p - 1) hi2
        have hv3 : gVo S (gIt S (p - 1) 0).toNat ≤ 3 := hv.2.2.2.2.1 _ (by omega)
        have e8 : M 58 (600 * o + (p - 1)) = zI (gIt S (p - 1) 0) := RM_at h hi2 (a := 0) (by omega)
        have e9 : M 59 (600 * o + (p - 1)) = zI (gIt S (p - 1) 1) := RM_at h hi2 (a := 1) (by omega)
        have c8 : zI (gIt S (p - 1) 0) = zI (b : Int) ↔ gIt S (p - 1) 0 = b := zI_eq (by omega) (by omega) (by omega) (by omega)
        have c9 : zI (gIt S (p - 1) 1) = zI (v : Int) ↔ gIt S (p - 1) 1 = v := zI_eq (by omega) (by omega) (by omega) (by omega)
        rw [e1, e8, e9] at hz
        simp only [c8, c9] at hz
        have r4 := r3 (p - 1) hi2
        have e6' : x6 = zI (((600 * o + (p - 1) : Nat) : Int) - 1) := by rw [e6, lz1, zI_neg, zI_add]; congr 1; omega
        have ez : z = zI (if gSz S (3 * b + v) = 0 ∨ gFo S (3 * b + v) + gSz S (3 * b + v) ≤ p - 1 then -1 else if gFo S (3 * b + v) ≤ p - 1 then ((600 * o + (p - 1) : Nat) : Int) else ((600 * o + gFo S (3 * b + v) : Nat) : Int)) := by
          by_cases g : gIt S (p - 1) 0 = b ∧ gIt S (p - 1) 1 = v
          · rw [if_pos g.1, if_pos g.2] at hz
            have := r4.mp g
            rw [hz, if_neg (by omega), if_pos (by omega)]
            congr 1
            omega
          · have hz2 : z = zI (if gSz S (3 * b + v) = 0 ∨ gFo S (3 * b + v) + gSz S (3 * b + v) ≤ p then -1 else if gFo S (3 * b + v) ≤ p then ((600 * o + p : Nat) : Int) else ((600 * o + gFo S (3 * b + v) : Nat) : Int)) := by
              rw [hz]
              by_cases g1 : gIt S (p - 1) 0 = b
              · rw [if_pos g1, if_neg (fun z => g ⟨g1, z⟩)]
              · rw [if_neg g1]
            have ng : ¬ (gFo S (3 * b + v) ≤ p - 1 ∧ p - 1 < gFo S (3 * b + v) + gSz S (3 * b + v)) := fun k => g (r4.mpr k)
            rw [hz2]
            congr 1
            by_cases g1 : gSz S (3 * b + v) = 0 ∨ gFo S (3 * b + v) + gSz S (3 * b + v) ≤ p
            · rw [if_pos g1, if_pos (by omega)]
            · rw [if_neg g1, if_neg (show ¬ (gSz S (3 * b + v) = 0 ∨ gFo S (3 * b + v) + gSz S (3 * b + v) ≤ p - 1) by omega), if_neg (show ¬ gFo S (3 * b + v) ≤ p - 1 by omega)]
              by_cases g2 : gFo S (3 * b + v) ≤ p
              · rw [if_pos g2]; omega
              · rw [if_neg g2]
        rw [ez, e6']
        exact ih (p - 1) (by omega) (by omega)
  have := key (gNi S + 1) (gNi S) (by omega) (by omega)
  rw [if_pos (by omega)] at this
  rw [e2, show ((o : Int) * 600 + (gNi S : Int) - 1) = ((600 * o + gNi S : Nat) : Int) - 1 by omega]
  exact this
theorem vi_0 : vp_in (zI 0) 2 := by rw [← lz0]; exact vi0
/-- the last bar's number less 1 -/
theorem x_lacks (h : RM M 0 S) (hl : M 46 7 = zI (gLen S)) (hv : MV S) (h0 : endsW S → Q 0 M) (h1 : ¬ endsW S → Q 1 M) : w_X7_lacks M Q := by
  have hnb := hv.2.2.1
  have hlen := hv.1
  unfold w_X7_lacks
  refine ⟨vi0, fun x2 e2 => ?_⟩
  rw [tc0, h.1, lz1, zI_sub] at e2
  by_cases g : gNb S = 0
  · subst e2
    refine ⟨fun _ => h0 (Or.inl (by unfold lastS; rw [if_pos (Or.inl g)]; omega)), fun q => ?_⟩
    rw [lz0, zI_lt (by omega) (by omega) (by omega) (by omega)] at q
    omega
  · have e2' : x2 = zI ((gNb S - 1 : Nat) : Int) := by rw [e2]; congr 1; omega
    subst e2'
    obtain ⟨b1, b2⟩ := h.2.2.2.1 (gNb S - 1) (by omega)
    rw [Nat.mul_zero, Nat.zero_add] at b1 b2
    have hb3 := hv.2.2.2.2.1 (gNb S - 1) (by omega)
    refine ⟨fun q => by rw [lz0, zI_lt (by omega) (by omega) (by omega) (by omega)] at q; omega, fun _ => ?_⟩
    rw [zI_in (by omega) (by omega), zI_tn (by omega) (by omega), tn_nat, b1, b2]
    by_cases g2 : gVo S (gNb S - 1) = 0
    · rw [if_pos g2]
      refine ⟨by omega, fun _ => h0 (Or.inl (by unfold lastS; rw [if_pos (Or.inr g2)]; omega)), fun q => absurd q (by decide)⟩
    · rw [if_neg g2]
      refine ⟨by omega, fun q => absurd rfl q, fun _ => ⟨by omega, ?_⟩⟩
      have hls : ¬ lastS S < 0 := by unfold lastS; rw [if_neg (by omega)]; omega
      obtain ⟨l1, l2, l3⟩ := lastS_sp hls
      have l4 : (lastS S).toNat = 3 * (gNb S - 1) + (gVo S (gNb S - 1) - 1) := by rw [l3]; rfl
      have hs := sel_sum hv l1 l2 (lastG S)
      have hsl := slotL_bd hv l1 l2
      rw [lz1, zI_sub, lz0, show (gVo S (gNb S - 1) : Int) - 1 = ((gVo S (gNb S - 1) - 1 : Nat) : Int) by omega]
      refine x_voiceLasts (o := 0) (by omega) h hl hv (by omega) (by omega) ?_
      rw [hs, hl]
      intro z hz
      have ce : zI (sumF (lastG S) (gFo S (3 * (gNb S - 1) + (gVo S (gNb S - 1) - 1))) (gSz S (3 * (gNb S - 1) + (gVo S (gNb S - 1) - 1)))) = zI (gLen S) ↔ slotL S (lastS S).toNat = gLen S := by
        rw [l4]
        unfold slotL at hsl ⊢
        exact zI_eq (by omega) (by omega) (by omega) (by omega)
      simp only [ce] at hz
      by_cases g3 : slotL S (lastS S).toNat = gLen S
      · rw [if_pos g3] at hz; subst hz; exact ⟨Or.inl (by decide +kernel), by rw [← lz0]; exact h0 (Or.inr g3)⟩
      · rw [if_neg g3] at hz; subst hz; exact ⟨Or.inr (by decide +kernel), by rw [← lz1]; exact h1 (fun k => k.elim hls g3)⟩
theorem x_clear (h : RS M S c row) (hQ : ∀ M' : Mem, RS M' (sNil S 512) 0 row → fl M M' → Q 0 M') : w_X7_clear M Q := by
  unfold w_X7_clear
  rw [tc0]
  intro M1 e1 M2 e2
  refine ⟨vi0, fun M4 e4 => ⟨vi0, fun M6 e6 => ⟨vi0, fun M8 e8 => ?_⟩⟩⟩
  have far : ∀ k : Nat, k ≠ 46 → k ≠ 53 → k ≠ 54 → k ≠ 55 → M8 k = M k := fun k a1 a2 a3 a4 => by rw [e8, mset_o a4, e6, mset_o a3, e4, mset_o a2, e2, mset_o a1, e1, mset_o a1]
  refine hQ M8 ⟨?_, by omega, ?_, fun j hj => absurd hj (Nat.not_lt_zero j), ⟨?_, ?_, ?_, fun b hb => absurd hb (Nat.not_lt_zero b), fun i a hi => absurd hi (Nat.not_lt_zero i), fun i k hi => absurd hi (Nat.not_lt_zero i)⟩, ?_, MV_nil (by omega)⟩ (fun k hk => far k (by omega) (by omega) (by omega) (by omega))
  · rw [e8, mset_o (by omega), e6, mset_o (by omega), e4, mset_o (by omega), e2, mset_j (by omega), e1, mset_at]; exact lz0
  · rw [e8, mset_o (by omega), e6, mset_o (by omega), e4, mset_o (by omega), e2, mset_at]; exact lz512
  · rw [e8, mset_o (by omega), e6, mset_o (by omega), e4, mset_at]; exact lz0
  · rw [e8, mset_o (by omega), e6, mset_at]; exact lz0
  · rw [e8, mset_at]; exact lz0
  · have := h.2.2.2.2.2.1
    unfold RT at this ⊢
    rw [far 47 (by omega) (by omega) (by omega) (by omega), far 48 (by omega) (by omega) (by omega) (by omega), far 49 (by omega) (by omega) (by omega) (by omega), far 50 (by omega) (by omega) (by omega) (by omega), far 51 (by omega) (by omega) (by omega) (by omega)]
    exact this
/-- only the row changes -/
theorem RS_row {M' : Mem} {c' : Nat} {row' : Nat → Int} (h : RS M S c row) (hO : ∀ k : Nat, k ≠ 46 → k ≠ 52 → M' k = M k) (h7 : M' 46 7 = M 46 7) (h1 : M' 46 6 = zI c') (h2 : c' ≤ 4000) (h3 : ∀ j : Nat, j < c' → M' 52 j = zI (row' j)) : RS M' S c' row' ∧ fl M M' := by
  obtain ⟨k1, k2, k3, k4, k5, k6, k7⟩ := h
  refine ⟨⟨h1, h2, by rw [h7]; exact k3, h3, ⟨by rw [hO 53 (by omega) (by omega)]; exact k5.1, by rw [hO 54 (by omega) (by omega)]; exact k5.2.1, by rw [hO 55 (by omega) (by omega)]; exact k5.2.2.1, fun b hb => by rw [hO 57 (by omega) (by omega), hO 56 (by omega) (by omega)]; exact k5.2.2.2.1 b hb, fun i a hi ha => by rw [hO _ (by omega) (by omega)]; exact k5.2.2.2.2.1 i a hi ha, fun i k hi hk => by rw [hO 68 (by omega) (by omega)]; exact k5.2.2.2.2.2 i k hi hk⟩, ?_, k7⟩, fun k hk => hO k (by omega) (by omega)⟩
  unfold RT at k6 ⊢
  rw [hO 47 (by omega) (by omega), hO 48 (by omega) (by omega), hO 49 (by omega) (by omega), hO 50 (by omega) (by omega), hO 51 (by omega) (by omega)]
  exact k6
theorem x_cell {a : Int} (h : RS M S c row) (ba : -2147483648 ≤ a ∧ a < 2147483648) (hR : (a < 0 ∨ 64 < a) → Q (-2) M) (hF : 0 ≤ a → a ≤ 64 → c = 4000 → Q (-4) M) (hQ : 0 ≤ a → a ≤ 64 → c < 4000 → ∀ M' : Mem, RS M' S (c + 1) (iup row c a) → fl M M' → Q (zI ((c : Int) + 1)) M') : w_X7_cell (zI a) M Q := by
  unfold w_X7_cell
  have c0 : zI a < 0 ↔ a < 0 := by rw [lz0, zI_lt (by omega) (by omega) (by omega) (by omega)]
  have c1 : zI a ≤ 64 ↔ a ≤ 64 := by rw [lz64, zI_le (by omega) (by omega) (by omega) (by omega)]
  have hc := h.2.1
  have c2 : zI (c : Int) = 4000 ↔ c = 4000 := by rw [lz4000, zI_eq (by omega) (by omega) (by omega) (by omega)]; omega
  rw [h.1, zI_in (by omega) (by omega), zI_tn (by omega) (by omega), tn_nat]
  simp only [c0, c1, c2]
  refine ⟨fun q => hR (Or.inl q), fun q1 => ⟨fun q2 => ⟨fun q3 => ⟨by omega, fun M2 e2 M3 e3 => ?_⟩, fun q3 => hF (by omega) q2 q3⟩, fun q2 => hR (Or.inr (by omega))⟩⟩
  have e4 : M2 46 6 = zI c := by rw [e2, mset_o (by omega)]; exact h.1
  rw [e4, lz1, zI_add] at e3
  have e5 : M3 46 6 = zI ((c : Int) + 1) := by rw [e3, mset_at]
  rw [e5]
  obtain ⟨k1, k2⟩ := RS_row (M' := M3) (c' := c + 1) (row' := iup row c a) h (fun k g1 g2 => by rw [e3, mset_o g1, e2, mset_o g2]) (by rw [e3, mset_j (by omega), e2, mset_o (by omega)]) (by rw [e5]; rfl) (by omega) (fun j hj => by
    rw [e3, mset_o (by omega), e2]
    show mset M 52 c (zI a) 52 j = zI (if j = c then a else row j)
    by_cases g : j = c
    · rw [g, mset_at, if_pos rfl]
    · rw [mset_j g, if_neg g]; exact h.2.2.2.1 j (by omega))
  exact hQ (by omega) q2 (by omega) M3 k1 k2
theorem x_cut {a : Int} (h : RS M S c row) (ba : -2147483648 ≤ a ∧ a < 2147483648) (hR : (a < 0 ∨ (c : Int) < a) → Q (-2) M) (hQ : 0 ≤ a → a ≤ c → ∀ M' : Mem, RS M' S a.toNat row → fl M M' → Q (zI ((c : Int) - a)) M') : w_X7_cut (zI a) M Q := by
  unfold w_X7_cut
  have hc := h.2.1
  have c0 : zI a < 0 ↔ a < 0 := by rw [lz0, zI_lt (by omega) (by omega) (by omega) (by omega)]
  rw [h.1, c0, zI_le (by omega) (by omega) (by omega) (by omega), zI_sub]
  refine ⟨fun q => hR (Or.inl q), fun q1 => ⟨fun q2 x1 e1 M2 e2 => ?_, fun q2 => hR (Or.inr (by omega))⟩⟩
  subst e1
  obtain ⟨k1, k2⟩ := RS_row (M' := M2) (c' := a.toNat) (row' := row) h (fun k g1 g2 => by rw [e2, mset_o g1]) (by rw [e2, mset_j (by omega)]) (by rw [e2, mset_at]; congr 1; omega) (by omega) (fun j hj => by rw [e2, mset_o (by omega)]; exact h.2.2.2.1 j (by omega))
  exact hQ (by omega) q2 M2 k1 k2
theorem x_at {a : Int} (h : RS M S c row) (ba : -2147483648 ≤ a ∧ a < 2147483648) (hN : (a < 0 ∨ (c : Int) ≤ a) → Q (-1) M) (hQ : 0 ≤ a → a < c → Q (zI (row a.toNat)) M) : w_X7_at (zI a) M Q := by
  unfold w_X7_at
  have hc := h.2.1
  have c0 : zI a < 0 ↔ a < 0 := by rw [lz0, zI_lt (by omega) (by omega) (by omega) (by omega)]
  have c1 : zI (c : Int) ≤ zI a ↔ (c : Int) ≤ a := zI_le (by omega) (by omega) (by omega) (by omega)
  rw [h.1, zI_in (by omega) (by omega), zI_tn (by omega) (by omega)]
  simp only [c0, c1]
  refine ⟨⟨fun _ => trivial, fun _ => ⟨fun _ => trivial, fun _ => ⟨by omega, trivial⟩⟩⟩, fun z hz => ?_⟩
  by_cases g : a < 0
  · rw [if_pos g] at hz; subst hz; exact hN (Or.inl g)
  · rw [if_neg g] at hz
    by_cases g2 : (c : Int) ≤ a
    · rw [if_pos g2] at hz; subst hz; exact hN (Or.inr g2)
    · rw [if_neg g2, h.2.2.2.1 a.toNat (by omega)] at hz
      subst hz
      exact hQ (by omega) (by omega)
end Ref2
