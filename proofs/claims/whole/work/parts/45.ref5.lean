section Ref5
variable {M : Mem} {S : Mus} {c : Nat} {row : Nat → Int} {Q : Int32 → Mem → Prop}
theorem RM0_at {i a : Nat} (h : RM M 0 S) (hi : i < gNi S) (ha : a < 10) : M (58 + a) i = zI (rat (gIt S i) a) := by
  have := h.2.2.2.2.1 i a hi ha
  rw [Nat.mul_zero, Nat.zero_add] at this
  exact this
/-- tied, slurred -/
theorem RM_set {i a : Nat} {x : Int} (h : RM M 0 S) (ha : a = 7 ∨ a = 8) : RM (mset M (58 + a) i (zI x)) 0 (sSet S i a x) := by
  have far : ∀ k : Nat, k ≠ 58 + a → mset M (58 + a) i (zI x) k = M k := fun k g => mset_o g
  refine ⟨by rw [far _ (by omega)]; exact h.1, by rw [far _ (by omega)]; exact h.2.1, by rw [far _ (by omega)]; exact h.2.2.1, fun b hb => by rw [far _ (by omega), far _ (by omega)]; exact h.2.2.2.1 b hb, fun i2 a2 hi2 ha2 => ?_, fun i2 k hi2 hk => ?_⟩
  · have q := RM0_at h hi2 ha2
    rw [Nat.mul_zero, Nat.zero_add]
    show _ = zI (if a2 = 2 then rp (if i2 = i ∧ 2 = a then x else gIt S i2 2) else (if i2 = i ∧ a2 = a then x else gIt S i2 a2))
    unfold rat at q
    by_cases g : a2 = a
    · subst g
      rw [if_neg (by omega)] at q ⊢
      by_cases g2 : i2 = i
      · subst g2; rw [mset_at, if_pos ⟨rfl, rfl⟩]
      · rw [mset_j g2, if_neg (fun z => g2 z.1)]; exact q
    · rw [far _ (by omega)]
      by_cases g3 : a2 = 2
      · rw [if_pos g3] at q ⊢
        rw [if_neg (by omega)]; exact q
      · rw [if_neg g3] at q ⊢
        rw [if_neg (fun z => g z.2)]; exact q
  · have hk2 : (k : Int) < (if i2 = i ∧ 9 = a then x else gIt S i2 9) := hk
    rw [if_neg (by omega)] at hk2
    show _ = zI (if i2 = i ∧ 10 + k = a then x else gIt S i2 (10 + k))
    rw [if_neg (by omega), far _ (by omega)]
    exact h.2.2.2.2.2 i2 k hi2 hk2
theorem x_tie (p : Int32) (h : RS M S c row) (hS : (gNi S = 0 ∨ gIt S (gNi S - 1) 2 = 0) → Q (-3) M) (hQ : 0 < gNi S → ¬ gIt S (gNi S - 1) 2 = 0 → ∀ M' : Mem, RS M' (sSet S (gNi S - 1) 7 (if p = 0 then 0 else 1)) c row → fl M M' → Q (zI (gIt S (gNi S - 1) 7)) M') : w_X7_tie p M Q := by
  have hM := h.2.2.2.2.1
  have hv := h.2.2.2.2.2.2
  have hni := hv.2.2.2.1
  unfold w_X7_tie
  refine ⟨vi0, fun x2 e2 => ?_⟩
  rw [tc0, hM.2.1, lz1, zI_sub] at e2
  by_cases g : gNi S = 0
  · subst e2
    refine ⟨fun _ => hS (Or.inl g), fun q => ?_⟩
    rw [lz0, zI_lt (by omega) (by omega) (by omega) (by omega)] at q
    omega
  · have e2' : x2 = zI ((gNi S - 1 : Nat) : Int) := by rw [e2]; congr 1; omega
    subst e2'
    have e60 : M 60 (gNi S - 1) = zI (rp (gIt S (gNi S - 1) 2)) := RM0_at hM (i := gNi S - 1) (a := 2) (by omega) (by omega)
    have e65 : M 65 (gNi S - 1) = zI (gIt S (gNi S - 1) 7) := RM0_at hM (i := gNi S - 1) (a := 7) (by omega) (by omega)
    have hp := (hv.2.2.2.2.2.1 (gNi S - 1) (by omega)).2.2.1
    refine ⟨fun q => by rw [lz0, zI_lt (by omega) (by omega) (by omega) (by omega)] at q; omega, fun _ => ?_⟩
    rw [zI_in (by omega) (by omega), zI_tn (by omega) (by omega), tn_nat, e60, e65, lz0]
    by_cases g2 : gIt S (gNi S - 1) 2 = 0
    · have er : rp (gIt S (gNi S - 1) 2) = -1 := if_pos g2
      rw [er]
      exact ⟨by omega, fun q => absurd q (by decide +kernel), fun _ => hS (Or.inr g2)⟩
    · have er : rp (gIt S (gNi S - 1) 2) = gIt S (gNi S - 1) 2 := if_neg g2
      rw [er, zI_le (by omega) (by omega) (by omega) (by omega)]
      refine ⟨by omega, fun _ => ⟨by omega, fun x5 e5 z6 e6 => ⟨by omega, fun M8 e8 => ?_⟩⟩, fun q => by omega⟩
      have ez : z6 = zI (if p = 0 then 0 else 1) := by rw [e6]; by_cases gp : p = zI 0 <;> simp [gp, lz0] <;> first | rfl | exact lz1
      rw [ez] at e8
      subst e5 e8
      obtain ⟨k1, k2⟩ := RS_mus h (fun k hk => mset_o (by omega)) (RM_set (i := gNi S - 1) (a := 7) (x := if p = 0 then 0 else 1) hM (Or.inl rfl)) rfl (MV_set hv (Or.inl rfl) (by by_cases gp : p = 0 <;> simp [gp]))
      exact hQ (by omega) g2 _ k1 k2
theorem x_slur {a : Int} (p2 : Int32) (h : RS M S c row) (ba : -2147483648 ≤ a ∧ a < 2147483648) (hN : (a < 0 ∨ (gNi S : Int) ≤ a) → Q (-1) M) (hQ : 0 ≤ a → a < gNi S → ∀ M' : Mem, RS M' (sSet S a.toNat 8 (if p2 = 0 then 0 else 1)) c row → fl M M' → Q (zI (gIt S a.toNat 8)) M') : w_X7_slur (zI a) p2 M Q := by
  have hM := h.2.2.2.2.1
  have hv := h.2.2.2.2.2.2
  have hni := hv.2.2.2.1
  unfold w_X7_slur
  have c0 : zI a < 0 ↔ a < 0 := by rw [lz0, zI_lt (by omega) (by omega) (by omega) (by omega)]
  rw [c0, tc0, hM.2.1, zI_lt (by omega) (by omega) (by omega) (by omega)]
  refine ⟨fun q => hN (Or.inl q), fun q1 => ⟨vi0, fun q2 => ?_, fun q2 => hN (Or.inr (by omega))⟩⟩
  have e66 : M 66 a.toNat = zI (gIt S a.toNat 8) := RM0_at hM (i := a.toNat) (a := 8) (by omega) (by omega)
  rw [zI_in (by omega) (by omega), zI_tn (by omega) (by omega), e66]
  refine ⟨by omega, fun x3 e3 z4 e4 => ⟨by omega, fun M6 e6 => ?_⟩⟩
  have ez : z4 = zI (if p2 = 0 then 0 else 1) := by rw [e4]; by_cases gp : p2 = 0 <;> simp [gp] <;> first | exact lz0 | exact lz1
  rw [ez] at e6
  subst e3 e6
  obtain ⟨k1, k2⟩ := RS_mus h (fun k hk => mset_o (by omega)) (RM_set (i := a.toNat) (a := 8) (x := if p2 = 0 then 0 else 1) hM (Or.inr rfl)) rfl (MV_set hv (Or.inr rfl) (by by_cases gp : p2 = 0 <;> simp [gp]))
  exact hQ (by omega) q2 _ k1 k2
theorem x_wantsSign {a b : Int} (ha : 0 ≤ a ∧ a ≤ 1000) (hb : 0 ≤ b ∧ b ≤ 1000) (h1 : leapP a b → Q 1 M) (h0 : ¬ leapP a b → Q 0 M) : w_X7_wantsSign (zI a) (zI b) M Q := by
  unfold w_X7_wantsSign
  have cle : zI a ≤ zI b ↔ a ≤ b := zI_le (by omega) (by omega) (by omega) (by omega)
  have ce : zI (a / 7) = zI (b / 7) ↔ a / 7 = b / 7 := zI_eq (by omega) (by omega) (by omega) (by omega)
  rw [zI_sub, zI_sub, lz7, zI_div (by omega) (by omega) (by omega) (by omega), zI_div (by omega) (by omega) (by omega) (by omega)]
  simp only [cle, ce]
  intro z1 e1 z2 e2
  have ex : ∃ w : Int, z1 = zI w ∧ 0 ≤ w ∧ w ≤ 1000 ∧ (∀ t : Int, 0 ≤ t → (t < w ↔ (t < a - b ∨ t < b - a))) := by
    by_cases g : a ≤ b
    · rw [if_pos g] at e1; exact ⟨b - a, e1, by omega, by omega, fun t ht => by omega⟩
    · rw [if_neg g] at e1; exact ⟨a - b, e1, by omega, by omega, fun t ht => by omega⟩
  obtain ⟨w, rfl, w1, w2, w3⟩ := ex
  have c4 : 4 < zI w ↔ (4 < a - b ∨ 4 < b - a) := by rw [lz4, zI_lt (by omega) (by omega) (by omega) (by omega)]; exact w3 4 (by omega)
  have c2 : zI w ≤ 2 ↔ ¬ (2 < a - b ∨ 2 < b - a) := by rw [lz2, zI_le (by omega) (by omega) (by omega) (by omega), ← w3 2 (by omega)]; omega
  simp only [c4, c2] at e2
  by_cases g : 4 < a - b ∨ 4 < b - a
  · rw [if_pos g] at e2; subst e2; exact ⟨Or.inr rfl, h1 ⟨by omega, Or.inl g⟩⟩
  · rw [if_neg g] at e2
    by_cases g3 : ¬ (2 < a - b ∨ 2 < b - a)
    · rw [if_pos g3] at e2; subst e2; exact ⟨Or.inl rfl, h0 (fun k => g3 k.1)⟩
    · rw [if_neg g3] at e2
      by_cases g2 : a / 7 = b / 7
      · rw [if_pos g2] at e2; subst e2; exact ⟨Or.inl rfl, h0 (fun k => k.2.elim g (fun z => z g2))⟩
      · rw [if_neg g2] at e2; subst e2; exact ⟨Or.inr rfl, h1 ⟨by omega, Or.inr g2⟩⟩
theorem x_wants {a b : Int} (ba : -2147483648 ≤ a ∧ a < 2147483648) (bb : -2147483648 ≤ b ∧ b < 2147483648) (hR : ¬ ((7 ≤ a ∧ a ≤ 55) ∧ (7 ≤ b ∧ b ≤ 55)) → Q (-2) M) (h1 : (7 ≤ a ∧ a ≤ 55) → (7 ≤ b ∧ b ≤ 55) → leapP a b → Q 1 M) (h0 : (7 ≤ a ∧ a ≤ 55) → (7 ≤ b ∧ b ≤ 55) → ¬ leapP a b → Q 0 M) : w_X7_wants (zI a) (zI b) M Q := by
  have c7 : zI a < 7 ↔ a < 7 := by rw [lz7, zI_lt (by omega) (by omega) (by omega) (by omega)]
  have c8 : zI b < 7 ↔ b < 7 := by rw [lz7, zI_lt (by omega) (by omega) (by omega) (by omega)]
  have c5 : 55 < zI a ↔ 55 < a := by rw [lz55, zI_lt (by omega) (by omega) (by omega) (by omega)]
  have c6 : zI b ≤ 55 ↔ b ≤ 55 := by rw [lz55, zI_le (by omega) (by omega) (by omega) (by omega)]
  unfold w_X7_wants
  simp only [c7, c8, c5, c6]
  refine ⟨fun q => hR (by omega), fun q1 => ⟨fun q => hR (by omega), fun q2 => ⟨fun q => hR (by omega), fun q3 => ⟨fun q4 => ?_, fun q => hR (by omega)⟩⟩⟩⟩
  refine x_wantsSign (by omega) (by omega) (fun g z hz => ?_) (fun g z hz => ?_)
  · rw [if_neg (by decide)] at hz; subst hz; exact h1 (by omega) (by omega) g
  · rw [if_pos rfl] at hz; subst hz; exact h0 (by omega) (by omega) g
theorem x_interval {n s : Int} (h : RS M S c row) (b1 : -2147483648 ≤ n ∧ n < 2147483648) (b2 : -2147483648 ≤ s ∧ s < 2147483648) (hR : ¬ ((2 ≤ n ∧ n ≤ 8) ∧ (0 ≤ s ∧ s ≤ 3)) → Q (-2) M) (hS : ((2 ≤ n ∧ n ≤ 8) ∧ (0 ≤ s ∧ s ≤ 3)) → (gNi S = 0 ∨ gIt S (gNi S - 1) 2 = 0 ∨ ¬ (7 ≤ ivP S n ∧ ivP S n ≤ 55)) → Q (-3) M) (hF : ((2 ≤ n ∧ n ≤ 8) ∧ (0 ≤ s ∧ s ≤ 3)) → 0 < gNi S → ¬ gIt S (gNi S - 1) 2 = 0 → (7 ≤ ivP S n ∧ ivP S n ≤ 55) → gIt S (gNi S - 1) 9 = 4 → Q (-4) M) (hQ : ((2 ≤ n ∧ n ≤ 8) ∧ (0 ≤ s ∧ s ≤ 3)) → 0 < gNi S → ¬ gIt S (gNi S - 1) 2 = 0 → (7 ≤ ivP S n ∧ ivP S n ≤ 55) → gIt S (gNi S - 1) 9 < 4 → ∀ M' : Mem, RS M' (sIv S (n + 16 * s)) c row → fl M M' → Q (zI (gIt S (gNi S - 1) 9 + 1)) M') : w_X7_interval (zI n) (zI s) M Q := by
  have hM := h.2.2.2.2.1
  have hv := h.2.2.2.2.2.2
  have hni := hv.2.2.2.1
  have hhd := hv.2.1
  have c2 : zI n < 2 ↔ n < 2 := by rw [lz2, zI_lt (by omega) (by omega) (by omega) (by omega)]
  have c8 : 8 < zI n ↔ 8 < n := by rw [lz8, zI_lt (by omega) (by omega) (by omega) (by omega)]
  have c0 : zI s < 0 ↔ s < 0 := by rw [lz0, zI_lt (by omega) (by omega) (by omega) (by omega)]
  have c3 : zI s ≤ 3 ↔ s ≤ 3 := by rw [lz3, zI_le (by omega) (by omega) (by omega) (by omega)]
  unfold w_X7_interval
  simp only [c2, c8, c0, c3]
  refine ⟨fun q => hR (by omega), fun q1 => ⟨fun q => hR (by omega), fun q2 => ⟨fun q => hR (by omega), fun q3 => ⟨fun q4 => ⟨vi0, fun x2 e2 => ?_⟩, fun q => hR (by omega)⟩⟩⟩⟩
  have ok : (2 ≤ n ∧ n ≤ 8) ∧ (0 ≤ s ∧ s ≤ 3) := by omega
  rw [tc0, hM.2.1, lz1, zI_sub] at e2
  by_cases g : gNi S = 0
  · have cx : (x2 < 0) = True := by rw [e2, g]; simp; decide
    have hz0 : (zI (((0 : Nat) : Int) - 1)) < 0 := by decide
    subst e2
    rw [g]
    refine ⟨⟨fun _ => trivial, fun q => absurd hz0 q⟩, fun z hz => ?_⟩
    rw [if_pos hz0] at hz
    subst hz
    exact ⟨fun _ => hS ok (Or.inl g), fun q => absurd (by decide) q⟩
  · have e2' : x2 = zI ((gNi S - 1 : Nat) : Int) := by rw [e2]; congr 1; omega
    subst e2'
    have e60 : M 60 (gNi S - 1) = zI (rp (gIt S (gNi S - 1) 2)) := RM0_at hM (i := gNi S - 1) (a := 2) (by omega) (by omega)
    have e67 : M 67 (gNi S - 1) = zI (gIt S (gNi S - 1) 9) := RM0_at hM (i := gNi S - 1) (a := 9) (by omega) (by omega)
    have hw := hv.2.2.2.2.2.1 (gNi S - 1) (by omega)
    have hp := hw.2.2.1
    have hm4 := hw.2.2.2.2.2.2.2.2.2.1
    have nx : ¬ (zI ((gNi S - 1 : Nat) : Int) < 0) := by rw [lz0, zI_lt (by omega) (by omega) (by omega) (by omega)]; omega
    have hh : M 55 0 = zI (gHd S) := hM.2.2.1
    have c55 : zI (gHd S) = 2 ↔ gHd S = 2 := by rw [lz2, zI_eq (by omega) (by omega) (by omega) (by omega)]
    have vin2 : vp_in (zI ((gNi S - 1 : Nat) : Int)) 1200 := by rw [zI_in (by omega) (by omega)]; omega
    have htn : (zI ((gNi S - 1 : Nat) : Int)).toNatClampNeg = gNi S - 1 := by rw [zI_tn (by omega) (by omega), tn_nat]
    rw [htn, e60, tc0, hh, e67]
    refine ⟨⟨fun q => absurd q nx, fun _ => ⟨vin2, fun _ => ⟨vi0, fun _ => ⟨vin2, trivial⟩, fun _ => ⟨vin2, trivial⟩⟩, fun _ => trivial⟩⟩, fun z hz => ?_⟩
    rw [if_neg nx] at hz
    by_cases g2 : gIt S (gNi S - 1) 2 = 0
    · have er : rp (gIt S (gNi S - 1) 2) = -1 := if_pos g2
      rw [er, if_neg (by decide)] at hz
      subst hz
      exact ⟨fun _ => hS ok (Or.inr (Or.inl g2)), fun q => absurd (by decide) q⟩
    · have er : rp (gIt S (gNi S - 1) 2) = gIt S (gNi S - 1) 2 := if_neg g2
      have pos : (0 : Int32) ≤ zI (gIt S (gNi S - 1) 2) := by rw [lz0, zI_le (by omega) (by omega) (by omega) (by omega)]; omega
      rw [er, if_pos pos] at hz
      simp only [c55] at hz
      have ez : z = zI (ivP S n) := by
        rw [hz]
        unfold ivP
        by_cases gh : gHd S = 2
        · rw [if_pos gh, if_pos gh, zI_add, lz1, zI_sub]
        · rw [if_neg gh, if_neg gh, zI_sub, lz1, zI_add]
      have hpb : -1000 ≤ ivP S n ∧ ivP S n ≤ 1000 := by
        unfold ivP
        by_cases gh : gHd S = 2
        · rw [if_pos gh]; omega
        · rw [if_neg gh]; omega
      subst ez
      have c7 : zI (ivP S n) < 7 ↔ ivP S n < 7 := by rw [lz7, zI_lt (by omega) (by omega) (by omega) (by omega)]
      have c55' : zI (ivP S n) ≤ 55 ↔ ivP S n ≤ 55 := by rw [lz55, zI_le (by omega) (by omega) (by omega) (by omega)]
      have c4 : zI (gIt S (gNi S - 1) 9) = 4 ↔ gIt S (gNi S - 1) 9 = 4 := by rw [lz4, zI_eq (by omega) (by omega) (by omega) (by omega)]
      simp only [c7, c55', c4]
      refine ⟨fun q => hS ok (Or.inr (Or.inr (by omega))), fun q5 => ⟨fun q6 => ⟨vin2, fun q7 => ⟨vin2, ?_⟩, fun q7 => hF ok (by omega) g2 (by omega) q7⟩, fun q => hS ok (Or.inr (Or.inr (by omega)))⟩⟩
      rw [lz4, zI_mul, zI_add, zI_in (by omega) (by omega), zI_tn (by omega) (by omega), show (4 * ((gNi S - 1 : Nat) : Int) + gIt S (gNi S - 1) 9).toNat = 4 * (gNi S - 1) + (gIt S (gNi S - 1) 9).toNat by omega, lz16, zI_mul, zI_add]
      refine ⟨by omega, fun M11 e11 => ⟨vin2, vin2, fun M14 e14 => ⟨vin2, ?_⟩⟩⟩
      have r11 : M11 67 (gNi S - 1) = zI (gIt S (gNi S - 1) 9) := by rw [e11, mset_o (by omega)]; exact e67
      rw [r11, lz1, zI_add] at e14
      have r14 : M14 67 (gNi S - 1) = zI (gIt S (gNi S - 1) 9 + 1) := by rw [e14, mset_at]
      rw [r14]
      have far : ∀ k : Nat, k ≠ 67 → k ≠ 68 → M14 k = M k := fun k x1 x2 => by rw [e14, mset_o x1, e11, mset_o x2]
      have hR2 : RM M14 0 (sIv S (n + 16 * s)) := by
        refine ⟨by rw [far 53 (by omega) (by omega)]; exact hM.1, by rw [far 54 (by omega) (by omega)]; exact hM.2.1, by rw [far 55 (by omega) (by omega)]; exact hM.2.2.1, fun b hb => by rw [far 57 (by omega) (by omega), far 56 (by omega) (by omega)]; exact hM.2.2.2.1 b hb, fun i2 a2 hi2 ha2 => ?_, fun i2 k hi2 hk => ?_⟩
        · have q := RM0_at hM hi2 ha2
          rw [Nat.mul_zero, Nat.zero_add]
          show _ = zI (if a2 = 2 then rp (if i2 = gNi S - 1 ∧ 2 = 9 then gIt S (gNi S - 1) 9 + 1 else if i2 = gNi S - 1 ∧ 2 = 10 + (gIt S (gNi S - 1) 9).toNat then n + 16 * s else gIt S i2 2) else (if i2 = gNi S - 1 ∧ a2 = 9 then gIt S (gNi S - 1) 9 + 1 else if i2 = gNi S - 1 ∧ a2 = 10 + (gIt S (gNi S - 1) 9).toNat then n + 16 * s else gIt S i2 a2))
          unfold rat at q
          by_cases g9 : a2 = 9
          · subst g9
            rw [if_neg (by omega)] at q ⊢
            show M14 67 i2 = _
            by_cases gi : i2 = gNi S - 1
            · rw [if_pos ⟨gi, rfl⟩, gi]; exact r14
            · rw [if_neg (fun z => gi z.1), if_neg (fun z => gi z.1), e14, mset_j gi, e11, mset_o (by omega)]; exact q
          · rw [far _ (by omega) (by omega)]
            by_cases g3 : a2 = 2
            · rw [if_pos g3] at q ⊢
              rw [if_neg (by omega), if_neg (by omega)]; exact q
            · rw [if_neg g3] at q ⊢
              rw [if_neg (fun z => g9 z.2), if_neg (by omega)]; exact q
        · have hk2 : (k : Int) < (if i2 = gNi S - 1 ∧ 9 = 9 then gIt S (gNi S - 1) 9 + 1 else if i2 = gNi S - 1 ∧ 9 = 10 + (gIt S (gNi S - 1) 9).toNat then n + 16 * s else gIt S i2 9) := hk
          have hi3 : i2 < gNi S := hi2
          have hw2 := (hv.2.2.2.2.2.1 i2 hi3).2.2.2.2.2.2.2.2.2.1
          show M14 68 (4 * (600 * 0 + i2) + k) = zI (if i2 = gNi S - 1 ∧ 10 + k = 9 then gIt S (gNi S - 1) 9 + 1 else if i2 = gNi S - 1 ∧ 10 + k = 10 + (gIt S (gNi S - 1) 9).toNat then n + 16 * s else gIt S i2 (10 + k))
          rw [if_neg (by omega), e14, mset_o (by omega), e11, show 4 * (600 * 0 + i2) + k = 4 * i2 + k by omega]
          have old : (k : Int) < gIt S i2 9 → M 68 (4 * i2 + k) = zI (gIt S i2 (10 + k)) := fun kk => by
            have := hM.2.2.2.2.2 i2 k hi3 kk
            rw [show 4 * (600 * 0 + i2) + k = 4 * i2 + k by omega] at this
            exact this
          by_cases gi : i2 = gNi S - 1
          · rw [if_pos ⟨gi, rfl⟩] at hk2
            by_cases gk : k = (gIt S (gNi S - 1) 9).toNat
            · rw [if_pos ⟨gi, by omega⟩, gk, gi, mset_at]
            · rw [if_neg (by omega), mset_j (by omega)]
              exact old (by rw [gi]; omega)
          · rw [if_neg (fun z => gi z.1), if_neg (fun z => gi z.1)] at hk2
            rw [if_neg (fun z => gi z.1), mset_j (by omega)]
            exact old hk2
      obtain ⟨k1, k2⟩ := RS_mus h (fun k hk => far k (by omega) (by omega)) hR2 rfl (MV_iv hv (by omega) (by omega) ok.1 ok.2)
      exact hQ ok (by omega) g2 (by omega) (by omega) M14 k1 k2
theorem x_told (p : Int32) (h : RS M S c row) (hR : (∀ w : Nat, w < 6 → ¬ p = zI w) → Q (-2) M) (hQ : ∀ w : Nat, w < 6 → p = zI w → Q (zI (toldI S c w)) M) : w_X7_told p M Q := by
  obtain ⟨a, rfl, a1, a2⟩ := zI_ex p
  have hM := h.2.2.2.2.1
  have hv := h.2.2.2.2.2.2
  have hnb := hv.2.2.1
  have ce : ∀ t : Int, 0 ≤ t → t ≤ 10 → (zI a = zI t ↔ a = t) := fun t _ _ => zI_eq (by omega) (by omega) (by omega) (by omega)
  have hQ' : ∀ w : Nat, w < 6 → a = w → Q (zI (toldI S c w)) M := fun w hw e => hQ w hw (by rw [e])
  have fin : ∀ (t : Int) (x2 : Int32), 0 ≤ a → a ≤ 5 → t = (if lastS S < 0 then 0 else slotL S (lastS S).toNat) → w_X7_told_53 Q (zI a) x2 (zI t) M := by
    intro t x2 g1 g2 ht
    unfold w_X7_told_53
    have e0 : zI a = 0 ↔ a = 0 := by rw [lz0]; exact ce 0 (by omega) (by omega)
    have e1 : zI a = 1 ↔ a = 1 := by rw [lz1]; exact ce 1 (by omega) (by omega)
    have e2 : zI a = 2 ↔ a = 2 := by rw [lz2]; exact ce 2 (by omega) (by omega)
    have e3 : zI a = 3 ↔ a = 3 := by rw [lz3]; exact ce 3 (by omega) (by omega)
    have e4 : zI a = 4 ↔ a = 4 := by rw [lz4]; exact ce 4 (by omega) (by omega)
    rw [tc0, hM.1, hM.2.1, h.2.2.1, h.1, hM.2.2.1]
    simp only [e0, e1, e2, e3, e4]
    refine ⟨⟨fun _ => ⟨fun _ => ⟨fun _ => ⟨fun _ => ⟨fun _ => trivial, fun _ => ⟨vi0, trivial⟩⟩, fun _ => trivial⟩, fun _ => trivial⟩, fun _ => ⟨vi0, trivial⟩⟩, fun _ => ⟨vi0, trivial⟩⟩, fun z hz => ?_⟩
    by_cases k0 : a = 0
    · rw [if_pos k0] at hz; subst hz; exact hQ' 0 (by omega) k0
    · rw [if_neg k0] at hz
      by_cases k1 : a = 1
      · rw [if_pos k1] at hz; subst hz; exact hQ' 1 (by omega) k1
      · rw [if_neg k1] at hz
        by_cases k2 : a = 2
        · rw [if_pos k2] at hz; subst hz; exact hQ' 2 (by omega) k2
        · rw [if_neg k2] at hz
          by_cases k3 : a = 3
          · rw [if_pos k3] at hz; subst hz; exact hQ' 3 (by omega) k3
          · rw [if_neg k3] at hz
            by_cases k4 : a = 4
            · rw [if_pos k4] at hz; subst hz; exact hQ' 4 (by omega) k4
            · rw [if_neg k4] at hz
              subst hz
              have := hQ' 5 (by omega) (by omega)
              have e : toldI S c 5 = t := ht.symm
              rw [e] at this
              exact this
  unfold w_X7_told
  have c0 : zI a < 0 ↔ a < 0 := by rw [lz0, zI_lt (by omega) (by omega) (by omega) (by omega)]
  have c5 : zI a ≤ 5 ↔ a ≤ 5 := by rw [lz5, zI_le (by omega) (by omega) (by omega) (by omega)]
  simp only [c0, c5]
  have no : (a < 0 ∨ 5 < a) → Q (-2) M := fun g => hR (fun w hw e => by rw [zI_eq (by omega) (by omega) (by omega) (by omega)] at e; omega)
  refine ⟨fun q => no (Or.inl q), fun q1 => ⟨fun q2 => ⟨vi0, fun x2 e2 => ?_⟩, fun q2 => no (Or.inr (by omega))⟩⟩
  rw [tc0, hM.1, lz1, zI_sub] at e2
  have none : lastS S < 0 → w_X7_told_35 Q (zI a) x2 M := fun k => by
    unfold w_X7_told_35
    rw [lz0]
    exact fin 0 x2 (by omega) q2 (by rw [if_pos k])
  by_cases g : gNb S = 0
  · have hn : lastS S < 0 := by unfold lastS; rw [if_pos (Or.inl g)]; omega
    refine ⟨fun _ => none hn, fun q => ?_⟩
    rw [e2, lz0, zI_lt (by omega) (by omega) (by omega) (by omega)] at q
    omega
  · have e2' : x2 = zI ((gNb S - 1 : Nat) : Int) := by rw [e2]; congr 1; omega
    subst e2'
    obtain ⟨b1, b2⟩ := hM.2.2.2.1 (gNb S - 1) (by omega)
    rw [Nat.mul_zero, Nat.zero_add] at b1 b2
    have hb3 := hv.2.2.2.2.1 (gNb S - 1) (by omega)
    refine ⟨fun q => by rw [lz0, zI_lt (by omega) (by omega) (by omega) (by omega)] at q; omega, fun _ => ?_⟩
    rw [zI_in (by omega) (by omega), zI_tn (by omega) (by omega), tn_nat, b1, b2]
    by_cases g2 : gVo S (gNb S - 1) = 0
    · have hn : lastS S < 0 := by unfold lastS; rw [if_pos (Or.inr g2)]; omega
      rw [if_pos g2]
      exact ⟨by omega, fun q => absurd (by decide +kernel) q, fun _ => none hn⟩
    · rw [if_neg g2]
      refine ⟨by omega, fun _ => ⟨by omega, ?_⟩, fun q => absurd q (by decide +kernel)⟩
      have hls : ¬ lastS S < 0 := by unfold lastS; rw [if_neg (by omega)]; omega
      obtain ⟨l1, l2, l3⟩ := lastS_sp hls
      have l4 : (lastS S).toNat = 3 * (gNb S - 1) + (gVo S (gNb S - 1) - 1) := by rw [l3]; rfl
      have hs := sel_sum hv l1 l2 (lastG S)
      rw [lz1, zI_sub, lz0, show (gVo S (gNb S - 1) : Int) - 1 = ((gVo S (gNb S - 1) - 1 : Nat) : Int) by omega]
      refine x_voiceLasts (o := 0) (by omega) hM h.2.2.1 hv (by omega) (by omega) ?_
      rw [hs]
      exact fin _ _ (by omega) q2 (by rw [if_neg hls, l4]; rfl)
theorem x_loose (h : RS M S c row) (hQ : Q (zI (sumF (looseF S) 0 (gNi S))) M) : w_X7_loose M Q := by
  have hM := h.2.2.2.2.1
  have hv := h.2.2.2.2.2.2
  have hni := hv.2.2.2.1
  refine ⟨gNi S + 1, ?_⟩
  have key : ∀ (k i : Nat), i ≤ gNi S → gNi S - i < k → w_X7_loose_4 Q k (zI (sumF (looseF S) 0 i)) (zI i) M := by
    intro k
    induction k with
    | zero => intro i g1 g2; omega
    | succ k ih =>
      intro i hi hk
      show wb_X7_loose_4 Q (w_X7_loose_4 Q k) _ _ M
      unfold wb_X7_loose_4
      have ci : zI ((i : Int) + 1) = zI (gNi S : Int) ↔ i + 1 = gNi S := by rw [zI_eq (by omega) (by omega) (by omega) (by omega)]; omega
      rw [tc0, hM.2.1, lz1, zI_add]
      simp only [ci]
      rw [zI_le (by omega) (by omega) (by omega) (by omega)]
      refine ⟨vi0, fun q => ?_, fun q => ?_⟩
      · have : i = gNi S := by omega
        subst this
        exact hQ
      · have hi2 : i < gNi S := by omega
        have e65 : M 65 i = zI (gIt S i 7) := RM0_at hM hi2 (a := 7) (by omega)
        have e60 : M 60 i = zI (rp (gIt S i 2)) := RM0_at hM hi2 (a := 2) (by omega)
        have w7 := (hv.2.2.2.2.2.1 i hi2).2.2.2.2.2.2.2.1
        have w2 := (hv.2.2.2.2.2.1 i hi2).2.2.1
        have c7 : zI (gIt S i 7) = zI 1 ↔ gIt S i 7 = 1 := zI_eq (by omega) (by omega) (by omega) (by omega)
        rw [zI_in (by omega) (by omega), zI_in (by omega) (by omega), zI_tn (by omega) (by omega), zI_tn (by omega) (by omega), tn_nat, show ((i : Int) + 1).toNat = i + 1 by omega, e65, e60]
        simp only [c7]
        refine ⟨by omega, ⟨fun _ => trivial, fun _ => ⟨vi0, fun _ => trivial, fun _ => ⟨by omega, by omega, fun _ => trivial, fun _ => trivial⟩⟩⟩, fun z hz x7 e7 x8 e8 => ?_⟩
        have ez : z = zI (looseF S i) := by
          unfold looseF
          by_cases g7 : gIt S i 7 = 1
          · rw [if_pos g7] at hz
            by_cases gl : i + 1 = gNi S
            · rw [if_pos gl] at hz
              rw [if_pos ⟨g7, fun k => by omega⟩]; exact hz
            · rw [if_neg gl] at hz
              have e60' : M 60 (i + 1) = zI (rp (gIt S (i + 1) 2)) := RM0_at hM (i := i + 1) (a := 2) (by omega) (by omega)
              have w2' := (hv.2.2.2.2.2.1 (i + 1) (by omega)).2.2.1
              have cp : zI (rp (gIt S (i + 1) 2)) = zI (rp (gIt S i 2)) ↔ gIt S (i + 1) 2 = gIt S i 2 := by
                by_cases q1 : gIt S (i + 1) 2 = 0
                · have r1 : rp (gIt S (i + 1) 2) = -1 := if_pos q1
                  by_cases q2 : gIt S i 2 = 0
                  · have r2 : rp (gIt S i 2) = -1 := if_pos q2
                    rw [r1, r2, q1, q2]; exact ⟨fun _ => rfl, fun _ => rfl⟩
                  · have r2 : rp (gIt S i 2) = gIt S i 2 := if_neg q2
                    rw [r1, r2, zI_eq (by omega) (by omega) (by omega) (by omega)]
                    omega
                · have r1 : rp (gIt S (i + 1) 2) = gIt S (i + 1) 2 := if_neg q1
                  by_cases q2 : gIt S i 2 = 0
                  · have r2 : rp (gIt S i 2) = -1 := if_pos q2
                    rw [r1, r2, zI_eq (by omega) (by omega) (by omega) (by omega)]
                    omega
                  · have r2 : rp (gIt S i 2) = gIt S i 2 := if_neg q2
                    rw [r1, r2, zI_eq (by omega) (by omega) (by omega) (by omega)]
              rw [e60'] at hz
              simp only [cp] at hz
              by_cases gm : gIt S (i + 1) 2 = gIt S i 2
              · rw [if_pos gm] at hz
                rw [if_neg (fun k => k.2 ⟨by omega, gm⟩)]; exact hz.trans lz0
              · rw [if_neg gm] at hz
                rw [if_pos ⟨g7, fun k => gm k.2⟩]; exact hz
          · rw [if_neg g7] at hz
            rw [if_neg (fun k => g7 k.1)]; exact hz.trans lz0
        have e7' : x7 = zI (sumF (looseF S) 0 (i + 1)) := by
          rw [e7, ez, zI_add]
          show _ = zI (sumF (looseF S) 0 i + looseF S (0 + i))
          rw [Nat.zero_add]
        have e8' : x8 = zI ((i + 1 : Nat) : Int) := by rw [e8]; congr 1
        subst e7' e8'
        exact ih (i + 1) (by omega) (by omega)
  exact key _ 0 (by omega) (by omega)
end Ref5
