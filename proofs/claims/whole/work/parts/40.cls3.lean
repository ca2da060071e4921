section Cls3
variable {M : Mem} {S : Mus} {c r m : Nat} {row : Nat → Int} {Q : Int32 → Mem → Prop}
theorem e_isSign {a : Int} (hT : TB M) (ha : -2147483648 ≤ a ∧ a < 2147483648) (h1 : 0 ≤ a → a ≤ 3 → Q 1 M) (h0 : ¬ (0 ≤ a ∧ a ≤ 3) → Q 0 M) : w_X6_isSign (zI a) M Q := by
  unfold w_X6_isSign
  rw [hT.1.2.2.2.2.1, zI_tn (by omega) (by omega), zI_nI]
  have c0 : zI a < 0 ↔ a < 0 := by rw [lz0, zI_lt (by omega) (by omega) (by omega) (by omega)]
  have c3 : zI ((Int.toNat 3 : Nat) : Int) < zI a ↔ 3 < a := by rw [zI_lt (by omega) (by omega) (by omega) (by omega)]; omega
  simp only [c0, c3]
  intro z hz
  by_cases g : a < 0
  · rw [if_pos g] at hz; subst hz; exact ⟨Or.inl rfl, h0 (by omega)⟩
  · rw [if_neg g] at hz
    by_cases g2 : 3 < a
    · rw [if_pos g2] at hz; subst hz; exact ⟨Or.inl rfl, h0 (by omega)⟩
    · rw [if_neg g2] at hz; subst hz; exact ⟨Or.inr rfl, h1 (by omega) (by omega)⟩
theorem e_isKind {a : Int} (hT : TB M) (ha : -2147483648 ≤ a ∧ a < 2147483648) (h1 : 0 ≤ a → a ≤ 3 → Q 1 M) (h0 : ¬ (0 ≤ a ∧ a ≤ 3) → Q 0 M) : w_X6_isKind (zI a) M Q := by
  unfold w_X6_isKind
  rw [hT.1.2.1, zI_tn (by omega) (by omega), zI_nI]
  have c0 : zI a < 0 ↔ a < 0 := by rw [lz0, zI_lt (by omega) (by omega) (by omega) (by omega)]
  have c3 : zI ((Int.toNat 4 : Nat) : Int) ≤ zI a ↔ 4 ≤ a := by rw [zI_le (by omega) (by omega) (by omega) (by omega)]; omega
  simp only [c0, c3]
  intro z hz
  by_cases g : a < 0
  · rw [if_pos g] at hz; subst hz; exact ⟨Or.inl rfl, h0 (by omega)⟩
  · rw [if_neg g] at hz
    by_cases g2 : 4 ≤ a
    · rw [if_pos g2] at hz; subst hz; exact ⟨Or.inl rfl, h0 (by omega)⟩
    · rw [if_neg g2] at hz; subst hz; exact ⟨Or.inr rfl, h1 (by omega) (by omega)⟩
theorem e_isDots {a : Int} (ha : -2147483648 ≤ a ∧ a < 2147483648) (h1 : 0 ≤ a → a ≤ 2 → Q 1 M) (h0 : ¬ (0 ≤ a ∧ a ≤ 2) → Q 0 M) : w_X6_isDots (zI a) M Q := by
  unfold w_X6_isDots
  have c0 : zI a < 0 ↔ a < 0 := by rw [lz0, zI_lt (by omega) (by omega) (by omega) (by omega)]
  have c3 : 2 < zI a ↔ 2 < a := by rw [lz2, zI_lt (by omega) (by omega) (by omega) (by omega)]
  simp only [c0, c3]
  intro z hz
  by_cases g : a < 0
  · rw [if_pos g] at hz; subst hz; exact ⟨Or.inl rfl, h0 (by omega)⟩
  · rw [if_neg g] at hz
    by_cases g2 : 2 < a
    · rw [if_pos g2] at hz; subst hz; exact ⟨Or.inl rfl, h0 (by omega)⟩
    · rw [if_neg g2] at hz; subst hz; exact ⟨Or.inr rfl, h1 (by omega) (by omega)⟩
theorem e_isPitch2 {a : Int} (ha : -2147483648 ≤ a ∧ a < 2147483648) (h1 : 7 ≤ a → a ≤ 55 → Q 1 M) (h0 : ¬ (7 ≤ a ∧ a ≤ 55) → Q 0 M) : w_X6_isPitch (zI a) M Q := by
  unfold w_X6_isPitch
  have c0 : zI a < 7 ↔ a < 7 := by rw [lz7, zI_lt (by omega) (by omega) (by omega) (by omega)]
  have c3 : 55 < zI a ↔ 55 < a := by rw [lz55, zI_lt (by omega) (by omega) (by omega) (by omega)]
  simp only [c0, c3]
  intro z hz
  by_cases g : a < 7
  · rw [if_pos g] at hz; subst hz; exact ⟨Or.inl rfl, h0 (by omega)⟩
  · rw [if_neg g] at hz
    by_cases g2 : 55 < a
    · rw [if_pos g2] at hz; subst hz; exact ⟨Or.inl rfl, h0 (by omega)⟩
    · rw [if_neg g2] at hz; subst hz; exact ⟨Or.inr rfl, h1 (by omega) (by omega)⟩
def okNote (a2 a3 a4 a5 a6 : Int) : Prop := (7 ≤ a2 ∧ a2 ≤ 55) ∧ (0 ≤ a3 ∧ a3 ≤ 3) ∧ (0 ≤ a4 ∧ a4 ≤ 3) ∧ (a5 = 0 ∨ a5 = 1) ∧ (0 ≤ a6 ∧ a6 ≤ 2)
def okRest (a4 a5 a6 : Int) : Prop := (0 ≤ a4 ∧ a4 ≤ 3) ∧ (0 ≤ a5 ∧ a5 ≤ 2) ∧ (0 ≤ a6 ∧ a6 ≤ 2) ∧ (a5 = 2 → a4 = 0 ∧ a6 = 0)
theorem c_note {a2 a3 a4 a5 a6 : Int} (h : CS M S c row r m) (b2 : -2147483648 ≤ a2 ∧ a2 < 2147483648) (b3 : -2147483648 ≤ a3 ∧ a3 < 2147483648) (b4 : -2147483648 ≤ a4 ∧ a4 < 2147483648) (b5 : -2147483648 ≤ a5 ∧ a5 < 2147483648) (b6 : -2147483648 ≤ a6 ∧ a6 < 2147483648) (hR : ¬ okNote a2 a3 a4 a5 a6 → Q (-2) M) (hQ : okNote a2 a3 a4 a5 a6 → w_X6_addTimed m (zI a2) (zI a3) (zI a4) (zI a5) (zI a6) M Q) : w_X6_note m (zI a2) (zI a3) (zI a4) (zI a5) (zI a6) M Q := by
  have hT := h.2.2.2.2.2.2.1
  unfold w_X6_note
  refine e_isPitch2 b2 (fun g1 g2 => ⟨fun q => absurd q (by decide), fun _ => ?_⟩) (fun g => ⟨fun _ => hR (fun k => g k.1), fun q => absurd rfl q⟩)
  refine e_isSign hT b3 (fun g3 g4 => ⟨fun q => absurd q (by decide), fun _ => ?_⟩) (fun g => ⟨fun _ => hR (fun k => g k.2.1), fun q => absurd rfl q⟩)
  refine e_isKind hT b4 (fun g5 g6 => ⟨fun q => absurd q (by decide), fun _ => ?_⟩) (fun g => ⟨fun _ => hR (fun k => g k.2.2.1), fun q => absurd rfl q⟩)
  refine e_isDots b6 (fun g7 g8 => ⟨fun _ => ⟨fun q => ?_, fun q => ⟨fun q2 => ?_, fun q2 => ?_⟩⟩, fun q => absurd q (by decide)⟩) (fun g => ⟨fun q => absurd rfl q, fun _ => hR (fun k => g k.2.2.2.2)⟩)
  · rw [lz0, zI_eq (by omega) (by omega) (by omega) (by omega)] at q
    exact hQ ⟨⟨g1, g2⟩, ⟨g3, g4⟩, ⟨g5, g6⟩, Or.inl q, ⟨g7, g8⟩⟩
  · rw [lz1, zI_eq (by omega) (by omega) (by omega) (by omega)] at q2
    exact hQ ⟨⟨g1, g2⟩, ⟨g3, g4⟩, ⟨g5, g6⟩, Or.inr q2, ⟨g7, g8⟩⟩
  · rw [lz0, zI_eq (by omega) (by omega) (by omega) (by omega)] at q
    rw [lz1, zI_eq (by omega) (by omega) (by omega) (by omega)] at q2
    refine hR (fun k => ?_)
    have := k.2.2.2.1
    omega
theorem c_rest {a4 a5 a6 : Int} (h : CS M S c row r m) (b4 : -2147483648 ≤ a4 ∧ a4 < 2147483648) (b5 : -2147483648 ≤ a5 ∧ a5 < 2147483648) (b6 : -2147483648 ≤ a6 ∧ a6 < 2147483648) (hR : ¬ okRest a4 a5 a6 → Q (-2) M) (hQ : okRest a4 a5 a6 → w_X6_addTimed m (zI 0) (zI 0) (zI a4) (zI a5) (zI a6) M Q) : w_X6_rest m (zI a4) (zI a5) (zI a6) M Q := by
  have hT := h.2.2.2.2.2.2.1
  rw [← lz0] at hQ
  unfold w_X6_rest
  have c0 : zI a5 < 0 ↔ a5 < 0 := by rw [lz0, zI_lt (by omega) (by omega) (by omega) (by omega)]
  have c3 : 2 < zI a5 ↔ 2 < a5 := by rw [lz2, zI_lt (by omega) (by omega) (by omega) (by omega)]
  have c2 : zI a5 = 2 ↔ a5 = 2 := by rw [lz2, zI_eq (by omega) (by omega) (by omega) (by omega)]
  have c4 : zI a4 = 0 ↔ a4 = 0 := by rw [lz0, zI_eq (by omega) (by omega) (by omega) (by omega)]
  have c6 : zI a6 = 0 ↔ a6 = 0 := by rw [lz0, zI_eq (by omega) (by omega) (by omega) (by omega)]
  simp only [c0, c2, c3, c4, c6]
  refine e_isKind hT b4 (fun g5 g6 => ⟨fun q => absurd q (by decide), fun _ => ⟨fun q => hR (fun k => ?_), fun q1 => ⟨fun q => hR (fun k => ?_), fun q2 => ?_⟩⟩⟩) (fun g => ⟨fun _ => hR (fun k => g k.1), fun q => absurd rfl q⟩)
  · have := k.2.1; omega
  · have := k.2.1; omega
  · refine e_isDots b6 (fun g7 g8 => ⟨fun _ => ⟨fun q => ?_, fun q => ⟨fun q3 => hR (fun k => q3 (k.2.2.2 q).1), fun q3 => ⟨fun q4 => ?_, fun q4 => hR (fun k => q4 (k.2.2.2 q).2)⟩⟩⟩, fun q => absurd q (by decide)⟩) (fun g => ⟨fun q => absurd rfl q, fun _ => hR (fun k => g k.2.2.1)⟩)
    · exact hQ ⟨⟨g5, g6⟩, ⟨by omega, by omega⟩, ⟨g7, g8⟩, fun k => absurd k q⟩
    · exact hQ ⟨⟨g5, g6⟩, ⟨by omega, by omega⟩, ⟨g7, g8⟩, fun _ => ⟨q3, q4⟩⟩
/-- the INTERVAL's PITCH -/
def ivP (S : Mus) (n : Int) : Int := if gHd S = 2 then gIt S (gNi S - 1) 2 + n - 1 else gIt S (gNi S - 1) 2 - n + 1
theorem c_interval {n s : Int} (h : CS M S c row r m) (b1 : -2147483648 ≤ n ∧ n < 2147483648) (b2 : -2147483648 ≤ s ∧ s < 2147483648) (hR : ¬ ((2 ≤ n ∧ n ≤ 8) ∧ (0 ≤ s ∧ s ≤ 3)) → Q (-2) M) (hS : ((2 ≤ n ∧ n ≤ 8) ∧ (0 ≤ s ∧ s ≤ 3)) → (gNi S = 0 ∨ gIt S (gNi S - 1) 2 = 0 ∨ ¬ (7 ≤ ivP S n ∧ ivP S n ≤ 55)) → Q (-3) M) (hF : ((2 ≤ n ∧ n ≤ 8) ∧ (0 ≤ s ∧ s ≤ 3)) → 0 < gNi S → ¬ gIt S (gNi S - 1) 2 = 0 → (7 ≤ ivP S n ∧ ivP S n ≤ 55) → gIt S (gNi S - 1) 9 = 4 → Q (-4) M) (hQ : ((2 ≤ n ∧ n ≤ 8) ∧ (0 ≤ s ∧ s ≤ 3)) → 0 < gNi S → ¬ gIt S (gNi S - 1) 2 = 0 → (7 ≤ ivP S n ∧ ivP S n ≤ 55) → gIt S (gNi S - 1) 9 < 4 → ∀ M' : Mem, CS M' (sIv S (n + 16 * s)) c row r m → fz M M' → Q (zI (gIt S (gNi S - 1) 9 + 1)) M') : w_X6_interval m (zI n) (zI s) M Q := by
  have hW := h.2.2.2.2.2.2.2.2.2.2.1
  have hv := h.2.2.2.2.2.2.2.2.2.2.2
  have hT := h.2.2.2.2.2.2.1
  have h5 := h.2.2.2.2.1
  have hni := hv.2.2.2.1
  have hhd := hv.2.1
  unfold w_X6_interval
  have c2 : zI n < 2 ↔ n < 2 := by rw [lz2, zI_lt (by omega) (by omega) (by omega) (by omega)]
  have c8 : 8 < zI n ↔ 8 < n := by rw [lz8, zI_lt (by omega) (by omega) (by omega) (by omega)]
  simp only [c2, c8]
  refine ⟨fun q => hR (by omega), fun q1 => ⟨fun q => hR (by omega), fun q2 => ?_⟩⟩
  refine e_isSign hT b2 (fun g1 g2 => ⟨fun _ => ⟨h5, fun x4 e4 => ?_⟩, fun q => absurd q (by decide)⟩) (fun g => ⟨fun q => absurd rfl q, fun _ => hR (fun k => g k.2)⟩)
  have ok : (2 ≤ n ∧ n ≤ 8) ∧ (0 ≤ s ∧ s ≤ 3) := by omega
  rw [hW.2.2.2.1, lz1, zI_sub] at e4
  by_cases g : gNi S = 0
  · subst e4
    refine ⟨fun _ => hS ok (Or.inl g), fun q => ?_⟩
    rw [lz0, zI_lt (by omega) (by omega) (by omega) (by omega)] at q
    omega
  · have hx2 : x4 = zI ((gNi S - 1 : Nat) : Int) := by rw [e4]; congr 1; omega
    subst hx2
    have hw := hv.2.2.2.2.2.1 (gNi S - 1) (by omega)
    refine ⟨fun q => by rw [lz0, zI_lt (by omega) (by omega) (by omega) (by omega)] at q; omega, fun _ => ⟨h5, ?_⟩⟩
    refine e_isNote hW hv (by omega) (fun g3 => ⟨fun q => absurd q (by decide), fun _ => ⟨h5, h5, ?_⟩⟩) (fun g3 => ⟨fun _ => hS ok (Or.inr (Or.inl g3)), fun q => absurd rfl q⟩)
    rw [hW.2.1]
    refine e_intervalPitch hW hv (by omega) (by omega) hhd ?_
    have hpb : -1000 ≤ ivP S n ∧ ivP S n ≤ 1000 := by
      have := hw.2.2.1
      unfold ivP
      by_cases gh : gHd S = 2
      · rw [if_pos gh]; omega
      · rw [if_neg gh]; omega
    show w_X6_isPitch (zI (ivP S n)) M _
    have e9 := MW_at hW (i := gNi S - 1) (a := 9) (by omega) (by omega)
    have hm4 := hw.2.2.2.2.2.2.2.2.2.1
    refine e_isPitch2 (by omega) (fun g4 g5 => ⟨fun _ => ⟨h5, ?_⟩, fun q => absurd q (by decide)⟩) (fun g4 => ⟨fun q => absurd rfl q, fun _ => hS ok (Or.inr (Or.inr g4))⟩)
    rw [zI_in (by omega) (by omega), zI_tn (by omega) (by omega), tn_nat, show m + 13 = m + 4 + 9 by omega, e9]
    simp only [lz4]
    rw [zI_lt (by omega) (by omega) (by omega) (by omega)]
    refine ⟨by omega, fun q3 => ⟨h5, ?_⟩, fun q3 => hF ok (by omega) g3 ⟨g4, g5⟩ (by omega)⟩
    refine e_addInterval hW hv (by omega) q3 (fun M' g6 g7 => ?_)
    obtain ⟨k1, k2⟩ := CS_mus h g6 (MV_iv hv (by omega) q3 ok.1 ok.2) g7
    refine ⟨k1.2.2.2.2.1, by omega, ?_⟩
    have e9' := MW_at k1.2.2.2.2.2.2.2.2.2.2.1 (i := gNi S - 1) (a := 9) (by show gNi S - 1 < gNi S; omega) (by omega)
    rw [e9']
    have : gIt (sIv S (n + 16 * s)) (gNi S - 1) 9 = gIt S (gNi S - 1) 9 + 1 := if_pos ⟨rfl, rfl⟩
    rw [this]
    exact hQ ok (by omega) g3 ⟨g4, g5⟩ q3 M' k1 k2
/-- whether a note wants an OCTAVE SIGN behind another -/
def leapP (a b : Int) : Prop := (2 < a - b ∨ 2 < b - a) ∧ ((4 < a - b ∨ 4 < b - a) ∨ ¬ a / 7 = b / 7)
theorem e_isLeap {a b : Int} (ha : 0 ≤ a ∧ a ≤ 1000) (hb : 0 ≤ b ∧ b ≤ 1000) (h1 : leapP a b → Q 1 M) (h0 : ¬ leapP a b → Q 0 M) : w_X1_isLeap (zI a) (zI b) M Q := by
  unfold w_X1_isLeap
  rw [zI_sub, lz7, zI_div (by omega) (by omega) (by omega) (by omega), zI_div (by omega) (by omega) (by omega) (by omega)]
  intro x hx
  have c0 : (0 ≤ zI (a - b)) ↔ 0 ≤ a - b := by rw [lz0, zI_le (by omega) (by omega) (by omega) (by omega)]
  have ex : x = zI (if 0 ≤ a - b then a - b else b - a) := by
    rw [hx]
    simp only [c0]
    by_cases g : 0 ≤ a - b
    · rw [if_pos g, if_pos g]
    · rw [if_neg g, if_neg g, lz0, zI_sub]; congr 1; omega
  subst ex
  have hab : (if 0 ≤ a - b then a - b else b - a) = (if 0 ≤ a - b then a - b else b - a) ∧ 0 ≤ (if 0 ≤ a - b then a - b else b - a) ∧ (if 0 ≤ a - b then a - b else b - a) ≤ 1000 ∧ (∀ t : Int, 0 ≤ t → (t < (if 0 ≤ a - b then a - b else b - a) ↔ (t < a - b ∨ t < b - a))) := by
    by_cases g : 0 ≤ a - b
    · rw [if_pos g]; exact ⟨rfl, by omega, by omega, fun t ht => by omega⟩
    · rw [if_neg g]; exact ⟨rfl, by omega, by omega, fun t ht => by omega⟩
  generalize (if 0 ≤ a - b then a - b else b - a) = w at hab ⊢
  obtain ⟨-, w1, w2, w3⟩ := hab
  have c2 : 2 < zI w ↔ (2 < a - b ∨ 2 < b - a) := by rw [lz2, zI_lt (by omega) (by omega) (by omega) (by omega)]; exact w3 2 (by omega)
  have c4 : 4 < zI w ↔ (4 < a - b ∨ 4 < b - a) := by rw [lz4, zI_lt (by omega) (by omega) (by omega) (by omega)]; exact w3 4 (by omega)
  have ce : zI (a / 7) = zI (b / 7) ↔ a / 7 = b / 7 := zI_eq (by omega) (by omega) (by omega) (by omega)
  simp only [c2, c4, ce]
  refine ⟨fun q z hz => ?_, fun q => h0 (fun k => q k.1)⟩
  by_cases g : 4 < a - b ∨ 4 < b - a
  · rw [if_pos g] at hz; subst hz; exact ⟨Or.inr rfl, h1 ⟨q, Or.inl g⟩⟩
  · rw [if_neg g] at hz
    by_cases g2 : a / 7 = b / 7
    · rw [if_pos g2] at hz; subst hz; exact ⟨Or.inl rfl, h0 (fun k => k.2.elim g (fun z => z g2))⟩
    · rw [if_neg g2] at hz; subst hz; exact ⟨Or.inr rfl, h1 ⟨q, Or.inr g2⟩⟩
theorem c_wants {a b : Int} (ba : -2147483648 ≤ a ∧ a < 2147483648) (bb : -2147483648 ≤ b ∧ b < 2147483648) (hR : ¬ ((7 ≤ a ∧ a ≤ 55) ∧ (7 ≤ b ∧ b ≤ 55)) → Q (-2) M) (h1 : (7 ≤ a ∧ a ≤ 55) → (7 ≤ b ∧ b ≤ 55) → leapP a b → Q 1 M) (h0 : (7 ≤ a ∧ a ≤ 55) → (7 ≤ b ∧ b ≤ 55) → ¬ leapP a b → Q 0 M) : w_X6_wants (zI a) (zI b) M Q := by
  unfold w_X6_wants
  refine e_isPitch2 ba (fun g1 g2 => ⟨fun q => absurd q (by decide), fun _ => ?_⟩) (fun g => ⟨fun _ => hR (fun k => g k.1), fun q => absurd rfl q⟩)
  refine e_isPitch2 bb (fun g3 g4 => ⟨fun _ => ?_, fun q => absurd q (by decide)⟩) (fun g => ⟨fun q => absurd rfl q, fun _ => hR (fun k => g k.2)⟩)
  refine e_isLeap (by omega) (by omega) (fun g z hz => ?_) (fun g z hz => ?_)
  · rw [if_neg (by decide)] at hz; subst hz; exact h1 ⟨g1, g2⟩ ⟨g3, g4⟩ g
  · rw [if_pos rfl] at hz; subst hz; exact h0 ⟨g1, g2⟩ ⟨g3, g4⟩ g
theorem c_barOf (p2 : Int32) {a : Int} (h : CS M S c row r m) (ba : -2147483648 ≤ a ∧ a < 2147483648) (hN : (a < 0 ∨ (gNb S : Int) ≤ a) → Q (-1) M) (hR : 0 ≤ a → a < gNb S → ¬ p2 = 0 → ¬ p2 = 1 → ¬ p2 = 2 → Q (-2) M) (hQ0 : 0 ≤ a → a < gNb S → p2 = 0 → Q (zI (gVo S a.toNat)) M) (hQ1 : 0 ≤ a → a < gNb S → p2 = 1 → Q (if barN S a.toNat = 0 then -1 else zI (gFo S (3 * a.toNat))) M) (hQ2 : 0 ≤ a → a < gNb S → p2 = 2 → Q (zI (barN S a.toNat)) M) : w_X6_barOf m (zI a) p2 M Q := by
  have hW := h.2.2.2.2.2.2.2.2.2.2.1
  have hv := h.2.2.2.2.2.2.2.2.2.2.2
  have h5 := h.2.2.2.2.1
  have hnb := hv.2.2.1
  unfold w_X6_barOf
  have c0 : zI a < 0 ↔ a < 0 := by rw [lz0, zI_lt (by omega) (by omega) (by omega) (by omega)]
  rw [c0, hW.2.2.1, zI_lt (by omega) (by omega) (by omega) (by omega)]
  refine ⟨fun q => hN (Or.inl q), fun q1 => ⟨h5, fun q2 => ?_, fun q2 => hN (Or.inr (by omega))⟩⟩
  have hb : a.toNat < gNb S := by omega
  have hvo := hv.2.2.2.2.1 a.toNat hb
  have hbar : 0 ≤ barN S a.toNat ∧ barN S a.toNat ≤ 120 := by
    have := sumF_le (f := fun v => (gSz S (3 * a.toNat + v) : Int)) (a := 0) (lo := 0) (hi := 40) (gVo S a.toNat) (fun j hj => by
      have := (hv.2.2.2.2.2.2.1 a.toNat j hb hj).2.1
      simp only [Nat.zero_add]
      omega)
    unfold barN
    omega
  have ea : zI a = zI ((a.toNat : Nat) : Int) := by congr 1; omega
  refine ⟨fun q3 => ⟨h5, ?_⟩, fun q3 => ⟨h5, ?_⟩, fun q3 => ⟨h5, ?_⟩, fun q3 q4 q5 => hR (by omega) q2 q3 q4 q5⟩
  · rw [zI_in (by omega) (by omega), zI_tn (by omega) (by omega), hW.2.2.2.2.1 _ hb]
    exact ⟨by omega, hQ0 (by omega) q2 q3⟩
  · rw [ea]
    refine e_itemsOfBar hW hv hb ?_
    have cb : zI (barN S a.toNat) = 0 ↔ barN S a.toNat = 0 := by rw [lz0, zI_eq (by omega) (by omega) (by omega) (by omega)]
    simp only [cb]
    rw [lz3, zI_mul, zI_in (by omega) (by omega), zI_tn (by omega) (by omega), show (((a.toNat : Nat) : Int) * 3).toNat = 3 * a.toNat by omega]
    refine ⟨⟨fun _ => ⟨h5, by omega, trivial⟩, fun _ => trivial⟩, fun z hz => ?_⟩
    have := hQ1 (by omega) q2 q3
    by_cases g : barN S a.toNat = 0
    · rw [if_pos g] at hz this; subst hz; exact this
    · rw [if_neg g] at hz this
      have hpos : 0 < gVo S a.toNat := by
        rcases Nat.eq_zero_or_pos (gVo S a.toNat) with e | e
        · exact absurd (by unfold barN; rw [e]; rfl) g
        · exact e
      have := (hW.2.2.2.2.2.1 a.toNat 0 hb hpos).1
      simp only [Nat.add_zero] at this
      rw [this] at hz
      subst hz
      assumption
  · rw [ea]
    exact e_itemsOfBar hW hv hb (hQ2 (by omega) q2 q3)
/-- an item's number, as it is told -/
def tellI (S : Mus) (i : Nat) (w : Nat) : Int := match w with
  | 2 => if gIt S i 2 = 0 then -1 else gIt S i 2
  | 7 => lastG S i
  | 8 => gIt S i 7
  | 9 => gIt S i 8
  | 10 => gIt S i 9
  | 11 => if 0 < gIt S i 9 then gIt S i 10 else 0
  | 12 => if 1 < gIt S i 9 then gIt S i 11 else 0
  | 13 => if 2 < gIt S i 9 then gIt S i 12 else 0
  | 14 => if 3 < gIt S i 9 then gIt S i 13 else 0
  | w => gIt S i w
theorem c_item (p2 : Int32) {a : Int} (h : CS M S c row r m) (ba : -2147483648 ≤ a ∧ a < 2147483648) (hN : (a < 0 ∨ (gNi S : Int) ≤ a) → Q (-1) M) (hR : 0 ≤ a → a < gNi S → (∀ w : Nat, w < 15 → ¬ p2 = zI w) → Q (-2) M) (hQ : 0 ≤ a → a < gNi S → ∀ w : Nat, w < 15 → p2 = zI w → Q (zI (tellI S a.toNat w)) M) : w_X6_item m (zI a) p2 M Q := by
  have hW := h.2.2.2.2.2.2.2.2.2.2.1
  have hv := h.2.2.2.2.2.2.2.2.2.2.2
  have hT := h.2.2.2.2.2.2.1
  have h5 := h.2.2.2.2.1
  have hni := hv.2.2.2.1
  unfold w_X6_item
  have c0 : zI a < 0 ↔ a < 0 := by rw [lz0, zI_lt (by omega) (by omega) (by omega) (by omega)]
  rw [c0, hW.2.2.2.1, zI_lt (by omega) (by omega) (by omega) (by omega)]
  refine ⟨fun q => hN (Or.inl q), fun q1 => ⟨h5, fun q2 => ?_, fun q2 => hN (Or.inr (by omega))⟩⟩
  have hi : a.toNat < gNi S := by omega
  have ea : zI a = zI ((a.toNat : Nat) : Int) := by congr 1; omega
  have hin : vp_in (zI a) 600 := by rw [zI_in (by omega) (by omega)]; omega
  have htn : (zI a).toNatClampNeg = a.toNat := zI_tn (by omega) (by omega)
  have hQ' := hQ (by omega) q2
  have at_ : ∀ k : Nat, k < 10 → M (m + 4 + k) (zI a).toNatClampNeg = zI (gIt S a.toNat k) := fun k hk => by rw [htn]; exact MW_at hW hi hk
  refine ⟨fun e0 => ⟨h5, ?_⟩, fun e1 => ⟨h5, ?_⟩, fun e2 => ⟨h5, ?_⟩, fun e3 => ⟨h5, ?_⟩, fun e4 => ⟨h5, ?_⟩, fun e5 => ⟨h5, ?_⟩, fun e6 => ⟨h5, ?_⟩, fun e7 => ⟨h5, ?_⟩, fun e8 => ⟨h5, ?_⟩, fun e9 => ⟨h5, ?_⟩, fun e10 => ⟨h5, ?_⟩, fun e11 => ⟨h5, ?_⟩, fun e12 => ⟨h5, ?_⟩, fun e13 => ⟨h5, ?_⟩, fun e14 => ⟨h5, ?_⟩, fun e0 e1 e2 e3 e4 e5 e6 e7 e8 e9 e10 e11 e12 e13 e14 => hR (by omega) q2 (fun w hw hp => ?_)⟩
  · refine ⟨hin, ?_⟩
    have q := at_ 0 (by omega)
    rw [show m + 4 + 0 = m + 4 by omega] at q
    rw [q]
    exact hQ' 0 (by omega) (by rw [e0]; exact lz0)
  · refine ⟨hin, ?_⟩
    have q := at_ 1 (by omega)
    rw [show m + 4 + 1 = m + 5 by omega] at q
    rw [q]
    exact hQ' 1 (by omega) (by rw [e1]; exact lz1)
  · rw [ea]
    have q := hQ' 2 (by omega) (by rw [e2]; exact lz2)
    have e6 := MW_at hW hi (a := 2) (by omega)
    refine e_isNote hW hv hi (fun g => ⟨⟨fun k => absurd k (by decide), fun _ => ⟨h5, by rw [← ea]; exact hin, trivial⟩⟩, fun z hz => ?_⟩) (fun g => ⟨⟨fun _ => trivial, fun k => absurd rfl k⟩, fun z hz => ?_⟩)
    · rw [if_neg (by decide), ← ea, htn, show m + 6 = m + 4 + 2 by omega, e6] at hz
      subst hz
      have : tellI S a.toNat 2 = gIt S a.toNat 2 := if_neg g
      rw [this] at q
      exact q
    · rw [if_pos rfl] at hz
      subst hz
      have : tellI S a.toNat 2 = -1 := if_pos g
      rw [this, ← zI_neg, ← lz1] at q
      exact q
  · refine ⟨hin, ?_⟩
    have q := at_ 3 (by omega)
    rw [show m + 4 + 3 = m + 7 by omega] at q
    rw [q]
    exact hQ' 3 (by omega) (by rw [e3]; exact lz3)
  · refine ⟨hin, ?_⟩
    have q := at_ 4 (by omega)
    rw [show m + 4 + 4 = m + 8 by omega] at q
    rw [q]
    exact hQ' 4 (by omega) (by rw [e4]; exact lz4)
  · refine ⟨hin, ?_⟩
    have q := at_ 5 (by omega)
    rw [show m + 4 + 5 = m + 9 by omega] at q
    rw [q]
    exact hQ' 5 (by omega) (by rw [e5]; exact lz5)
  · refine ⟨hin, ?_⟩
    have q := at_ 6 (by omega)
    rw [show m + 4 + 6 = m + 10 by omega] at q
    rw [q]
    exact hQ' 6 (by omega) (by rw [e6]; exact lz6)
  · rw [ea]; exact e_lasts hT hW hv hi (hQ' 7 (by omega) (by rw [e7]; exact lz7))
  · refine ⟨hin, ?_⟩
    have q := at_ 7 (by omega)
    rw [show m + 4 + 7 = m + 11 by omega] at q
    rw [q]
    exact hQ' 8 (by omega) (by rw [e8]; exact lz8)
  · refine ⟨hin, ?_⟩
    have q := at_ 8 (by omega)
    rw [show m + 4 + 8 = m + 12 by omega] at q
    rw [q]
    exact hQ' 9 (by omega) (by rw [e9]; exact lz9)
  · refine ⟨hin, ?_⟩
    have q := at_ 9 (by omega)
    rw [show m + 4 + 9 = m + 13 by omega] at q
    rw [q]
    exact hQ' 10 (by omega) (by rw [e10]; exact lz10)
  · rw [ea, e11, show (11 : Int32) - 11 = zI 0 by decide +kernel]
    refine e_intervalAt hW hv hi (by omega) ?_
    have q := hQ' 11 (by omega) (by rw [e11]; exact lz11)
    have : (if (0 : Int) ≤ 0 ∧ (0 : Int) < gIt S a.toNat 9 then gIt S a.toNat (10 + (0 : Int).toNat) else 0) = tellI S a.toNat 11 := by
      show _ = (if (0 : Int) < gIt S a.toNat 9 then gIt S a.toNat 10 else 0)
      by_cases g : (0 : Int) < gIt S a.toNat 9
      · rw [if_pos ⟨by omega, g⟩, if_pos g]; rfl
      · rw [if_neg (fun z => g z.2), if_neg g]
    rw [this]
    exact q
  · rw [ea, e12, show (12 : Int32) - 11 = zI 1 by decide +kernel]
    refine e_intervalAt hW hv hi (by omega) ?_
    have q := hQ' 12 (by omega) (by rw [e12]; exact lz12)
    have : (if (0 : Int) ≤ 1 ∧ (1 : Int) < gIt S a.toNat 9 then gIt S a.toNat (10 + (1 : Int).toNat) else 0) = tellI S a.toNat 12 := by
      show _ = (if (1 : Int) < gIt S a.toNat 9 then gIt S a.toNat 11 else 0)
      by_cases g : (1 : Int) < gIt S a.toNat 9
      · rw [if_pos ⟨by omega, g⟩, if_pos g]; rfl
      · rw [if_neg (fun z => g z.2), if_neg g]
    rw [this]
    exact q
  · rw [ea, e13, show (13 : Int32) - 11 = zI 2 by decide +kernel]
    refine e_intervalAt hW hv hi (by omega) ?_
    have q := hQ' 13 (by omega) (by rw [e13]; exact lz13)
    have : (if (0 : Int) ≤ 2 ∧ (2 : Int) < gIt S a.toNat 9 then gIt S a.toNat (10 + (2 : Int).toNat) else 0) = tellI S a.toNat 13 := by
      show _ = (if (2 : Int) < gIt S a.toNat 9 then gIt S a.toNat 12 else 0)
      by_cases g : (2 : Int) < gIt S a.toNat 9
      · rw [if_pos ⟨by omega, g⟩, if_pos g]; rfl
      · rw [if_neg (fun z => g z.2), if_neg g]
    rw [this]
    exact q
  · rw [ea, e14, show (14 : Int32) - 11 = zI 3 by decide +kernel]
    refine e_intervalAt hW hv hi (by omega) ?_
    have q := hQ' 14 (by omega) (by rw [e14]; exact lz14)
    have : (if (0 : Int) ≤ 3 ∧ (3 : Int) < gIt S a.toNat 9 then gIt S a.toNat (10 + (3 : Int).toNat) else 0) = tellI S a.toNat 14 := by
      show _ = (if (3 : Int) < gIt S a.toNat 9 then gIt S a.toNat 13 else 0)
      by_cases g : (3 : Int) < gIt S a.toNat 9
      · rw [if_pos ⟨by omega, g⟩, if_pos g]; rfl
      · rw [if_neg (fun z => g z.2), if_neg g]
    rw [this]
    exact q
  · rcases (show w = 0 ∨ w = 1 ∨ w = 2 ∨ w = 3 ∨ w = 4 ∨ w = 5 ∨ w = 6 ∨ w = 7 ∨ w = 8 ∨ w = 9 ∨ w = 10 ∨ w = 11 ∨ w = 12 ∨ w = 13 ∨ w = 14 by omega) with rfl | rfl | rfl | rfl | rfl | rfl | rfl | rfl | rfl | rfl | rfl | rfl | rfl | rfl | rfl
    · exact e0 (hp.trans lz0.symm)
    · exact e1 (hp.trans lz1.symm)
    · exact e2 (hp.trans lz2.symm)
    · exact e3 (hp.trans lz3.symm)
    · exact e4 (hp.trans lz4.symm)
    · exact e5 (hp.trans lz5.symm)
    · exact e6 (hp.trans lz6.symm)
    · exact e7 (hp.trans lz7.symm)
    · exact e8 (hp.trans lz8.symm)
    · exact e9 (hp.trans lz9.symm)
    · exact e10 (hp.trans lz10.symm)
    · exact e11 (hp.trans lz11.symm)
    · exact e12 (hp.trans lz12.symm)
    · exact e13 (hp.trans lz13.symm)
    · exact e14 (hp.trans lz14.symm)
/-- ties that meet no note of their PITCH -/
def looseF (S : Mus) (i : Nat) : Int := if gIt S i 7 = 1 ∧ ¬ (i + 1 < gNi S ∧ gIt S (i + 1) 2 = gIt S i 2) then 1 else 0
theorem c_loose (h : CS M S c row r m) (hQ : Q (zI (sumF (looseF S) 0 (gNi S))) M) : w_X6_loose m M Q := by
  have hW := h.2.2.2.2.2.2.2.2.2.2.1
  have hv := h.2.2.2.2.2.2.2.2.2.2.2
  have h5 := h.2.2.2.2.1
  have hni := hv.2.2.2.1
  refine ⟨gNi S + 1, ?_⟩
  have key : ∀ (k i : Nat), i ≤ gNi S → gNi S - i < k → w_X6_loose_4 m Q k (zI (sumF (looseF S) 0 i)) (zI i) M := by
    intro k
    induction k with
    | zero => intro i g1 g2; omega
    | succ k ih =>
      intro i hi hk
      show wb_X6_loose_4 m Q (w_X6_loose_4 m Q k) _ _ M
      unfold wb_X6_loose_4
      have cc : (zI (gNi S) ≤ zI ((i : Int) + 1)) ↔ (gNi S : Int) ≤ (i : Int) + 1 := zI_le (by omega) (by omega) (by omega) (by omega)
      rw [hW.2.2.2.1, lz1, zI_add]
      simp only [cc]
      rw [zI_le (by omega) (by omega) (by omega) (by omega), zI_in (by omega) (by omega), zI_in (by omega) (by omega), zI_tn (by omega) (by omega), zI_tn (by omega) (by omega), tn_nat, show ((i : Int) + 1).toNat = i + 1 by omega]
      refine ⟨h5, fun q => ?_, fun q => ⟨h5, ⟨fun _ => trivial, fun q2 => ⟨h5, by omega, h5, by omega, fun _ => trivial, fun _ => trivial⟩⟩, fun z hz => ⟨h5, by omega, fun q3 x e => ?_, fun q3 => ⟨fun q4 x e => ?_, fun q4 x e y e2 => ?_⟩⟩⟩⟩
      · have : i = gNi S := by omega
        subst this
        exact hQ
      all_goals
        have hi2 : i < gNi S := by omega
        have w7 := (hv.2.2.2.2.2.1 i hi2).2.2.2.2.2.2.2.1
        have e7 := MW_at hW hi2 (a := 7) (by omega)
        have e2p := MW_at hW hi2 (a := 2) (by omega)
        have wp := (hv.2.2.2.2.2.1 i hi2).2.2.1
        rw [show m + 11 = m + 4 + 7 by omega, e7, zI_eq (by omega) (by omega) (by omega) (by omega)] at q3
        have meet : (z = 0) ↔ ¬ (i + 1 < gNi S ∧ gIt S (i + 1) 2 = gIt S i 2) := by
          by_cases g : (gNi S : Int) ≤ (i : Int) + 1
          · rw [if_pos g] at hz; subst hz; exact ⟨fun _ k => by omega, fun _ => rfl⟩
          · rw [if_neg g] at hz
            have e2n := MW_at hW (i := i + 1) (a := 2) (by omega) (by omega)
            have wn := (hv.2.2.2.2.2.1 (i + 1) (by omega)).2.2.1
            rw [show m + 6 = m + 4 + 2 by omega, e2n, e2p] at hz
            by_cases g2 : gIt S (i + 1) 2 = gIt S i 2
            · rw [if_pos (by rw [g2])] at hz; subst hz; exact ⟨fun k => absurd k (by decide), fun k => absurd ⟨by omega, g2⟩ k⟩
            · rw [if_neg (by rw [zI_eq (by omega) (by omega) (by omega) (by omega)]; exact g2)] at hz; subst hz; exact ⟨fun _ k => g2 k.2, fun _ => rfl⟩
      · have e' : x = zI ((i + 1 : Nat) : Int) := e
        subst e'
        have := ih (i + 1) (by omega) (by omega)
        have es : sumF (looseF S) 0 (i + 1) = sumF (looseF S) 0 i := by
          show sumF (looseF S) 0 i + looseF S (0 + i) = _
          rw [Nat.zero_add]
          unfold looseF
          rw [if_neg (fun k => q3 k.1)]; omega
        rw [es] at this
        exact this
      · have e' : x = zI ((i + 1 : Nat) : Int) := e
        subst e'
        have := ih (i + 1) (by omega) (by omega)
        have es : sumF (looseF S) 0 (i + 1) = sumF (looseF S) 0 i := by
          show sumF (looseF S) 0 i + looseF S (0 + i) = _
          rw [Nat.zero_add]
          unfold looseF
          rw [if_neg (fun k => q4 (meet.mpr k.2))]; omega
        rw [es] at this
        exact this
      · have e' : y = zI ((i + 1 : Nat) : Int) := e2
        subst e'
        have := ih (i + 1) (by omega) (by omega)
        have es : sumF (looseF S) 0 (i + 1) = sumF (looseF S) 0 i + 1 := by
          show sumF (looseF S) 0 i + looseF S (0 + i) = _
          rw [Nat.zero_add]
          unfold looseF
          rw [if_pos ⟨q3, meet.mp q4⟩]
        rw [es, ← zI_add, ← e] at this
        exact this
  exact key _ 0 (by omega) (by omega)
def toldI (S : Mus) (c w : Nat) : Int := match w with
  | 0 => gNb S
  | 1 => gNi S
  | 2 => gLen S
  | 3 => c
  | 4 => gHd S
  | _ => if lastS S < 0 then 0 else slotL S (lastS S).toNat
theorem c_told (p : Int32) (h : CS M S c row r m) (hR : (∀ w : Nat, w < 6 → ¬ p = zI w) → Q (-2) M) (hQ : ∀ w : Nat, w < 6 → p = zI w → Q (zI (toldI S c w)) M) : w_X6_told r m p M Q := by
  have hW := h.2.2.2.2.2.2.2.2.2.2.1
  have hv := h.2.2.2.2.2.2.2.2.2.2.2
  have hT := h.2.2.2.2.2.2.1
  have h5 := h.2.2.2.2.1
  have h3 := h.2.2.1
  have hb := lastS_bd hv
  unfold w_X6_told
  rw [hW.2.2.1, hW.2.2.2.1, hW.1, hW.2.1, h.2.2.2.2.2.2.2.1]
  refine ⟨fun e => ⟨h5, hQ 0 (by omega) (e.trans lz0)⟩, fun e => ⟨h5, hQ 1 (by omega) (e.trans lz1)⟩, fun e => ⟨h5, hQ 2 (by omega) (e.trans lz2)⟩, fun e => ⟨h3, hQ 3 (by omega) (e.trans lz3)⟩, fun e => ⟨h5, hQ 4 (by omega) (e.trans lz4)⟩, fun e => ⟨h5, ?_⟩, fun e0 e1 e2 e3 e4 e5 => hR (fun w hw hp => ?_)⟩
  · have q := hQ 5 (by omega) (e.trans lz5)
    refine e_lastSlot hW hv ⟨fun g => ⟨h5, h5, e_lastSlot hW hv ?_⟩, fun g => ?_⟩
    · rw [lz0, zI_le (by omega) (by omega) (by omega) (by omega)] at g
      obtain ⟨l1, l2, l3⟩ := lastS_sp (S := S) (by omega)
      have l4 : (lastS S).toNat = 3 * (gNb S - 1) + (gVo S (gNb S - 1) - 1) := by rw [l3]; rfl
      have : toldI S c 5 = slotL S (lastS S).toNat := if_neg (by omega)
      rw [this, l4] at q
      rw [l3]
      exact e_voiceLasts hT hW hv l1 l2 q
    · rw [lz0, zI_le (by omega) (by omega) (by omega) (by omega)] at g
      have : toldI S c 5 = 0 := if_pos (by omega)
      rw [this, ← lz0] at q
      exact q
  · rcases (show w = 0 ∨ w = 1 ∨ w = 2 ∨ w = 3 ∨ w = 4 ∨ w = 5 by omega) with rfl | rfl | rfl | rfl | rfl | rfl
    · exact e0 (hp.trans lz0.symm)
    · exact e1 (hp.trans lz1.symm)
    · exact e2 (hp.trans lz2.symm)
    · exact e3 (hp.trans lz3.symm)
    · exact e4 (hp.trans lz4.symm)
    · exact e5 (hp.trans lz5.symm)
end Cls3
