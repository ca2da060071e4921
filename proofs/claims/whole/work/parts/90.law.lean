theorem law_case (Q : Int32 → Mem → Prop) (B : Int32 → Mem → Prop) (i L : Nat) (M : Mem) (hL : L ≤ 3072) (hi : i + 6 ≤ L) (h110 : M 110 8 = zI L) (hI : INV M) (next : ∀ (M2 : Mem) (x : Int32), INV M2 → ke M M2 → x = zI i + 6 → B x M2) (h1 : (L : Int) - 6 < i → Q 1 M) : wb_law Q B (zI i) M := by
  obtain ⟨S, c, row, r, m, h⟩ := hI
  have hr : RW r := h.1.1
  have hm : MU m := h.1.2.1
  have hm2 : MU (25 - m) := by rcases hm with rfl | rfl; exact Or.inr rfl; exact Or.inl rfl
  have hr2 : RW (4 - r) := by rcases hr with rfl | rfl; exact Or.inr rfl; exact Or.inl rfl
  have hn : (M 110 8).toNatClampNeg = L := by rw [h110, zI_tn (by omega) (by omega), tn_nat]
  have v0 : vp_in (zI i) L := by rw [zI_in (by omega) (by omega)]; omega
  have v1 : vp_in (zI i + 1) L := by rw [lz1, zI_add, zI_in (by omega) (by omega)]; omega
  have v2 : vp_in (zI i + 2) L := by rw [lz2, zI_add, zI_in (by omega) (by omega)]; omega
  have v3 : vp_in (zI i + 3) L := by rw [lz3, zI_add, zI_in (by omega) (by omega)]; omega
  have v4 : vp_in (zI i + 4) L := by rw [lz4, zI_add, zI_in (by omega) (by omega)]; omega
  have v5 : vp_in (zI i + 5) L := by rw [lz5, zI_add, zI_in (by omega) (by omega)]; omega
  unfold wb_law
  rw [hn]
  have c0 : (nI L - 6 < zI i) ↔ (L : Int) - 6 < i := by rw [zI_nI, lz6, zI_sub, zI_lt (by omega) (by omega) (by omega) (by omega)]
  rw [c0]
  have hK : ∀ (v : Int32) (M2 : Mem), INV M2 → ke M M2 → ((v = v) → (∀ x : Int32, x = zI i + 6 → B x M2)) ∧ (¬ (v = v) → (Q 0 M2)) := fun v M2 g1 g2 => ⟨fun _ x ex => next M2 x g1 g2 ex, fun q => absurd rfl q⟩
  refine ⟨h1, fun _ => ⟨v0, fun e0 => ?_, fun e1 => ?_, fun e2 => ?_, fun e3 => ?_, fun e4 => ?_, fun e5 => ?_, fun e6 => ?_, fun e7 => ?_, fun e8 => ?_, fun e9 => ?_, fun e10 => ?_, fun e11 => ?_, fun e12 => ?_, fun e13 => ?_, fun e14 => ?_, fun e15 => ?_, fun e16 => ?_, fun e17 => ?_, fun e18 => ?_, fun e19 => ?_, fun e20 => ?_, fun e21 => ?_, fun e22 => ?_, fun _ _ _ _ _ _ _ _ _ _ _ _ _ _ _ _ _ _ _ _ _ _ _ x ex => next M x ⟨S, c, row, r, m, h⟩ ke_rf ex⟩⟩
  · refine ⟨r, hr, ?_⟩
    refine ⟨m, hm, ?_⟩
    refine op_clear (K := fun _ _ M7 => ∀ x8 : Int32, x8 = zI i + 6 → B x8 M7) h (fun v M1 f1 hx => ?_) (fun _ _ M2 g1 g2 x ex => next M2 x g1 g2 ex)
    have f110 := f1 110 (by omega)
    have f108 := f1 (100 + 8) (by omega)
    exact hx
  · refine ⟨v1, ?_⟩
    refine ⟨r, hr, ?_⟩
    refine op_cell (K := fun v11 v14 M15 => ((v11 = v14) → (∀ x16 : Int32, x16 = zI i + 6 → B x16 M15)) ∧ (¬ (v11 = v14) → (Q 0 M15))) h _ (fun v M1 f1 hx => ?_) hK
    have f110 := f1 110 (by omega)
    have f108 := f1 (100 + 8) (by omega)
    rw [f110, f108, hn]
    refine ⟨v1, ?_⟩
    exact hx
  · refine ⟨v1, v2, ?_⟩
    refine ⟨r, hr, ?_⟩
    refine op_more (K := fun v11 v14 M15 => ((v11 = v14) → (∀ x16 : Int32, x16 = zI i + 6 → B x16 M15)) ∧ (¬ (v11 = v14) → (Q 0 M15))) h _ (fun v M1 f1 hx => ?_) hK
    have f110 := f1 110 (by omega)
    have f108 := f1 (100 + 8) (by omega)
    rw [f110, f108, hn]
    refine ⟨v1, v2, ?_⟩
    exact hx
  · refine ⟨v1, ?_⟩
    refine ⟨r, hr, ?_⟩
    refine op_cut (K := fun v11 v14 M15 => ((v11 = v14) → (∀ x16 : Int32, x16 = zI i + 6 → B x16 M15)) ∧ (¬ (v11 = v14) → (Q 0 M15))) h _ (fun v M1 f1 hx => ?_) hK
    have f110 := f1 110 (by omega)
    have f108 := f1 (100 + 8) (by omega)
    rw [f110, f108, hn]
    refine ⟨v1, ?_⟩
    exact hx
  · refine ⟨v1, ?_⟩
    refine ⟨r, hr, ?_⟩
    refine op_at (K := fun v11 v14 M15 => ((v11 = v14) → (∀ x16 : Int32, x16 = zI i + 6 → B x16 M15)) ∧ (¬ (v11 = v14) → (Q 0 M15))) h _ (fun v M1 f1 hx => ?_) hK
    have f110 := f1 110 (by omega)
    have f108 := f1 (100 + 8) (by omega)
    rw [f110, f108, hn]
    refine ⟨v1, ?_⟩
    exact hx
  · refine ⟨r, hr, ?_⟩
    refine ⟨m, hm, ?_⟩
    refine ⟨(25 - m), hm2, ?_⟩
    refine op_read (K := fun v11 v14 M15 => ((v11 = v14) → (∀ x16 : Int32, x16 = zI i + 6 → B x16 M15)) ∧ (¬ (v11 = v14) → (Q 0 M15))) h  (fun v M1 f1 hx => ?_) hK
    have f110 := f1 110 (by omega)
    have f108 := f1 (100 + 8) (by omega)
    exact hx
  · refine ⟨v1, v2, ?_⟩
    refine ⟨m, hm, ?_⟩
    refine op_meter (K := fun v11 v14 M15 => ((v11 = v14) → (∀ x16 : Int32, x16 = zI i + 6 → B x16 M15)) ∧ (¬ (v11 = v14) → (Q 0 M15))) h _ _ (fun v M1 f1 hx => ?_) hK
    have f110 := f1 110 (by omega)
    have f108 := f1 (100 + 8) (by omega)
    rw [f110, f108, hn]
    refine ⟨v1, v2, ?_⟩
    exact hx
  · refine ⟨v1, ?_⟩
    refine ⟨m, hm, ?_⟩
    refine op_hand (K := fun v11 v14 M15 => ((v11 = v14) → (∀ x16 : Int32, x16 = zI i + 6 → B x16 M15)) ∧ (¬ (v11 = v14) → (Q 0 M15))) h _ (fun v M1 f1 hx => ?_) hK
    have f110 := f1 110 (by omega)
    have f108 := f1 (100 + 8) (by omega)
    rw [f110, f108, hn]
    refine ⟨v1, ?_⟩
    exact hx
  · refine ⟨v1, ?_⟩
    intro z hz
    refine ⟨m, hm, ?_⟩
    refine op_bar (K := fun v11 v14 M15 => ((v11 = v14) → (∀ x16 : Int32, x16 = zI i + 6 → B x16 M15)) ∧ (¬ (v11 = v14) → (Q 0 M15))) h _ (fun v M1 f1 hx => ?_) hK
    have f110 := f1 110 (by omega)
    have f108 := f1 (100 + 8) (by omega)
    rw [f110, f108, hn]
    refine ⟨v1, ?_⟩
    intro z2 hz2
    rw [← hz] at hz2
    subst hz2
    exact hx
  · refine ⟨m, hm, ?_⟩
    refine op_voice (K := fun v11 v14 M15 => ((v11 = v14) → (∀ x16 : Int32, x16 = zI i + 6 → B x16 M15)) ∧ (¬ (v11 = v14) → (Q 0 M15))) h  (fun v M1 f1 hx => ?_) hK
    have f110 := f1 110 (by omega)
    have f108 := f1 (100 + 8) (by omega)
    exact hx
  · refine ⟨v1, v2, v3, v4, v5, ?_⟩
    refine ⟨m, hm, ?_⟩
    refine op_note (K := fun v11 v14 M15 => ((v11 = v14) → (∀ x16 : Int32, x16 = zI i + 6 → B x16 M15)) ∧ (¬ (v11 = v14) → (Q 0 M15))) h _ _ _ _ _ (fun v M1 f1 hx => ?_) hK
    have f110 := f1 110 (by omega)
    have f108 := f1 (100 + 8) (by omega)
    rw [f110, f108, hn]
    refine ⟨v1, v2, v3, v4, v5, ?_⟩
    exact hx
  · refine ⟨v1, v2, v3, ?_⟩
    refine ⟨m, hm, ?_⟩
    refine op_rest (K := fun v11 v14 M15 => ((v11 = v14) → (∀ x16 : Int32, x16 = zI i + 6 → B x16 M15)) ∧ (¬ (v11 = v14) → (Q 0 M15))) h _ _ _ (fun v M1 f1 hx => ?_) hK
    have f110 := f1 110 (by omega)
    have f108 := f1 (100 + 8) (by omega)
    rw [f110, f108, hn]
    refine ⟨v1, v2, v3, ?_⟩
    exact hx
  · refine ⟨v1, v2, ?_⟩
    refine ⟨m, hm, ?_⟩
    refine op_interval (K := fun v11 v14 M15 => ((v11 = v14) → (∀ x16 : Int32, x16 = zI i + 6 → B x16 M15)) ∧ (¬ (v11 = v14) → (Q 0 M15))) h _ _ (fun v M1 f1 hx => ?_) hK
    have f110 := f1 110 (by omega)
    have f108 := f1 (100 + 8) (by omega)
    rw [f110, f108, hn]
    refine ⟨v1, v2, ?_⟩
    exact hx
  · refine ⟨v1, ?_⟩
    intro z hz
    refine ⟨m, hm, ?_⟩
    refine op_tie (K := fun v11 v14 M15 => ((v11 = v14) → (∀ x16 : Int32, x16 = zI i + 6 → B x16 M15)) ∧ (¬ (v11 = v14) → (Q 0 M15))) h _ (fun v M1 f1 hx => ?_) hK
    have f110 := f1 110 (by omega)
    have f108 := f1 (100 + 8) (by omega)
    rw [f110, f108, hn]
    refine ⟨v1, ?_⟩
    intro z2 hz2
    rw [← hz] at hz2
    subst hz2
    exact hx
  · refine ⟨v1, v2, ?_⟩
    intro z hz
    refine ⟨m, hm, ?_⟩
    refine op_slur (K := fun v11 v14 M15 => ((v11 = v14) → (∀ x16 : Int32, x16 = zI i + 6 → B x16 M15)) ∧ (¬ (v11 = v14) → (Q 0 M15))) h _ _ (fun v M1 f1 hx => ?_) hK
    have f110 := f1 110 (by omega)
    have f108 := f1 (100 + 8) (by omega)
    rw [f110, f108, hn]
    refine ⟨v1, v2, ?_⟩
    intro z2 hz2
    rw [← hz] at hz2
    subst hz2
    exact hx
  · refine ⟨v1, ?_⟩
    refine ⟨r, hr, ?_⟩
    refine ⟨(4 - r), hr2, ?_⟩
    refine ⟨m, hm, ?_⟩
    refine op_write (K := fun v11 v14 M15 => ((v11 = v14) → (∀ x16 : Int32, x16 = zI i + 6 → B x16 M15)) ∧ (¬ (v11 = v14) → (Q 0 M15))) h _ (fun v M1 f1 hx => ?_) hK
    have f110 := f1 110 (by omega)
    have f108 := f1 (100 + 8) (by omega)
    rw [f110, f108, hn]
    refine ⟨v1, ?_⟩
    exact hx
  · refine ⟨v1, v2, ?_⟩
    refine op_wants (K := fun v11 v14 M15 => ((v11 = v14) → (∀ x16 : Int32, x16 = zI i + 6 → B x16 M15)) ∧ (¬ (v11 = v14) → (Q 0 M15))) h _ _ (fun v M1 f1 hx => ?_) hK
    have f110 := f1 110 (by omega)
    have f108 := f1 (100 + 8) (by omega)
    rw [f110, f108, hn]
    refine ⟨v1, v2, ?_⟩
    exact hx
  · refine ⟨v1, v2, ?_⟩
    refine ⟨m, hm, ?_⟩
    refine op_ways (K := fun v11 v14 M15 => ((v11 = v14) → (∀ x16 : Int32, x16 = zI i + 6 → B x16 M15)) ∧ (¬ (v11 = v14) → (Q 0 M15))) h _ _ (fun v M1 f1 hx => ?_) hK
    have f110 := f1 110 (by omega)
    have f108 := f1 (100 + 8) (by omega)
    rw [f110, f108, hn]
    refine ⟨v1, v2, ?_⟩
    exact hx
  · refine ⟨v1, v2, ?_⟩
    refine ⟨m, hm, ?_⟩
    refine op_signed (K := fun v11 v14 M15 => ((v11 = v14) → (∀ x16 : Int32, x16 = zI i + 6 → B x16 M15)) ∧ (¬ (v11 = v14) → (Q 0 M15))) h _ _ (fun v M1 f1 hx => ?_) hK
    have f110 := f1 110 (by omega)
    have f108 := f1 (100 + 8) (by omega)
    rw [f110, f108, hn]
    refine ⟨v1, v2, ?_⟩
    exact hx
  · refine ⟨v1, v2, ?_⟩
    refine ⟨m, hm, ?_⟩
    refine op_barOf (K := fun v11 v14 M15 => ((v11 = v14) → (∀ x16 : Int32, x16 = zI i + 6 → B x16 M15)) ∧ (¬ (v11 = v14) → (Q 0 M15))) h _ _ (fun v M1 f1 hx => ?_) hK
    have f110 := f1 110 (by omega)
    have f108 := f1 (100 + 8) (by omega)
    rw [f110, f108, hn]
    refine ⟨v1, v2, ?_⟩
    exact hx
  · refine ⟨v1, v2, ?_⟩
    refine ⟨m, hm, ?_⟩
    refine op_item (K := fun v11 v14 M15 => ((v11 = v14) → (∀ x16 : Int32, x16 = zI i + 6 → B x16 M15)) ∧ (¬ (v11 = v14) → (Q 0 M15))) h _ _ (fun v M1 f1 hx => ?_) hK
    have f110 := f1 110 (by omega)
    have f108 := f1 (100 + 8) (by omega)
    rw [f110, f108, hn]
    refine ⟨v1, v2, ?_⟩
    exact hx
  · refine ⟨m, hm, ?_⟩
    refine op_loose (K := fun v11 v14 M15 => ((v11 = v14) → (∀ x16 : Int32, x16 = zI i + 6 → B x16 M15)) ∧ (¬ (v11 = v14) → (Q 0 M15))) h  (fun v M1 f1 hx => ?_) hK
    have f110 := f1 110 (by omega)
    have f108 := f1 (100 + 8) (by omega)
    exact hx
  · refine ⟨v1, ?_⟩
    refine ⟨r, hr, ?_⟩
    refine ⟨m, hm, ?_⟩
    refine op_told (K := fun v11 v14 M15 => ((v11 = v14) → (∀ x16 : Int32, x16 = zI i + 6 → B x16 M15)) ∧ (¬ (v11 = v14) → (Q 0 M15))) h _ (fun v M1 f1 hx => ?_) hK
    have f110 := f1 110 (by omega)
    have f108 := f1 (100 + 8) (by omega)
    rw [f110, f108, hn]
    refine ⟨v1, ?_⟩
    exact hx
theorem pure_loop (xs : Nat → Int32) (L : Nat) (hL : L ≤ 3072) : ∀ (k i : Nat) (M : Mem), INV M → M 110 8 = zI L → i ≤ L + 5 → L + 5 - i < 6 * k → w_law (fun v _ => v = 1) k (zI i) M := by
  intro k
  induction k with
  | zero => intro i M _ _ _ h; omega
  | succ k ih =>
    intro i M hI h110 hi hk
    show wb_law (fun v _ => v = 1) (w_law (fun v _ => v = 1) k) (zI i) M
    by_cases g : i + 6 ≤ L
    · refine law_case _ _ i L M hL g h110 hI (fun M2 x g1 g2 ex => ?_) (fun _ => rfl)
      have e : x = zI ((i + 6 : Nat) : Int) := by rw [ex, lz6, zI_add]; congr 1
      subst e
      exact ih (i + 6) M2 g1 (by rw [g2 110 (by omega)]; exact h110) (by omega) (by omega)
    · unfold wb_law
      have hn : (M 110 8).toNatClampNeg = L := by rw [h110, zI_tn (by omega) (by omega), tn_nat]
      rw [hn]
      have c0 : (nI L - 6 < zI i) ↔ (L : Int) - 6 < i := by rw [zI_nI, lz6, zI_sub, zI_lt (by omega) (by omega) (by omega) (by omega)]
      rw [c0]
      exact ⟨fun _ => rfl, fun q => absurd (by omega) q⟩
def S_nil : Mus := (512, 0, 0, 0, fun _ => 0, fun _ _ => 0, fun _ => 0, fun _ => 0)
set_option maxRecDepth 100000 in
theorem inv_start (L : Nat) (xs : Nat → Int32) : INV (MI L xs) := by
  have hnil : MV S_nil := MV_nil (S := S_nil) (x := 512) (by omega)
  refine ⟨S_nil, 0, fun _ => 0, 1, 5, ⟨Or.inl rfl, Or.inl rfl, rfl, rfl, rfl, rfl, ?_, ?_, by omega, fun j hj => absurd hj (Nat.not_lt_zero j), ⟨?_, ?_, ?_, ?_, fun b hb => absurd hb (Nat.not_lt_zero b), fun b v hb => absurd hb (Nat.not_lt_zero b), fun i a hi => absurd hi (Nat.not_lt_zero i), fun i k hi => absurd hi (Nat.not_lt_zero i)⟩, hnil⟩, ⟨?_, by omega, ?_, fun j hj => absurd hj (Nat.not_lt_zero j), ⟨?_, ?_, ?_, fun b hb => absurd hb (Nat.not_lt_zero b), fun i a hi => absurd hi (Nat.not_lt_zero i), fun i k hi => absurd hi (Nat.not_lt_zero i)⟩, ?_, hnil⟩, GV_nil (S := S_nil) (x := 512)⟩
  · unfold TB
    refine ⟨⟨lz7, lz4, lz4, lz7, lz3, lz7, lz4, lz3⟩, ?_, ?_, ?_, ?_, ?_, ?_, ?_, ?_⟩
    all_goals
      intro j hj
      first
        | (rcases (show j = 0 ∨ j = 1 ∨ j = 2 ∨ j = 3 ∨ j = 4 ∨ j = 5 ∨ j = 6 by omega) with rfl | rfl | rfl | rfl | rfl | rfl | rfl <;> first | rfl | (show (_ : Int32) = _; decide +kernel))
  · exact lz0
  · exact lz512
  · exact lz0
  · exact lz0
  · exact lz0
  · exact lz0
  · exact lz512
  · exact lz0
  · exact lz0
  · exact lz0
  · unfold RT
    refine ⟨?_, ?_, ?_, ?_, ?_⟩
    all_goals
      intro j hj
      rcases (show j = 0 ∨ j = 1 ∨ j = 2 ∨ j = 3 ∨ j = 4 ∨ j = 5 ∨ j = 6 by omega) with rfl | rfl | rfl | rfl | rfl | rfl | rfl <;> first | rfl | omega
set_option maxRecDepth 100000 in
theorem pure_law (L : Nat) (xs : Nat → Int32) (hL : L ≤ 3072) : w_law (fun v _ => v = 1) 513 0 (MI L xs) := by
  have := pure_loop xs L hL 513 0 (MI L xs) (inv_start L xs) rfl (by omega) (by omega)
  rw [show zI ((0 : Nat) : Int) = 0 from (lz0).symm] at this
  exact this
