/-- the static tables -/
def TB (M : Mem) : Prop := (M 110 0 = zI 7 ∧ M 110 1 = zI 4 ∧ M 110 2 = zI 4 ∧ M 110 3 = zI 7 ∧ M 110 4 = zI 3 ∧ M 110 5 = zI 7 ∧ M 110 6 = zI 4 ∧ M 110 7 = zI 3) ∧ (∀ j : Nat, j < 7 → M (100 + 0) j = zI ([25, 17, 11, 27, 19, 10, 26].getD j 0)) ∧ (∀ j : Nat, j < 4 → M (100 + 1) j = zI ([36, 4, 32, 0].getD j 0)) ∧ (∀ j : Nat, j < 4 → M (100 + 2) j = zI ([13, 37, 39, 45].getD j 0)) ∧ (∀ j : Nat, j < 7 → M (100 + 3) j = zI ([8, 24, 56, 16, 40, 48, 32].getD j 0)) ∧ (∀ j : Nat, j < 3 → M (100 + 4) j = zI ([41, 35, 33].getD j 0)) ∧ (∀ j : Nat, j < 7 → M (100 + 5) j = zI ([12, 44, 60, 20, 52, 18, 36].getD j 0)) ∧ (∀ j : Nat, j < 4 → M (100 + 6) j = zI ([8, 4, 2, 1].getD j 0)) ∧ ∀ j : Nat, j < 3 → M (100 + 7) j = zI ([4, 6, 7].getD j 0)
theorem TB_of {M M' : Mem} (h : TB M) (he : ∀ k, 100 ≤ k → M' k = M k) : TB M' := by
  unfold TB at h ⊢
  simp only [he 110 (by omega), he (100 + 0) (by omega), he (100 + 1) (by omega), he (100 + 2) (by omega), he (100 + 3) (by omega), he (100 + 4) (by omega), he (100 + 5) (by omega), he (100 + 6) (by omega), he (100 + 7) (by omega)]
  exact h
/-- how long an item lasts -/
def lenI (k s d : Int) : Int := [8, 4, 2, 1].getD k.toNat 0 * [4, 6, 7].getD d.toNat 0 * (if s = 0 then 16 else 1)
theorem lenI_pos {k s d : Int} (hk : 0 ≤ k ∧ k ≤ 3) (hd : 0 ≤ d ∧ d ≤ 2) : 4 ≤ lenI k s d ∧ lenI k s d ≤ 896 := by
  obtain ⟨k1, k2⟩ := hk
  obtain ⟨d1, d2⟩ := hd
  unfold lenI
  have hk : k = 0 ∨ k = 1 ∨ k = 2 ∨ k = 3 := by omega
  have hd : d = 0 ∨ d = 1 ∨ d = 2 := by omega
  by_cases hs : s = 0 <;> rcases hk with rfl | rfl | rfl | rfl <;> rcases hd with rfl | rfl | rfl <;> simp [hs]
theorem e_len {M : Mem} {Q : Int32 → Mem → Prop} {k s d : Int} (hT : TB M) (hk : 0 ≤ k ∧ k ≤ 3) (hs : -1 ≤ s ∧ s ≤ 2) (hd : 0 ≤ d ∧ d ≤ 2) (h : Q (zI (lenI k s d)) M) : w_X6_lengthOf (zI k) (zI s) (zI d) M Q := by
  obtain ⟨⟨-, -, -, -, -, -, t6, t7⟩, -, -, -, -, -, -, u6, u7⟩ := hT
  unfold w_X6_lengthOf
  simp (disch := omega) only [t6, t7, u6, u7, lz0, lz1, lz2, lz3, lz4, lz5, lz6, lz7, lz8, lz9, lz10, lz11, lz12, lz13, lz14, lz15, lz16, lz17, lz18, lz19, lz20, lz21, lz22, lz23, lz24, lz25, lz26, lz27, lz28, lz29, lz30, lz31, lz32, lz33, lz34, lz35, lz36, lz37, lz38, lz39, lz40, lz41, lz42, lz43, lz44, lz45, lz46, lz47, lz48, lz49, lz50, lz51, lz52, lz53, lz54, lz55, lz56, lz57, lz58, lz59, lz60, lz61, lz62, lz63, lz64, lz65, lz66, lz67, lz68, lz69, lz100, lz120, lz128, lz137, lz180, lz200, lz255, lz256, lz512, lz600, lz1000, lz1000000, lz1200, lz2048, lz2049, lz2400, lz4000, lz4800, zI_nI, zI_add, zI_sub, zI_mul, zI_neg, zI_lt, zI_le, zI_eq, zI_tn, zI_in]
  refine ⟨fun c => by omega, fun _ => ⟨fun c => by omega, fun _ => ⟨fun c => by omega, fun _ => ⟨fun _ => ⟨by omega, by omega, fun z hz => ?_⟩, fun c => by omega⟩⟩⟩⟩
  have e : z = zI (if s = 0 then 16 else 1) := by
    rw [hz]
    by_cases h0 : s = 0 <;> simp [h0]
  rw [e, zI_mul]
  exact h
theorem e_isPitch {M : Mem} {Q : Int32 → Mem → Prop} {a : Int} (ha : -1000 ≤ a ∧ a ≤ 1000) (h : Q (zI (if 7 ≤ a ∧ a ≤ 55 then 1 else 0)) M) : w_X6_isPitch (zI a) M Q := by
  unfold w_X6_isPitch
  simp (disch := omega) only [lz0, lz1, lz2, lz3, lz4, lz5, lz6, lz7, lz8, lz9, lz10, lz11, lz12, lz13, lz14, lz15, lz16, lz17, lz18, lz19, lz20, lz21, lz22, lz23, lz24, lz25, lz26, lz27, lz28, lz29, lz30, lz31, lz32, lz33, lz34, lz35, lz36, lz37, lz38, lz39, lz40, lz41, lz42, lz43, lz44, lz45, lz46, lz47, lz48, lz49, lz50, lz51, lz52, lz53, lz54, lz55, lz56, lz57, lz58, lz59, lz60, lz61, lz62, lz63, lz64, lz65, lz66, lz67, lz68, lz69, lz100, lz120, lz128, lz137, lz180, lz200, lz255, lz256, lz512, lz600, lz1000, lz1000000, lz1200, lz2048, lz2049, lz2400, lz4000, lz4800, zI_nI, zI_add, zI_sub, zI_mul, zI_neg, zI_lt, zI_le, zI_eq, zI_tn, zI_in]
  intro z hz
  have e : z = zI (if 7 ≤ a ∧ a ≤ 55 then 1 else 0) := by
    rw [hz]
    by_cases c1 : a < 7
    · rw [if_pos c1, if_neg (by omega)]
    · rw [if_neg c1]
      by_cases c2 : 55 < a
      · rw [if_pos c2, if_neg (by omega)]
      · rw [if_neg c2, if_pos (by omega)]
  subst e
  refine ⟨?_, h⟩
  by_cases c : 7 ≤ a ∧ a ≤ 55 <;> simp [c]
