theorem slotL_bd {S : Mus} {b v : Nat} (hv : MV S) (hb : b < gNb S) (hvv : v < gVo S b) : 0 ≤ slotL S (3 * b + v) ∧ slotL S (3 * b + v) ≤ 81920 := by
  have hr := hv.2.2.2.2.2.2.1 b v hb hvv
  have := sumF_le (f := lastG S) (a := gFo S (3 * b + v)) (lo := 0) (hi := 2048) (gSz S (3 * b + v)) (fun j hj => by
    have := lastG_pos hv (i := gFo S (3 * b + v) + j) (by omega)
    omega)
  unfold slotL
  omega
theorem e_isWhole {M : Mem} {m b v : Nat} {S : Mus} {Q : Int32 → Mem → Prop} (hT : TB M) (h : MW M m S) (hv : MV S) (hb : b < gNb S) (hvv : v < gVo S b) (hQ : Q (zI (if slotL S (3 * b + v) = gLen S then 1 else 0)) M) : w_X0_isWhole m (zI ((3 * b + v : Nat) : Int)) M Q := by
  have hl := hv.1
  have hs := slotL_bd hv hb hvv
  unfold w_X0_isWhole
  refine e_voiceLasts hT h hv hb hvv (fun z hz => ?_)
  simp (disch := omega) only [h.1, lz0, lz1, lz2, lz3, lz4, lz5, lz6, lz7, lz8, lz9, lz10, lz11, lz12, lz13, lz14, lz15, lz16, lz17, lz18, lz19, lz20, lz21, lz22, lz23, lz24, lz25, lz26, lz27, lz28, lz29, lz30, lz31, lz32, lz33, lz34, lz35, lz36, lz37, lz38, lz39, lz40, lz41, lz42, lz43, lz44, lz45, lz46, lz47, lz48, lz49, lz50, lz51, lz52, lz53, lz54, lz55, lz56, lz57, lz58, lz59, lz60, lz61, lz62, lz63, lz64, lz65, lz66, lz67, lz68, lz69, lz100, lz120, lz128, lz137, lz180, lz200, lz255, lz256, lz512, lz600, lz1000, lz1000000, lz1200, lz2048, lz2049, lz2400, lz4000, lz4800, zI_nI, zI_add, zI_sub, zI_mul, zI_neg, zI_lt, zI_le, zI_eq, zI_tn, zI_in] at hz
  by_cases c : slotL S (3 * b + v) = gLen S
  · rw [if_pos c] at hz hQ; subst hz; exact ⟨Or.inr rfl, hQ⟩
  · rw [if_neg c] at hz hQ; subst hz; exact ⟨Or.inl rfl, hQ⟩
/-- the last slot's bar and voice -/
theorem lastS_sp {S : Mus} (h : ¬ lastS S < 0) : gNb S - 1 < gNb S ∧ gVo S (gNb S - 1) - 1 < gVo S (gNb S - 1) ∧ lastS S = ((3 * (gNb S - 1) + (gVo S (gNb S - 1) - 1) : Nat) : Int) := by
  unfold lastS at h ⊢
  by_cases c : gNb S = 0 ∨ gVo S (gNb S - 1) = 0
  · rw [if_pos c] at h; omega
  · rw [if_neg c] at h ⊢; omega
def endsW (S : Mus) : Prop := lastS S < 0 ∨ slotL S (lastS S).toNat = gLen S
theorem lastS_bd {S : Mus} (hv : MV S) : -1 ≤ lastS S ∧ lastS S < 180 := by
  unfold lastS
  by_cases c : gNb S = 0 ∨ gVo S (gNb S - 1) = 0
  · rw [if_pos c]; omega
  · rw [if_neg c]
    have := hv.2.2.2.2.1 (gNb S - 1) (by omega)
    have := hv.2.2.1
    omega
theorem e_endsWhole {M : Mem} {m : Nat} {S : Mus} {Q : Int32 → Mem → Prop} (hT : TB M) (h : MW M m S) (hv : MV S) (h1 : endsW S → Q 1 M) (h0 : ¬ endsW S → Q 0 M) : w_X0_endsWhole m M Q := by
  unfold w_X0_endsWhole
  have hb := lastS_bd hv
  refine e_lastSlot h hv ⟨fun c => ?_, fun c => ?_⟩
  · simp (disch := omega) only [lz0, lz1, lz2, lz3, lz4, lz5, lz6, lz7, lz8, lz9, lz10, lz11, lz12, lz13, lz14, lz15, lz16, lz17, lz18, lz19, lz20, lz21, lz22, lz23, lz24, lz25, lz26, lz27, lz28, lz29, lz30, lz31, lz32, lz33, lz34, lz35, lz36, lz37, lz38, lz39, lz40, lz41, lz42, lz43, lz44, lz45, lz46, lz47, lz48, lz49, lz50, lz51, lz52, lz53, lz54, lz55, lz56, lz57, lz58, lz59, lz60, lz61, lz62, lz63, lz64, lz65, lz66, lz67, lz68, lz69, lz100, lz120, lz128, lz137, lz180, lz200, lz255, lz256, lz512, lz600, lz1000, lz1000000, lz1200, lz2048, lz2049, lz2400, lz4000, lz4800, zI_nI, zI_add, zI_sub, zI_mul, zI_neg, zI_lt, zI_le, zI_eq, zI_tn, zI_in] at c
    exact h1 (Or.inl c)
  · simp (disch := omega) only [lz0, lz1, lz2, lz3, lz4, lz5, lz6, lz7, lz8, lz9, lz10, lz11, lz12, lz13, lz14, lz15, lz16, lz17, lz18, lz19, lz20, lz21, lz22, lz23, lz24, lz25, lz26, lz27, lz28, lz29, lz30, lz31, lz32, lz33, lz34, lz35, lz36, lz37, lz38, lz39, lz40, lz41, lz42, lz43, lz44, lz45, lz46, lz47, lz48, lz49, lz50, lz51, lz52, lz53, lz54, lz55, lz56, lz57, lz58, lz59, lz60, lz61, lz62, lz63, lz64, lz65, lz66, lz67, lz68, lz69, lz100, lz120, lz128, lz137, lz180, lz200, lz255, lz256, lz512, lz600, lz1000, lz1000000, lz1200, lz2048, lz2049, lz2400, lz4000, lz4800, zI_nI, zI_add, zI_sub, zI_mul, zI_neg, zI_lt, zI_le, zI_eq, zI_tn, zI_in] at c
    obtain ⟨q1, q2, q3⟩ := lastS_sp c
    rw [q3]
    refine e_isWhole hT h hv q1 q2 (fun z hz => ?_)
    by_cases c2 : slotL S (3 * (gNb S - 1) + (gVo S (gNb S - 1) - 1)) = gLen S
    · rw [if_pos c2, if_neg (by decide)] at hz
      subst hz
      exact ⟨Or.inr rfl, h1 (Or.inr (by rw [q3]; exact c2))⟩
    · rw [if_neg c2, if_pos (by decide)] at hz
      subst hz
      refine ⟨Or.inl rfl, h0 ?_⟩
      intro q
      rcases q with q | q
      · omega
      · rw [q3] at q; exact c2 q
theorem e_isNote {M : Mem} {m i : Nat} {S : Mus} {Q : Int32 → Mem → Prop} (h : MW M m S) (hv : MV S) (hi : i < gNi S) (h1 : ¬ gIt S i 2 = 0 → Q 1 M) (h0 : gIt S i 2 = 0 → Q 0 M) : w_X0_isNote m (zI i) M Q := by
  have hw := (hv.2.2.2.2.2.1 i hi).2.2.1
  have hn := hv.2.2.2.1
  have e6 := MW_at h hi (a := 2) (by omega)
  unfold w_X0_isNote
  simp (disch := omega) only [tn_nat, e6, lz0, lz1, lz2, lz3, lz4, lz5, lz6, lz7, lz8, lz9, lz10, lz11, lz12, lz13, lz14, lz15, lz16, lz17, lz18, lz19, lz20, lz21, lz22, lz23, lz24, lz25, lz26, lz27, lz28, lz29, lz30, lz31, lz32, lz33, lz34, lz35, lz36, lz37, lz38, lz39, lz40, lz41, lz42, lz43, lz44, lz45, lz46, lz47, lz48, lz49, lz50, lz51, lz52, lz53, lz54, lz55, lz56, lz57, lz58, lz59, lz60, lz61, lz62, lz63, lz64, lz65, lz66, lz67, lz68, lz69, lz100, lz120, lz128, lz137, lz180, lz200, lz255, lz256, lz512, lz600, lz1000, lz1000000, lz1200, lz2048, lz2049, lz2400, lz4000, lz4800, zI_nI, zI_add, zI_sub, zI_mul, zI_neg, zI_lt, zI_le, zI_eq, zI_tn, zI_in]
  refine ⟨by omega, fun z hz => ?_⟩
  by_cases c : gIt S i 2 = 0
  · rw [if_pos c] at hz; subst hz; exact ⟨Or.inl rfl, h0 c⟩
  · rw [if_neg c] at hz; subst hz; exact ⟨Or.inr rfl, h1 c⟩
theorem e_intervalAt {M : Mem} {m i : Nat} {k : Int} {S : Mus} {Q : Int32 → Mem → Prop} (h : MW M m S) (hv : MV S) (hi : i < gNi S) (hk : -1000 ≤ k ∧ k ≤ 1000) (hQ : Q (zI (if 0 ≤ k ∧ k < gIt S i 9 then gIt S i (10 + k.toNat) else 0)) M) : w_X0_intervalAt m (zI i) (zI k) M Q := by
  have hw := (hv.2.2.2.2.2.1 i hi).2.2.2.2.2.2.2.2.2
  have hn := hv.2.2.2.1
  have e9 := MW_at h hi (a := 9) (by omega)
  unfold w_X0_intervalAt
  simp (disch := omega) only [tn_nat, e9, lz0, lz1, lz2, lz3, lz4, lz5, lz6, lz7, lz8, lz9, lz10, lz11, lz12, lz13, lz14, lz15, lz16, lz17, lz18, lz19, lz20, lz21, lz22, lz23, lz24, lz25, lz26, lz27, lz28, lz29, lz30, lz31, lz32, lz33, lz34, lz35, lz36, lz37, lz38, lz39, lz40, lz41, lz42, lz43, lz44, lz45, lz46, lz47, lz48, lz49, lz50, lz51, lz52, lz53, lz54, lz55, lz56, lz57, lz58, lz59, lz60, lz61, lz62, lz63, lz64, lz65, lz66, lz67, lz68, lz69, lz100, lz120, lz128, lz137, lz180, lz200, lz255, lz256, lz512, lz600, lz1000, lz1000000, lz1200, lz2048, lz2049, lz2400, lz4000, lz4800, zI_nI, zI_add, zI_sub, zI_mul, zI_neg, zI_lt, zI_le, zI_eq, zI_tn, zI_in]
  refine ⟨⟨fun _ => trivial, fun c => ⟨by omega, fun _ => trivial, fun c2 => ⟨by omega, trivial⟩⟩⟩, fun z hz => ?_⟩
  have : z = zI (if 0 ≤ k ∧ k < gIt S i 9 then gIt S i (10 + k.toNat) else 0) := by
    rw [hz]
    by_cases c1 : k < 0
    · rw [if_pos c1, if_neg (by omega)]
    · rw [if_neg c1]
      by_cases c2 : gIt S i 9 ≤ k
      · rw [if_pos c2, if_neg (by omega)]
      · rw [if_neg c2, if_pos (by omega)]
        have e := h.2.2.2.2.2.2.2 i k.toNat hi (by omega)
        rw [← e, show ((i : Int) * 4 + k).toNat = 4 * i + k.toNat by omega]
  rw [this]
  exact hQ
theorem e_intervalPitch {M : Mem} {m i : Nat} {n hd : Int} {S : Mus} {Q : Int32 → Mem → Prop} (h : MW M m S) (hv : MV S) (hi : i < gNi S) (hn : -1000 ≤ n ∧ n ≤ 1000) (hh : 0 ≤ hd ∧ hd ≤ 2) (hQ : Q (zI (if hd = 2 then gIt S i 2 + n - 1 else gIt S i 2 - n + 1)) M) : w_X0_intervalPitch m (zI i) (zI n) (zI hd) M Q := by
  have hni := hv.2.2.2.1
  have e6 := MW_at h hi (a := 2) (by omega)
  unfold w_X0_intervalPitch
  simp (disch := omega) only [tn_nat, e6, lz0, lz1, lz2, lz3, lz4, lz5, lz6, lz7, lz8, lz9, lz10, lz11, lz12, lz13, lz14, lz15, lz16, lz17, lz18, lz19, lz20, lz21, lz22, lz23, lz24, lz25, lz26, lz27, lz28, lz29, lz30, lz31, lz32, lz33, lz34, lz35, lz36, lz37, lz38, lz39, lz40, lz41, lz42, lz43, lz44, lz45, lz46, lz47, lz48, lz49, lz50, lz51, lz52, lz53, lz54, lz55, lz56, lz57, lz58, lz59, lz60, lz61, lz62, lz63, lz64, lz65, lz66, lz67, lz68, lz69, lz100, lz120, lz128, lz137, lz180, lz200, lz255, lz256, lz512, lz600, lz1000, lz1000000, lz1200, lz2048, lz2049, lz2400, lz4000, lz4800, zI_nI, zI_add, zI_sub, zI_mul, zI_neg, zI_lt, zI_le, zI_eq, zI_tn, zI_in]
  refine ⟨⟨fun _ => ⟨by omega, trivial⟩, fun _ => ⟨by omega, trivial⟩⟩, fun z hz => ?_⟩
  have : z = zI (if hd = 2 then gIt S i 2 + n - 1 else gIt S i 2 - n + 1) := by
    rw [hz]
    by_cases c : hd = 2
    · rw [if_pos c, if_pos c]
    · rw [if_neg c, if_neg c]
  rw [this]
  exact hQ
/-- items of a bar -/
def barN (S : Mus) (b : Nat) : Int := sumF (fun v => (gSz S (3 * b + v) : Int)) 0 (gVo S b)
theorem e_itemsOfBar {M : Mem} {m b : Nat} {S : Mus} {Q : Int32 → Mem → Prop} (h : MW M m S) (hv : MV S) (hb : b < gNb S) (hQ : Q (zI (barN S b)) M) : w_X0_itemsOfBar m (zI b) M Q := by
  have hnb := hv.2.2.1
  have hvo := hv.2.2.2.2.1 b hb
  have e1 := h.2.2.2.2.1 b hb
  refine ⟨gVo S b + 1, ?_⟩
  have key : ∀ (k j : Nat), j ≤ gVo S b → gVo S b - j < k → w_X0_itemsOfBar_4 m Q k (zI b) (zI (sumF (fun v => (gSz S (3 * b + v) : Int)) 0 j)) (zI j) M := by
    intro k
    induction k with
    | zero => intro j h1 h2; omega
    | succ k ih =>
      intro j hj hk
      show wb_X0_itemsOfBar_4 m Q (w_X0_itemsOfBar_4 m Q k) _ _ _ M
      unfold wb_X0_itemsOfBar_4
      simp (disch := omega) only [tn_nat, e1, lz0, lz1, lz2, lz3, lz4, lz5, lz6, lz7, lz8, lz9, lz10, lz11, lz12, lz13, lz14, lz15, lz16, lz17, lz18, lz19, lz20, lz21, lz22, lz23, lz24, lz25, lz26, lz27, lz28, lz29, lz30, lz31, lz32, lz33, lz34, lz35, lz36, lz37, lz38, lz39, lz40, lz41, lz42, lz43, lz44, lz45, lz46, lz47, lz48, lz49, lz50, lz51, lz52, lz53, lz54, lz55, lz56, lz57, lz58, lz59, lz60, lz61, lz62, lz63, lz64, lz65, lz66, lz67, lz68, lz69, lz100, lz120, lz128, lz137, lz180, lz200, lz255, lz256, lz512, lz600, lz1000, lz1000000, lz1200, lz2048, lz2049, lz2400, lz4000, lz4800, zI_nI, zI_add, zI_sub, zI_mul, zI_neg, zI_lt, zI_le, zI_eq, zI_tn, zI_in]
      refine ⟨by omega, fun c => ?_, fun c => ⟨by omega, fun x3 e3 x4 e4 => ?_⟩⟩
      · have : j = gVo S b := by omega
        subst this
        exact hQ
      · have e5 := (h.2.2.2.2.2.1 b j hb (by omega)).2
        rw [show ((b : Int) * 3 + (j : Int)).toNat = 3 * b + j by omega, e5, zI_add] at e3
        have e3' : x3 = zI (sumF (fun v => (gSz S (3 * b + v) : Int)) 0 (j + 1)) := by
          rw [e3]
          simp [sumF]
        have e4' : x4 = zI ((j + 1 : Nat) : Int) := by rw [e4]; congr 1
        subst e3' e4'
        exact ih (j + 1) (by omega) (by omega)
  exact key _ 0 (by omega) (by omega)
theorem e_slotOf {M : Mem} {m : Nat} {p1 p2 : Int32} {S : Mus} {Q : Int32 → Mem → Prop} (h : MW M m S) (hv : MV S) (h1 : ∀ b v : Nat, p1 = zI b → p2 = zI v → b < gNb S → v < gVo S b → Q (zI ((3 * b + v : Nat) : Int)) M) (h0 : (∀ b v : Nat, p1 = zI b → p2 = zI v → b < gNb S → v < gVo S b → False) → Q (-1) M) : w_X0_slotOf m p1 p2 M Q := by
  obtain ⟨a, rfl, a1, a2⟩ := zI_ex p1
  obtain ⟨c, rfl, c1, c2⟩ := zI_ex p2
  have hnb := hv.2.2.1
  have no : (a < 0 ∨ (gNb S : Int) ≤ a ∨ c < 0 ∨ (0 ≤ a ∧ a < gNb S ∧ (gVo S a.toNat : Int) ≤ c)) → Q (-1) M := by
    intro q
    refine h0 (fun b v e1 e2 g1 g2 => ?_)
    have g3 := hv.2.2.2.2.1 b g1
    rw [zI_eq (by omega) (by omega) (by omega) (by omega)] at e1 e2
    subst e1 e2
    rcases q with q | q | q | ⟨q1, q2, q3⟩
    · omega
    · omega
    · omega
    · simp only [tn_nat] at q3
      omega
  unfold w_X0_slotOf
  simp (disch := omega) only [h.2.2.1, lz0, lz1, lz2, lz3, lz4, lz5, lz6, lz7, lz8, lz9, lz10, lz11, lz12, lz13, lz14, lz15, lz16, lz17, lz18, lz19, lz20, lz21, lz22, lz23, lz24, lz25, lz26, lz27, lz28, lz29, lz30, lz31, lz32, lz33, lz34, lz35, lz36, lz37, lz38, lz39, lz40, lz41, lz42, lz43, lz44, lz45, lz46, lz47, lz48, lz49, lz50, lz51, lz52, lz53, lz54, lz55, lz56, lz57, lz58, lz59, lz60, lz61, lz62, lz63, lz64, lz65, lz66, lz67, lz68, lz69, lz100, lz120, lz128, lz137, lz180, lz200, lz255, lz256, lz512, lz600, lz1000, lz1000000, lz1200, lz2048, lz2049, lz2400, lz4000, lz4800, zI_nI, zI_add, zI_sub, zI_mul, zI_neg, zI_lt, zI_le, zI_eq, zI_tn, zI_in]
  have no2 := no
  rw [show (-1 : Int32) = zI (-1) by decide +kernel] at no2
  refine ⟨fun q => no2 (Or.inl q), fun q1 => ⟨fun q => no2 (Or.inr (Or.inl q)), fun q2 => ⟨fun q => no2 (Or.inr (Or.inr (Or.inl q))), fun q3 => ?_⟩⟩⟩
  have e := h.2.2.2.2.1 a.toNat (by omega)
  have hvo := hv.2.2.2.2.1 a.toNat (by omega)
  simp (disch := omega) only [e, lz0, lz1, lz2, lz3, lz4, lz5, lz6, lz7, lz8, lz9, lz10, lz11, lz12, lz13, lz14, lz15, lz16, lz17, lz18, lz19, lz20, lz21, lz22, lz23, lz24, lz25, lz26, lz27, lz28, lz29, lz30, lz31, lz32, lz33, lz34, lz35, lz36, lz37, lz38, lz39, lz40, lz41, lz42, lz43, lz44, lz45, lz46, lz47, lz48, lz49, lz50, lz51, lz52, lz53, lz54, lz55, lz56, lz57, lz58, lz59, lz60, lz61, lz62, lz63, lz64, lz65, lz66, lz67, lz68, lz69, lz100, lz120, lz128, lz137, lz180, lz200, lz255, lz256, lz512, lz600, lz1000, lz1000000, lz1200, lz2048, lz2049, lz2400, lz4000, lz4800, zI_nI, zI_add, zI_sub, zI_mul, zI_neg, zI_lt, zI_le, zI_eq, zI_tn, zI_in]
  refine ⟨by omega, fun q => ?_, fun q => no2 (Or.inr (Or.inr (Or.inr ⟨by omega, by omega, by omega⟩)))⟩
  have := h1 a.toNat c.toNat (by rw [show ((a.toNat : Nat) : Int) = a by omega]) (by rw [show ((c.toNat : Nat) : Int) = c by omega]) (by omega) (by omega)
  rw [show ((3 * a.toNat + c.toNat : Nat) : Int) = a * 3 + c by omega] at this
  exact this
theorem e_isLone {M : Mem} {m b v : Nat} {S : Mus} {Q : Int32 → Mem → Prop} (h : MW M m S) (hv : MV S) (hb : b < gNb S) (hvv : v < gVo S b) (h1 : (gSz S (3 * b + v) = 1 ∧ gIt S (gFo S (3 * b + v)) 2 = 0 ∧ gIt S (gFo S (3 * b + v)) 4 = 0 ∧ gIt S (gFo S (3 * b + v)) 6 = 0) → Q 1 M) (h0 : ¬ (gSz S (3 * b + v) = 1 ∧ gIt S (gFo S (3 * b + v)) 2 = 0 ∧ gIt S (gFo S (3 * b + v)) 4 = 0 ∧ gIt S (gFo S (3 * b + v)) 6 = 0) → Q 0 M) : w_X0_isLoneWholeRest m (zI ((3 * b + v : Nat) : Int)) M Q := by
  have hs := h.2.2.2.2.2.1 b v hb hvv
  have hr := hv.2.2.2.2.2.2.1 b v hb hvv
  have hb3 := hv.2.2.2.2.1 b hb
  have hnb := hv.2.2.1
  have hni := hv.2.2.2.1
  unfold w_X0_isLoneWholeRest
  simp (disch := omega) only [tn_nat, hs.1, hs.2, lz0, lz1, lz2, lz3, lz4, lz5, lz6, lz7, lz8, lz9, lz10, lz11, lz12, lz13, lz14, lz15, lz16, lz17, lz18, lz19, lz20, lz21, lz22, lz23, lz24, lz25, lz26, lz27, lz28, lz29, lz30, lz31, lz32, lz33, lz34, lz35, lz36, lz37, lz38, lz39, lz40, lz41, lz42, lz43, lz44, lz45, lz46, lz47, lz48, lz49, lz50, lz51, lz52, lz53, lz54, lz55, lz56, lz57, lz58, lz59, lz60, lz61, lz62, lz63, lz64, lz65, lz66, lz67, lz68, lz69, lz100, lz120, lz128, lz137, lz180, lz200, lz255, lz256, lz512, lz600, lz1000, lz1000000, lz1200, lz2048, lz2049, lz2400, lz4000, lz4800, zI_nI, zI_add, zI_sub, zI_mul, zI_neg, zI_lt, zI_le, zI_eq, zI_tn, zI_in]
  refine ⟨by omega, fun x hx => ⟨by omega, fun c => h0 (by omega), fun c => ?_⟩⟩
  subst hx
  have hi : gFo S (3 * b + v) < gNi S := by omega
  have hw := hv.2.2.2.2.2.1 _ hi
  have e8 := MW_at h hi (a := 4) (by omega)
  have e10 := MW_at h hi (a := 6) (by omega)
  obtain ⟨-, -, -, -, w4, w5, w6, -⟩ := hw
  refine e_isNote h hv hi (fun c2 => ?_) (fun c2 => ?_)
  · refine ⟨⟨fun _ => trivial, fun q => absurd q (by decide)⟩, fun z hz => ?_⟩
    rw [if_neg (by decide)] at hz
    subst hz
    exact ⟨Or.inl rfl, h0 (fun q => c2 q.2.1)⟩
  · simp (disch := omega) only [tn_nat, e8, e10, lz0, lz1, lz2, lz3, lz4, lz5, lz6, lz7, lz8, lz9, lz10, lz11, lz12, lz13, lz14, lz15, lz16, lz17, lz18, lz19, lz20, lz21, lz22, lz23, lz24, lz25, lz26, lz27, lz28, lz29, lz30, lz31, lz32, lz33, lz34, lz35, lz36, lz37, lz38, lz39, lz40, lz41, lz42, lz43, lz44, lz45, lz46, lz47, lz48, lz49, lz50, lz51, lz52, lz53, lz54, lz55, lz56, lz57, lz58, lz59, lz60, lz61, lz62, lz63, lz64, lz65, lz66, lz67, lz68, lz69, lz100, lz120, lz128, lz137, lz180, lz200, lz255, lz256, lz512, lz600, lz1000, lz1000000, lz1200, lz2048, lz2049, lz2400, lz4000, lz4800, zI_nI, zI_add, zI_sub, zI_mul, zI_neg, zI_lt, zI_le, zI_eq, zI_tn, zI_in]
    refine ⟨⟨fun _ => trivial, fun _ => ⟨by omega, fun _ => trivial, fun _ => ⟨by omega, fun _ => trivial, fun _ => trivial⟩⟩⟩, fun z hz => ?_⟩
    rw [if_pos trivial] at hz
    by_cases c3 : gIt S (gFo S (3 * b + v)) 4 = 0
    · rw [if_pos c3] at hz
      by_cases c4 : gIt S (gFo S (3 * b + v)) 6 = 0
      · rw [if_pos c4] at hz; subst hz; exact ⟨Or.inr rfl, h1 ⟨by omega, c2, c3, c4⟩⟩
      · rw [if_neg c4] at hz; subst hz; exact ⟨Or.inl rfl, h0 (fun q => c4 q.2.2.2)⟩
    · rw [if_neg c3] at hz; subst hz; exact ⟨Or.inl rfl, h0 (fun q => c3 q.2.2.1)⟩
