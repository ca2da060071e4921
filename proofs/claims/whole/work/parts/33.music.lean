/-! A MUSIC as a value: length, hand, bars, items, voices of a bar, items' numbers (0 bar, 1 voice, 2 pitch or 0, 3 sign, 4 kind, 5 size, 6 dots, 7 tied, 8 slurred, 9 many, 10.. intervals), first and count of a slot -/
abbrev Mus : Type := Int × Int × Nat × Nat × (Nat → Nat) × (Nat → Nat → Int) × (Nat → Nat) × (Nat → Nat)
def gLen (S : Mus) : Int := S.1
def gHd (S : Mus) : Int := S.2.1
def gNb (S : Mus) : Nat := S.2.2.1
def gNi (S : Mus) : Nat := S.2.2.2.1
def gVo (S : Mus) : Nat → Nat := S.2.2.2.2.1
def gIt (S : Mus) : Nat → Nat → Int := S.2.2.2.2.2.1
def gFo (S : Mus) : Nat → Nat := S.2.2.2.2.2.2.1
def gSz (S : Mus) : Nat → Nat := S.2.2.2.2.2.2.2
/-- the class's Music object at m holds S -/
def MW (M : Mem) (m : Nat) (S : Mus) : Prop :=
  M m 0 = zI (gLen S) ∧ M m 1 = zI (gHd S) ∧ M m 2 = zI (gNb S) ∧ M m 3 = zI (gNi S) ∧
  (∀ b : Nat, b < gNb S → M (m + 1) b = zI (gVo S b)) ∧
  (∀ b v : Nat, b < gNb S → v < gVo S b → M (m + 2) (3 * b + v) = zI (gFo S (3 * b + v)) ∧ M (m + 3) (3 * b + v) = zI (gSz S (3 * b + v))) ∧
  (∀ i a : Nat, i < gNi S → a < 10 → M (m + 4 + a) i = zI (gIt S i a)) ∧
  ∀ i k : Nat, i < gNi S → (k : Int) < gIt S i 9 → M (m + 14) (4 * i + k) = zI (gIt S i (10 + k))
/-- an item's numbers -/
def IV (S : Mus) (i : Nat) : Prop :=
  (0 ≤ gIt S i 0 ∧ gIt S i 0 < gNb S) ∧ (0 ≤ gIt S i 1 ∧ gIt S i 1 < gVo S (gIt S i 0).toNat) ∧ (gIt S i 2 = 0 ∨ (7 ≤ gIt S i 2 ∧ gIt S i 2 ≤ 55)) ∧ (0 ≤ gIt S i 3 ∧ gIt S i 3 ≤ 3) ∧ (0 ≤ gIt S i 4 ∧ gIt S i 4 ≤ 3) ∧ (-1 ≤ gIt S i 5 ∧ gIt S i 5 ≤ 2) ∧ (0 ≤ gIt S i 6 ∧ gIt S i 6 ≤ 2) ∧ (gIt S i 7 = 0 ∨ gIt S i 7 = 1) ∧ (gIt S i 8 = 0 ∨ gIt S i 8 = 1) ∧ (0 ≤ gIt S i 9 ∧ gIt S i 9 ≤ 4) ∧ ∀ k : Nat, (k : Int) < gIt S i 9 → ∃ n s : Int, gIt S i (10 + k) = n + 16 * s ∧ 2 ≤ n ∧ n ≤ 8 ∧ 0 ≤ s ∧ s ≤ 3
/-- a music that is in order -/
def MV (S : Mus) : Prop :=
  (1 ≤ gLen S ∧ gLen S ≤ 2048) ∧ (0 ≤ gHd S ∧ gHd S ≤ 2) ∧ gNb S ≤ 60 ∧ gNi S ≤ 600 ∧ (∀ b : Nat, b < gNb S → gVo S b ≤ 3) ∧ (∀ i : Nat, i < gNi S → IV S i) ∧
  (∀ b v : Nat, b < gNb S → v < gVo S b → gFo S (3 * b + v) + gSz S (3 * b + v) ≤ gNi S ∧ gSz S (3 * b + v) ≤ 40 ∧ ∀ i : Nat, i < gNi S → ((gIt S i 0 = b ∧ gIt S i 1 = v) ↔ (gFo S (3 * b + v) ≤ i ∧ i < gFo S (3 * b + v) + gSz S (3 * b + v)))) ∧
  (0 < gNb S → 0 < gVo S (gNb S - 1) → gFo S (3 * (gNb S - 1) + (gVo S (gNb S - 1) - 1)) + gSz S (3 * (gNb S - 1) + (gVo S (gNb S - 1) - 1)) = gNi S)
theorem MW_at {M : Mem} {m i a : Nat} {S : Mus} (h : MW M m S) (hi : i < gNi S) (ha : a < 10) : M (m + 4 + a) i = zI (gIt S i a) := h.2.2.2.2.2.2.1 i a hi ha
/-- the last slot, -1 without -/
def lastS (S : Mus) : Int := if gNb S = 0 ∨ gVo S (gNb S - 1) = 0 then -1 else 3 * ((gNb S : Int) - 1) + (gVo S (gNb S - 1) : Int) - 1
theorem e_lastSlot {M : Mem} {m : Nat} {S : Mus} {Q : Int32 → Mem → Prop} (h : MW M m S) (hv : MV S) (hQ : Q (zI (lastS S)) M) : w_X0_lastSlot m M Q := by
  obtain ⟨h0, h1, h2, h3, h4, h5, h6, h7⟩ := h
  obtain ⟨v1, v2, v3, v4, v5, v6, v7, v8⟩ := hv
  unfold w_X0_lastSlot
  intro x hx
  rw [h2, lz1, zI_sub] at hx
  subst hx
  by_cases c : gNb S = 0
  · simp (disch := omega) only [c, lz0, lz1, lz2, lz3, lz4, lz5, lz6, lz7, lz8, lz9, lz10, lz11, lz12, lz13, lz14, lz15, lz16, lz17, lz18, lz19, lz20, lz21, lz22, lz23, lz24, lz25, lz26, lz27, lz28, lz29, lz30, lz31, lz32, lz33, lz34, lz35, lz36, lz37, lz38, lz39, lz40, lz41, lz42, lz43, lz44, lz45, lz46, lz47, lz48, lz49, lz50, lz51, lz52, lz53, lz54, lz55, lz56, lz57, lz58, lz59, lz60, lz61, lz62, lz63, lz64, lz65, lz66, lz67, lz68, lz69, lz100, lz120, lz128, lz137, lz180, lz200, lz255, lz256, lz512, lz600, lz1000, lz1000000, lz1200, lz2048, lz2049, lz2400, lz4000, lz4800, zI_nI, zI_add, zI_sub, zI_mul, zI_neg, zI_lt, zI_le, zI_eq, zI_tn, zI_in]
    refine ⟨⟨fun _ => trivial, fun q => absurd q (by decide)⟩, fun z hz => ?_⟩
    rw [if_pos (by decide)] at hz
    subst hz
    unfold lastS at hQ
    rw [if_pos (Or.inl c)] at hQ
    exact hQ
  · have e1 : ((gNb S : Int) - 1).toNat = gNb S - 1 := by omega
    have e2 := h4 (gNb S - 1) (by omega)
    have e3 := v5 (gNb S - 1) (by omega)
    simp (disch := omega) only [e1, e2, lz0, lz1, lz2, lz3, lz4, lz5, lz6, lz7, lz8, lz9, lz10, lz11, lz12, lz13, lz14, lz15, lz16, lz17, lz18, lz19, lz20, lz21, lz22, lz23, lz24, lz25, lz26, lz27, lz28, lz29, lz30, lz31, lz32, lz33, lz34, lz35, lz36, lz37, lz38, lz39, lz40, lz41, lz42, lz43, lz44, lz45, lz46, lz47, lz48, lz49, lz50, lz51, lz52, lz53, lz54, lz55, lz56, lz57, lz58, lz59, lz60, lz61, lz62, lz63, lz64, lz65, lz66, lz67, lz68, lz69, lz100, lz120, lz128, lz137, lz180, lz200, lz255, lz256, lz512, lz600, lz1000, lz1000000, lz1200, lz2048, lz2049, lz2400, lz4000, lz4800, zI_nI, zI_add, zI_sub, zI_mul, zI_neg, zI_lt, zI_le, zI_eq, zI_tn, zI_in]
    refine ⟨⟨fun _ => trivial, fun _ => ⟨by omega, fun _ => ⟨by omega, trivial⟩, fun _ => trivial⟩⟩, fun z hz => ?_⟩
    have : z = zI (lastS S) := by
      rw [hz, if_neg (by omega)]
      unfold lastS
      by_cases c2 : gVo S (gNb S - 1) = 0
      · rw [if_pos (by omega), if_pos (Or.inr c2)]
      · rw [if_neg (by omega), if_neg (by omega)]
        congr 1
        omega
    rw [this]
    exact hQ
/-- how long an item lasts; a slot's items together -/
def lastG (S : Mus) (i : Nat) : Int := if gIt S i 5 = 2 then gLen S else lenI (gIt S i 4) (gIt S i 5) (gIt S i 6)
def sumF (f : Nat → Int) (a : Nat) : Nat → Int
  | 0 => 0
  | n + 1 => sumF f a n + f (a + n)
def slotL (S : Mus) (s : Nat) : Int := sumF (lastG S) (gFo S s) (gSz S s)
theorem lastG_pos {S : Mus} {i : Nat} (hv : MV S) (hi : i < gNi S) : 1 ≤ lastG S i ∧ lastG S i ≤ 2048 := by
  have h := hv.2.2.2.2.2.1 i hi
  unfold lastG
  by_cases c : gIt S i 5 = 2
  · rw [if_pos c]; exact hv.1
  · rw [if_neg c]
    have := lenI_pos (s := gIt S i 5) h.2.2.2.2.1 h.2.2.2.2.2.2.1
    omega
theorem sumF_le {f : Nat → Int} {a : Nat} {lo hi : Int} : ∀ n : Nat, (∀ j : Nat, j < n → lo ≤ f (a + j) ∧ f (a + j) ≤ hi) → lo * n ≤ sumF f a n ∧ sumF f a n ≤ hi * n
  | 0, _ => by simp [sumF]
  | n + 1, h => by
    have ih := sumF_le (f := f) (a := a) (lo := lo) (hi := hi) n (fun j hj => h j (by omega))
    have h1 := h n (by omega)
    unfold sumF
    have e1 : lo * ((n + 1 : Nat) : Int) = lo * n + lo := by push_cast; rw [Int.mul_add]; omega
    have e2 : hi * ((n + 1 : Nat) : Int) = hi * n + hi := by push_cast; rw [Int.mul_add]; omega
    omega
theorem e_lasts {M : Mem} {m i : Nat} {S : Mus} {Q : Int32 → Mem → Prop} (hT : TB M) (h : MW M m S) (hv : MV S) (hi : i < gNi S) (hQ : Q (zI (lastG S i)) M) : w_X0_lasts m (zI i) M Q := by
  have hw := hv.2.2.2.2.2.1 i hi
  have hn := hv.2.2.2.1
  have e8 := MW_at h hi (a := 4) (by omega)
  have e9 := MW_at h hi (a := 5) (by omega)
  have e10 := MW_at h hi (a := 6) (by omega)
  unfold w_X0_lasts
  obtain ⟨-, -, -, -, w4, w5, w6, -⟩ := hw
  simp (disch := omega) only [tn_nat, e8, e9, e10, h.1, lz0, lz1, lz2, lz3, lz4, lz5, lz6, lz7, lz8, lz9, lz10, lz11, lz12, lz13, lz14, lz15, lz16, lz17, lz18, lz19, lz20, lz21, lz22, lz23, lz24, lz25, lz26, lz27, lz28, lz29, lz30, lz31, lz32, lz33, lz34, lz35, lz36, lz37, lz38, lz39, lz40, lz41, lz42, lz43, lz44, lz45, lz46, lz47, lz48, lz49, lz50, lz51, lz52, lz53, lz54, lz55, lz56, lz57, lz58, lz59, lz60, lz61, lz62, lz63, lz64, lz65, lz66, lz67, lz68, lz69, lz100, lz120, lz128, lz137, lz180, lz200, lz255, lz256, lz512, lz600, lz1000, lz1000000, lz1200, lz2048, lz2049, lz2400, lz4000, lz4800, zI_nI, zI_add, zI_sub, zI_mul, zI_neg, zI_lt, zI_le, zI_eq, zI_tn, zI_in]
  unfold lastG at hQ
  refine ⟨by omega, fun c => ⟨by omega, by omega, by omega, e_len hT w4 w5 w6 ?_⟩, fun c => ?_⟩
  · rw [if_neg c] at hQ; exact hQ
  · rw [if_pos c] at hQ; exact hQ
theorem e_voiceLasts {M : Mem} {m b v : Nat} {S : Mus} {Q : Int32 → Mem → Prop} (hT : TB M) (h : MW M m S) (hv : MV S) (hb : b < gNb S) (hvv : v < gVo S b) (hQ : Q (zI (slotL S (3 * b + v))) M) : w_X0_voiceLasts m (zI ((3 * b + v : Nat) : Int)) M Q := by
  have hs := h.2.2.2.2.2.1 b v hb hvv
  have hr := hv.2.2.2.2.2.2.1 b v hb hvv
  have hb3 := hv.2.2.2.2.1 b hb
  have hnb := hv.2.2.1
  have hni := hv.2.2.2.1
  unfold w_X0_voiceLasts
  simp (disch := omega) only [tn_nat, hs.1, lz0, lz1, lz2, lz3, lz4, lz5, lz6, lz7, lz8, lz9, lz10, lz11, lz12, lz13, lz14, lz15, lz16, lz17, lz18, lz19, lz20, lz21, lz22, lz23, lz24, lz25, lz26, lz27, lz28, lz29, lz30, lz31, lz32, lz33, lz34, lz35, lz36, lz37, lz38, lz39, lz40, lz41, lz42, lz43, lz44, lz45, lz46, lz47, lz48, lz49, lz50, lz51, lz52, lz53, lz54, lz55, lz56, lz57, lz58, lz59, lz60, lz61, lz62, lz63, lz64, lz65, lz66, lz67, lz68, lz69, lz100, lz120, lz128, lz137, lz180, lz200, lz255, lz256, lz512, lz600, lz1000, lz1000000, lz1200, lz2048, lz2049, lz2400, lz4000, lz4800, zI_nI, zI_add, zI_sub, zI_mul, zI_neg, zI_lt, zI_le, zI_eq, zI_tn, zI_in]
  refine ⟨by omega, fun x hx => ⟨gSz S (3 * b + v) + 1, ?_⟩⟩
  subst hx
  have key : ∀ (k j : Nat), j ≤ gSz S (3 * b + v) → gSz S (3 * b + v) - j < k → w_X0_voiceLasts_9 m Q k (zI ((3 * b + v : Nat) : Int)) (zI (sumF (lastG S) (gFo S (3 * b + v)) j)) (zI ((gFo S (3 * b + v) + j : Nat) : Int)) M := by
    intro k
    induction k with
    | zero => intro j h1 h2; omega
    | succ k ih =>
      intro j hj hk
      show wb_X0_voiceLasts_9 m Q (w_X0_voiceLasts_9 m Q k) _ _ _ M
      unfold wb_X0_voiceLasts_9
      simp (disch := omega) only [tn_nat, hs.1, hs.2, lz0, lz1, lz2, lz3, lz4, lz5, lz6, lz7, lz8, lz9, lz10, lz11, lz12, lz13, lz14, lz15, lz16, lz17, lz18, lz19, lz20, lz21, lz22, lz23, lz24, lz25, lz26, lz27, lz28, lz29, lz30, lz31, lz32, lz33, lz34, lz35, lz36, lz37, lz38, lz39, lz40, lz41, lz42, lz43, lz44, lz45, lz46, lz47, lz48, lz49, lz50, lz51, lz52, lz53, lz54, lz55, lz56, lz57, lz58, lz59, lz60, lz61, lz62, lz63, lz64, lz65, lz66, lz67, lz68, lz69, lz100, lz120, lz128, lz137, lz180, lz200, lz255, lz256, lz512, lz600, lz1000, lz1000000, lz1200, lz2048, lz2049, lz2400, lz4000, lz4800, zI_nI, zI_add, zI_sub, zI_mul, zI_neg, zI_lt, zI_le, zI_eq, zI_tn, zI_in]
      refine ⟨by omega, by omega, fun c => ?_, fun c => ?_⟩
      · have : j = gSz S (3 * b + v) := by omega
        subst this
        exact hQ
      · refine e_lasts hT h hv (by omega) (fun x7 e7 x8 e8 => ?_)
        rw [zI_add] at e7
        subst e7
        have e8' : x8 = zI ((gFo S (3 * b + v) + (j + 1) : Nat) : Int) := by rw [e8]; congr 1
        subst e8'
        exact ih (j + 1) (by omega) (by omega)
  exact key _ 0 (by omega) (by omega)
