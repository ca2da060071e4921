theorem mset_at {M : Mem} {k j : Nat} {x : Int32} : mset M k j x k j = x := by simp [mset, upd]
theorem mset_j {M : Mem} {k j b : Nat} {x : Int32} (h : b ≠ j) : mset M k j x k b = M k b := by simp [mset, upd, h]
theorem mset_g {M : Mem} {k j a b : Nat} {x : Int32} : mset M k j x a b = if a = k ∧ b = j then x else M a b := by
  by_cases h : a = k
  · subst h
    by_cases h2 : b = j
    · subst h2; simp [mset_at]
    · simp [mset_j h2, h2]
  · simp [mset_o h, h]
abbrev nup (f : Nat → Nat) (k x : Nat) : Nat → Nat := fun j => if j = k then x else f j
/-- one more voice of the last bar -/
def sVoice (S : Mus) : Mus := (gLen S, gHd S, gNb S, gNi S, nup (gVo S) (gNb S - 1) (gVo S (gNb S - 1) + 1), gIt S, nup (gFo S) (3 * (gNb S - 1) + gVo S (gNb S - 1)) (gNi S), nup (gSz S) (3 * (gNb S - 1) + gVo S (gNb S - 1)) 0)
/-- frame: only the Music at m -/
def onlyM (M M' : Mem) (m : Nat) : Prop := ∀ k : Nat, (k < m ∨ m + 14 < k) → M' k = M k
theorem e_startVoice {M : Mem} {m : Nat} {S : Mus} {Q : Int32 → Mem → Prop} (h : MW M m S) (hn : gNb S ≤ 60) (hni : gNi S ≤ 600) (h3 : ∀ b : Nat, b < gNb S → gVo S b ≤ 3) (h1 : 0 < gNb S → gVo S (gNb S - 1) < 3 → ∀ M' : Mem, MW M' m (sVoice S) → onlyM M M' m → Q 1 M') (h0 : gNb S = 0 ∨ 3 ≤ gVo S (gNb S - 1) → Q 0 M) : w_X0_startVoice m M Q := by
  unfold w_X0_startVoice
  intro x hx
  rw [h.2.2.1, lz1, zI_sub] at hx
  subst hx
  by_cases c : gNb S = 0
  · simp (disch := omega) only [c, lz0, lz1, lz2, lz3, lz4, lz5, lz6, lz7, lz8, lz9, lz10, lz11, lz12, lz13, lz14, lz15, lz16, lz17, lz18, lz19, lz20, lz21, lz22, lz23, lz24, lz25, lz26, lz27, lz28, lz29, lz30, lz31, lz32, lz33, lz34, lz35, lz36, lz37, lz38, lz39, lz40, lz41, lz42, lz43, lz44, lz45, lz46, lz47, lz48, lz49, lz50, lz51, lz52, lz53, lz54, lz55, lz56, lz57, lz58, lz59, lz60, lz61, lz62, lz63, lz64, lz65, lz66, lz67, lz68, lz69, lz100, lz120, lz128, lz137, lz180, lz200, lz255, lz256, lz512, lz600, lz1000, lz1000000, lz1200, lz2048, lz2049, lz2400, lz4000, lz4800, zI_nI, zI_add, zI_sub, zI_mul, zI_neg, zI_lt, zI_le, zI_eq, zI_tn, zI_in]
    exact ⟨fun _ => by have := h0 (Or.inl c); rw [lz0] at this; exact this, fun q => absurd q (by decide)⟩
  · have e1 : ((gNb S : Int) - 1).toNat = gNb S - 1 := by omega
    have e2 := h.2.2.2.2.1 (gNb S - 1) (by omega)
    have e3 := h3 (gNb S - 1) (by omega)
    refine ⟨fun q => by rw [lz0, zI_lt (by omega) (by omega) (by omega) (by omega)] at q; omega, fun _ => ?_⟩
    rw [zI_tn (by omega) (by omega), e1, e2]
    simp only [lz3]
    rw [zI_lt (by omega) (by omega) (by omega) (by omega), zI_in (by omega) (by omega)]
    refine ⟨by omega, fun c3 => ⟨by omega, fun x4 e4 => ?_⟩, fun c3 => h0 (Or.inr (by omega))⟩
    rw [zI_mul, zI_add] at e4
    have e4' : x4 = zI ((3 * (gNb S - 1) + gVo S (gNb S - 1) : Nat) : Int) := by rw [e4]; congr 1; omega
    subst e4'
    rw [zI_in (by omega) (by omega), zI_tn (by omega) (by omega), tn_nat]
    refine ⟨by omega, fun M6 e6 => ⟨by omega, fun M8 e8 => ⟨by omega, by omega, fun M11 e11 => ?_⟩⟩⟩
    have hM8 : M8 (m + 1) (gNb S - 1) = zI (gVo S (gNb S - 1)) := by
      rw [e8, mset_o (by omega), e6, mset_o (by omega), e2]
    rw [hM8, lz1, zI_add] at e11
    refine h1 (by omega) (by omega) M11 ?_ (fun k hk => by rw [e11, mset_o (by omega), e8, mset_o (by omega), e6, mset_o (by omega)])
    obtain ⟨q0, q1, q2, q3, q4, q5, q6, q7⟩ := h
    have far : ∀ k : Nat, k ≠ m + 1 → k ≠ m + 2 → k ≠ m + 3 → M11 k = M k := fun k g1 g2 g3 => by rw [e11, mset_o g1, e8, mset_o g3, e6, mset_o g2]
    refine ⟨by rw [far m (by omega) (by omega) (by omega)]; exact q0, by rw [far m (by omega) (by omega) (by omega)]; exact q1, by rw [far m (by omega) (by omega) (by omega)]; exact q2, by rw [far m (by omega) (by omega) (by omega)]; exact q3, fun b hb => ?_, fun b v hb hv => ?_, fun i a hi ha => by rw [far _ (by omega) (by omega) (by omega)]; exact q6 i a hi ha, fun i k hi hk => by rw [far _ (by omega) (by omega) (by omega)]; exact q7 i k hi hk⟩
    · show M11 (m + 1) b = zI ((if b = gNb S - 1 then gVo S (gNb S - 1) + 1 else gVo S b : Nat) : Int)
      by_cases g : b = gNb S - 1
      · subst g
        rw [if_pos rfl, e11, mset_at]
        rfl
      · rw [if_neg g, e11, mset_j g, e8, mset_o (by omega), e6, mset_o (by omega)]
        exact q4 b hb
    · have hb' : b < gNb S := hb
      have hv' : v < (if b = gNb S - 1 then gVo S (gNb S - 1) + 1 else gVo S b) := hv
      have hbv := h3 b hb'
      show M11 (m + 2) (3 * b + v) = zI ((if 3 * b + v = 3 * (gNb S - 1) + gVo S (gNb S - 1) then gNi S else gFo S (3 * b + v) : Nat) : Int) ∧ M11 (m + 3) (3 * b + v) = zI ((if 3 * b + v = 3 * (gNb S - 1) + gVo S (gNb S - 1) then 0 else gSz S (3 * b + v) : Nat) : Int)
      rw [e11, mset_o (by omega), mset_o (by omega), e8, mset_o (by omega), e6, q3]
      by_cases g : 3 * b + v = 3 * (gNb S - 1) + gVo S (gNb S - 1)
      · rw [if_pos g, if_pos g, g, mset_at, mset_at]
        exact ⟨rfl, lz0⟩
      · rw [if_neg g, if_neg g, mset_j g, mset_j g, mset_o (by omega)]
        refine q5 b v hb' ?_
        by_cases g2 : b = gNb S - 1
        · rw [if_pos g2] at hv'
          subst g2
          omega
        · rw [if_neg g2] at hv'; exact hv'
theorem MV_voice {S : Mus} (h : MV S) (h0 : 0 < gNb S) (hv : gVo S (gNb S - 1) < 3) : MV (sVoice S) := by
  obtain ⟨v1, v2, v3, v4, v5, v6, v7, v8⟩ := h
  refine ⟨v1, v2, v3, v4, fun b hb => ?_, fun i hi => ?_, fun b v hb hv2 => ?_, fun _ _ => ?_⟩
  · show (if b = gNb S - 1 then gVo S (gNb S - 1) + 1 else gVo S b) ≤ 3
    by_cases g : b = gNb S - 1
    · rw [if_pos g]; omega
    · rw [if_neg g]; exact v5 b hb
  · obtain ⟨w0, w1, w2⟩ := v6 i hi
    refine ⟨w0, ⟨w1.1, ?_⟩, w2⟩
    show gIt S i 1 < ((if (gIt S i 0).toNat = gNb S - 1 then gVo S (gNb S - 1) + 1 else gVo S (gIt S i 0).toNat : Nat) : Int)
    by_cases g : (gIt S i 0).toNat = gNb S - 1
    · rw [if_pos g]; rw [g] at w1; omega
    · rw [if_neg g]; exact w1.2
  · have hb' : b < gNb S := hb
    have hv' : v < (if b = gNb S - 1 then gVo S (gNb S - 1) + 1 else gVo S b) := hv2
    have hbv := v5 b hb'
    show (if 3 * b + v = 3 * (gNb S - 1) + gVo S (gNb S - 1) then gNi S else gFo S (3 * b + v)) + (if 3 * b + v = 3 * (gNb S - 1) + gVo S (gNb S - 1) then 0 else gSz S (3 * b + v)) ≤ gNi S ∧ (if 3 * b + v = 3 * (gNb S - 1) + gVo S (gNb S - 1) then 0 else gSz S (3 * b + v)) ≤ 40 ∧ ∀ i : Nat, i < gNi S → ((gIt S i 0 = b ∧ gIt S i 1 = v) ↔ ((if 3 * b + v = 3 * (gNb S - 1) + gVo S (gNb S - 1) then gNi S else gFo S (3 * b + v)) ≤ i ∧ i < (if 3 * b + v = 3 * (gNb S - 1) + gVo S (gNb S - 1) then gNi S else gFo S (3 * b + v)) + (if 3 * b + v = 3 * (gNb S - 1) + gVo S (gNb S - 1) then 0 else gSz S (3 * b + v))))
    by_cases g : 3 * b + v = 3 * (gNb S - 1) + gVo S (gNb S - 1)
    · simp only [if_pos g]
      refine ⟨by omega, by omega, fun i hi => ⟨fun ⟨g1, g2⟩ => ?_, fun g1 => by omega⟩⟩
      obtain ⟨w0, w1, -⟩ := v6 i hi
      have : (gIt S i 0).toNat = b := by omega
      rw [this] at w1
      have hlast : b = gNb S - 1 := by
        by_cases g3 : b = gNb S - 1
        · exact g3
        · rw [if_neg g3] at hv'; omega
      subst hlast
      omega
    · simp only [if_neg g]
      refine v7 b v hb' ?_
      by_cases g2 : b = gNb S - 1
      · rw [if_pos g2] at hv'; subst g2; omega
      · rw [if_neg g2] at hv'; exact hv'
  · show (if 3 * (gNb S - 1) + ((if gNb S - 1 = gNb S - 1 then gVo S (gNb S - 1) + 1 else gVo S (gNb S - 1)) - 1) = 3 * (gNb S - 1) + gVo S (gNb S - 1) then gNi S else gFo S (3 * (gNb S - 1) + ((if gNb S - 1 = gNb S - 1 then gVo S (gNb S - 1) + 1 else gVo S (gNb S - 1)) - 1))) + (if 3 * (gNb S - 1) + ((if gNb S - 1 = gNb S - 1 then gVo S (gNb S - 1) + 1 else gVo S (gNb S - 1)) - 1) = 3 * (gNb S - 1) + gVo S (gNb S - 1) then 0 else gSz S (3 * (gNb S - 1) + ((if gNb S - 1 = gNb S - 1 then gVo S (gNb S - 1) + 1 else gVo S (gNb S - 1)) - 1))) = gNi S
    simp
/-- one more bar, REPEATED so far -/
def sBar (S : Mus) : Mus := (gLen S, gHd S, gNb S + 1, gNi S, nup (gVo S) (gNb S) 0, gIt S, gFo S, gSz S)
theorem MV_bar {S : Mus} (h : MV S) (h0 : gNb S < 60) : MV (sBar S) := by
  obtain ⟨v1, v2, v3, v4, v5, v6, v7, v8⟩ := h
  refine ⟨v1, v2, ?_, v4, fun b hb => ?_, fun i hi => ?_, fun b v hb hv2 => ?_, fun _ hp => ?_⟩
  · show gNb S + 1 ≤ 60; omega
  · show (if b = gNb S then 0 else gVo S b) ≤ 3
    have hb' : b < gNb S + 1 := hb
    by_cases g : b = gNb S
    · rw [if_pos g]; omega
    · rw [if_neg g]; exact v5 b (by omega)
  · obtain ⟨w0, w1, w2⟩ := v6 i hi
    refine ⟨⟨w0.1, ?_⟩, ⟨w1.1, ?_⟩, w2⟩
    · show gIt S i 0 < ((gNb S + 1 : Nat) : Int); omega
    · show gIt S i 1 < ((if (gIt S i 0).toNat = gNb S then 0 else gVo S (gIt S i 0).toNat : Nat) : Int)
      rw [if_neg (by omega)]; exact w1.2
  · have hb' : b < gNb S + 1 := hb
    have hv' : v < (if b = gNb S then 0 else gVo S b) := hv2
    by_cases g : b = gNb S
    · rw [if_pos g] at hv'; omega
    · rw [if_neg g] at hv'; exact v7 b v (by omega) hv'
  · have hp' : 0 < (if gNb S + 1 - 1 = gNb S then 0 else gVo S (gNb S + 1 - 1)) := hp
    rw [if_pos (by omega)] at hp'; omega
theorem e_startBar {M : Mem} {m : Nat} {p : Int32} {S : Mus} {Q : Int32 → Mem → Prop} (h : MW M m S) (hv : MV S) (hR : gNb S < 60 → ¬ p = 0 → ∀ M' : Mem, MW M' m (sBar S) → onlyM M M' m → Q 1 M') (hV : gNb S < 60 → p = 0 → ∀ M' : Mem, MW M' m (sVoice (sBar S)) → onlyM M M' m → Q 1 M') (h0 : ¬ gNb S < 60 → Q 0 M) : w_X0_startBar m p M Q := by
  have hnb := hv.2.2.1
  unfold w_X0_startBar
  rw [h.2.2.1]
  simp only [lz60]
  rw [zI_lt (by omega) (by omega) (by omega) (by omega), zI_in (by omega) (by omega), zI_tn (by omega) (by omega), tn_nat]
  refine ⟨fun c => ⟨by omega, fun M2 e2 M3 e3 => ?_⟩, fun c => h0 (by omega)⟩
  have hM2 : M2 m 2 = zI (gNb S) := by rw [e2, mset_o (by omega)]; exact h.2.2.1
  rw [hM2, lz1, zI_add] at e3
  have far : ∀ k : Nat, k ≠ m → k ≠ m + 1 → M3 k = M k := fun k g1 g2 => by rw [e3, mset_o g1, e2, mset_o g2]
  have hW : MW M3 m (sBar S) := by
    obtain ⟨q0, q1, q2, q3, q4, q5, q6, q7⟩ := h
    have fm : ∀ j : Nat, j ≠ 2 → M3 m j = M m j := fun j g => by rw [e3, mset_j g, e2, mset_o (by omega)]
    refine ⟨by rw [fm 0 (by omega)]; exact q0, by rw [fm 1 (by omega)]; exact q1, ?_, by rw [fm 3 (by omega)]; exact q3, fun b hb => ?_, fun b v hb hv2 => ?_, fun i a hi ha => by rw [far _ (by omega) (by omega)]; exact q6 i a hi ha, fun i k hi hk => by rw [far _ (by omega) (by omega)]; exact q7 i k hi hk⟩
    · rw [e3, mset_at]; rfl
    · show M3 (m + 1) b = zI ((if b = gNb S then 0 else gVo S b : Nat) : Int)
      have hb' : b < gNb S + 1 := hb
      rw [e3, mset_o (by omega), e2]
      by_cases g : b = gNb S
      · rw [if_pos g, g, mset_at]; exact lz0
      · rw [if_neg g, mset_j g]; exact q4 b (by omega)
    · have hb' : b < gNb S + 1 := hb
      have hv' : v < (if b = gNb S then 0 else gVo S b) := hv2
      rw [far _ (by omega) (by omega), far _ (by omega) (by omega)]
      by_cases g : b = gNb S
      · rw [if_pos g] at hv'; omega
      · rw [if_neg g] at hv'; exact q5 b v (by omega) hv'
  have hO : onlyM M M3 m := fun k hk => far k (by omega) (by omega)
  refine ⟨fun c2 => hR (by omega) c2 M3 hW hO, fun c2 => ?_⟩
  have hv2 := MV_bar hv (by omega)
  refine e_startVoice hW hv2.2.2.1 hv2.2.2.2.1 hv2.2.2.2.2.1 (fun _ _ M' g1 g2 => ?_) (fun g => ?_)
  · intro z hz
    rw [if_neg (by decide)] at hz
    subst hz
    exact ⟨Or.inr rfl, hV (by omega) c2 M' g1 (fun k hk => (g2 k hk).trans (hO k hk))⟩
  · have g' : gNb S + 1 = 0 ∨ 3 ≤ (if gNb S + 1 - 1 = gNb S then 0 else gVo S (gNb S + 1 - 1)) := g
    rw [if_pos (by omega)] at g'
    omega
