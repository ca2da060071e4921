/-- one number of one item becomes x -/
def sSet (S : Mus) (i a : Nat) (x : Int) : Mus := (gLen S, gHd S, gNb S, gNi S, gVo S, (fun i2 a2 => if i2 = i ∧ a2 = a then x else gIt S i2 a2), gFo S, gSz S)
def sLen (S : Mus) (x : Int) : Mus := (x, gHd S, gNb S, gNi S, gVo S, gIt S, gFo S, gSz S)
def sHd (S : Mus) (x : Int) : Mus := (gLen S, x, gNb S, gNi S, gVo S, gIt S, gFo S, gSz S)
/-- tied, slurred: 7, 8 -/
theorem MW_set {M : Mem} {m i a : Nat} {x : Int} {S : Mus} (h : MW M m S) (ha : a = 7 ∨ a = 8) (hi : i < gNi S) : MW (mset M (m + 4 + a) i (zI x)) m (sSet S i a x) := by
  obtain ⟨q0, q1, q2, q3, q4, q5, q6, q7⟩ := h
  have far : ∀ k : Nat, k ≠ m + 4 + a → mset M (m + 4 + a) i (zI x) k = M k := fun k g => mset_o g
  refine ⟨by rw [far _ (by omega)]; exact q0, by rw [far _ (by omega)]; exact q1, by rw [far _ (by omega)]; exact q2, by rw [far _ (by omega)]; exact q3, fun b hb => by rw [far _ (by omega)]; exact q4 b hb, fun b v hb hv => by rw [far _ (by omega), far _ (by omega)]; exact q5 b v hb hv, fun i2 a2 hi2 ha2 => ?_, fun i2 k hi2 hk => ?_⟩
  · show mset M (m + 4 + a) i (zI x) (m + 4 + a2) i2 = zI (if i2 = i ∧ a2 = a then x else gIt S i2 a2)
    by_cases g : a2 = a
    · subst g
      by_cases g2 : i2 = i
      · subst g2; rw [mset_at, if_pos ⟨rfl, rfl⟩]
      · rw [mset_j g2, if_neg (fun q => g2 q.1)]; exact q6 i2 a2 hi2 ha2
    · rw [far _ (by omega), if_neg (fun q => g q.2)]; exact q6 i2 a2 hi2 ha2
  · have hk2 : (k : Int) < (if i2 = i ∧ 9 = a then x else gIt S i2 9) := hk
    rw [if_neg (by omega)] at hk2
    show _ = zI (if i2 = i ∧ 10 + k = a then x else gIt S i2 (10 + k))
    rw [if_neg (by omega), far _ (by omega)]
    exact q7 i2 k hi2 hk2
theorem MV_set {i a : Nat} {x : Int} {S : Mus} (h : MV S) (ha : a = 7 ∨ a = 8) (hx : x = 0 ∨ x = 1) : MV (sSet S i a x) := by
  obtain ⟨v1, v2, v3, v4, v5, v6, v7, v8⟩ := h
  have e : ∀ i2 k : Nat, k ≠ a → gIt (sSet S i a x) i2 k = gIt S i2 k := fun i2 k g => if_neg (fun q => g q.2)
  refine ⟨v1, v2, v3, v4, v5, fun i2 hi2 => ?_, fun b v hb hv => ?_, v8⟩
  · have w := v6 i2 hi2
    unfold IV at w ⊢
    obtain ⟨w0, w1, w2, w3, w4, w5, w6, w7, w8, w9, w10⟩ := w
    rw [e i2 0 (by omega), e i2 1 (by omega), e i2 2 (by omega), e i2 3 (by omega), e i2 4 (by omega), e i2 5 (by omega), e i2 6 (by omega), e i2 9 (by omega)]
    refine ⟨w0, w1, w2, w3, w4, w5, w6, ?_, ?_, w9, fun k hk => ?_⟩
    · show (if i2 = i ∧ 7 = a then x else gIt S i2 7) = 0 ∨ (if i2 = i ∧ 7 = a then x else gIt S i2 7) = 1
      by_cases g : i2 = i ∧ 7 = a
      · rw [if_pos g]; exact hx
      · rw [if_neg g]; exact w7
    · show (if i2 = i ∧ 8 = a then x else gIt S i2 8) = 0 ∨ (if i2 = i ∧ 8 = a then x else gIt S i2 8) = 1
      by_cases g : i2 = i ∧ 8 = a
      · rw [if_pos g]; exact hx
      · rw [if_neg g]; exact w8
    · rw [e i2 (10 + k) (by omega)]; exact w10 k hk
  · obtain ⟨r1, r2, r3⟩ := v7 b v hb hv
    refine ⟨r1, r2, fun i2 hi2 => ?_⟩
    rw [e i2 0 (by omega), e i2 1 (by omega)]
    exact r3 i2 hi2
/-- an INTERVAL more of the last item -/
def sIv (S : Mus) (x : Int) : Mus := (gLen S, gHd S, gNb S, gNi S, gVo S, (fun i a => if i = gNi S - 1 ∧ a = 9 then gIt S (gNi S - 1) 9 + 1 else if i = gNi S - 1 ∧ a = 10 + (gIt S (gNi S - 1) 9).toNat then x else gIt S i a), gFo S, gSz S)
theorem e_addInterval {M : Mem} {m : Nat} {n s : Int} {S : Mus} {Q : Int32 → Mem → Prop} (h : MW M m S) (hv : MV S) (hi : 0 < gNi S) (hm4 : gIt S (gNi S - 1) 9 < 4) (hQ : ∀ M' : Mem, MW M' m (sIv S (n + 16 * s)) → onlyM M M' m → Q 0 M') : w_X0_addInterval m (zI n) (zI s) M Q := by
  have hni := hv.2.2.2.1
  have hw := (hv.2.2.2.2.2.1 (gNi S - 1) (by omega)).2.2.2.2.2.2.2.2.2.1
  have e9 := MW_at h (i := gNi S - 1) (a := 9) (by omega) (by omega)
  unfold w_X0_addInterval
  intro x hx
  rw [h.2.2.2.1, lz1, zI_sub] at hx
  have hx2 : x = zI ((gNi S - 1 : Nat) : Int) := by rw [hx]; congr 1; omega
  subst hx2
  refine ⟨fun c => by rw [lz0, zI_lt (by omega) (by omega) (by omega) (by omega)] at c; omega, fun _ => ?_⟩
  rw [zI_in (by omega) (by omega), zI_tn (by omega) (by omega), tn_nat, show m + 13 = m + 4 + 9 by omega, e9]
  simp only [lz4, lz16]
  rw [zI_lt (by omega) (by omega) (by omega) (by omega), zI_mul, zI_mul, zI_add, zI_add, zI_in (by omega) (by omega), zI_tn (by omega) (by omega), show (((gNi S - 1 : Nat) : Int) * 4 + gIt S (gNi S - 1) 9).toNat = 4 * (gNi S - 1) + (gIt S (gNi S - 1) 9).toNat by omega]
  refine ⟨by omega, fun _ => ⟨by omega, by omega, fun M5 e5 => ⟨by omega, by omega, fun M8 e8 => ?_⟩⟩, fun c => by omega⟩
  rw [e5, mset_o (by omega), e9, lz1, zI_add, ← e5] at e8
  obtain ⟨q0, q1, q2, q3, q4, q5, q6, q7⟩ := h
  have far : ∀ k : Nat, k ≠ m + 14 → k ≠ m + 4 + 9 → M8 k = M k := fun k g1 g2 => by rw [e8, mset_o g2, e5, mset_o g1]
  refine hQ M8 ⟨by rw [far _ (by omega) (by omega)]; exact q0, by rw [far _ (by omega) (by omega)]; exact q1, by rw [far _ (by omega) (by omega)]; exact q2, by rw [far _ (by omega) (by omega)]; exact q3, fun b hb => by rw [far _ (by omega) (by omega)]; exact q4 b hb, fun b v hb hv => by rw [far _ (by omega) (by omega), far _ (by omega) (by omega)]; exact q5 b v hb hv, fun i2 a2 hi2 ha2 => ?_, fun i2 k hi2 hk => ?_⟩ (fun k hk => far k (by omega) (by omega))
  · show M8 (m + 4 + a2) i2 = zI (if i2 = gNi S - 1 ∧ a2 = 9 then gIt S (gNi S - 1) 9 + 1 else if i2 = gNi S - 1 ∧ a2 = 10 + (gIt S (gNi S - 1) 9).toNat then n + 16 * s else gIt S i2 a2)
    by_cases g : a2 = 9
    · subst g
      by_cases g2 : i2 = gNi S - 1
      · rw [if_pos ⟨g2, rfl⟩, e8, g2, mset_at]
      · rw [if_neg (fun q => g2 q.1), if_neg (fun q => g2 q.1), e8, mset_j g2, e5, mset_o (by omega)]; exact q6 i2 9 hi2 ha2
    · rw [if_neg (fun q => g q.2), if_neg (by omega), far _ (by omega) (by omega)]; exact q6 i2 a2 hi2 ha2
  · have hk2 : (k : Int) < (if i2 = gNi S - 1 ∧ 9 = 9 then gIt S (gNi S - 1) 9 + 1 else if i2 = gNi S - 1 ∧ 9 = 10 + (gIt S (gNi S - 1) 9).toNat then n + 16 * s else gIt S i2 9) := hk
    show M8 (m + 14) (4 * i2 + k) = zI (if i2 = gNi S - 1 ∧ 10 + k = 9 then gIt S (gNi S - 1) 9 + 1 else if i2 = gNi S - 1 ∧ 10 + k = 10 + (gIt S (gNi S - 1) 9).toNat then n + 16 * s else gIt S i2 (10 + k))
    have hi3 : i2 < gNi S := hi2
    have hw2 := (hv.2.2.2.2.2.1 i2 hi3).2.2.2.2.2.2.2.2.2.1
    rw [if_neg (by omega), e8, mset_o (by omega), e5]
    by_cases g2 : i2 = gNi S - 1
    · rw [if_pos ⟨g2, rfl⟩] at hk2
      subst g2
      by_cases g3 : k = (gIt S (gNi S - 1) 9).toNat
      · rw [if_pos ⟨rfl, by omega⟩, g3, mset_at]
      · rw [if_neg (by omega), mset_j (by omega)]
        exact q7 _ k hi3 (by omega)
    · rw [if_neg (fun q => g2 q.1), if_neg (fun q => g2 q.1)] at hk2
      rw [if_neg (fun q => g2 q.1), mset_j (by omega)]
      exact q7 i2 k hi3 hk2
theorem MV_iv {n s : Int} {S : Mus} (h : MV S) (hi : 0 < gNi S) (hm4 : gIt S (gNi S - 1) 9 < 4) (hn : 2 ≤ n ∧ n ≤ 8) (hs : 0 ≤ s ∧ s ≤ 3) : MV (sIv S (n + 16 * s)) := by
  obtain ⟨v1, v2, v3, v4, v5, v6, v7, v8⟩ := h
  have hw := (v6 (gNi S - 1) (by omega)).2.2.2.2.2.2.2.2.2.1
  have e : ∀ i2 k : Nat, k < 9 → gIt (sIv S (n + 16 * s)) i2 k = gIt S i2 k := fun i2 k g => by
    show (if i2 = gNi S - 1 ∧ k = 9 then gIt S (gNi S - 1) 9 + 1 else if i2 = gNi S - 1 ∧ k = 10 + (gIt S (gNi S - 1) 9).toNat then n + 16 * s else gIt S i2 k) = _
    rw [if_neg (by omega), if_neg (by omega)]
  refine ⟨v1, v2, v3, v4, v5, fun i2 hi2 => ?_, fun b v hb hv => ?_, v8⟩
  · have w := v6 i2 hi2
    unfold IV at w ⊢
    obtain ⟨w0, w1, w2, w3, w4, w5, w6, w7, w8, w9, w10⟩ := w
    rw [e i2 0 (by omega), e i2 1 (by omega), e i2 2 (by omega), e i2 3 (by omega), e i2 4 (by omega), e i2 5 (by omega), e i2 6 (by omega), e i2 7 (by omega), e i2 8 (by omega)]
    refine ⟨w0, w1, w2, w3, w4, w5, w6, w7, w8, ?_, fun k hk => ?_⟩
    · show 0 ≤ (if i2 = gNi S - 1 ∧ 9 = 9 then gIt S (gNi S - 1) 9 + 1 else if i2 = gNi S - 1 ∧ 9 = 10 + (gIt S (gNi S - 1) 9).toNat then n + 16 * s else gIt S i2 9) ∧ (if i2 = gNi S - 1 ∧ 9 = 9 then gIt S (gNi S - 1) 9 + 1 else if i2 = gNi S - 1 ∧ 9 = 10 + (gIt S (gNi S - 1) 9).toNat then n + 16 * s else gIt S i2 9) ≤ 4
      by_cases g : i2 = gNi S - 1
      · rw [if_pos ⟨g, rfl⟩]; omega
      · rw [if_neg (fun q => g q.1), if_neg (fun q => g q.1)]; exact w9
    · have hk2 : (k : Int) < (if i2 = gNi S - 1 ∧ 9 = 9 then gIt S (gNi S - 1) 9 + 1 else if i2 = gNi S - 1 ∧ 9 = 10 + (gIt S (gNi S - 1) 9).toNat then n + 16 * s else gIt S i2 9) := hk
      show ∃ n2 s2 : Int, (if i2 = gNi S - 1 ∧ 10 + k = 9 then gIt S (gNi S - 1) 9 + 1 else if i2 = gNi S - 1 ∧ 10 + k = 10 + (gIt S (gNi S - 1) 9).toNat then n + 16 * s else gIt S i2 (10 + k)) = n2 + 16 * s2 ∧ 2 ≤ n2 ∧ n2 ≤ 8 ∧ 0 ≤ s2 ∧ s2 ≤ 3
      rw [if_neg (by omega)]
      by_cases g : i2 = gNi S - 1
      · rw [if_pos ⟨g, rfl⟩] at hk2
        by_cases g3 : k = (gIt S (gNi S - 1) 9).toNat
        · rw [if_pos ⟨g, by omega⟩]; exact ⟨n, s, rfl, hn.1, hn.2, hs.1, hs.2⟩
        · rw [if_neg (by omega)]
          exact w10 k (by rw [g]; omega)
      · rw [if_neg (fun q => g q.1), if_neg (fun q => g q.1)] at hk2
        rw [if_neg (fun q => g q.1)]
        exact w10 k hk2
  · obtain ⟨r1, r2, r3⟩ := v7 b v hb hv
    refine ⟨r1, r2, fun i2 hi2 => ?_⟩
    rw [e i2 0 (by omega), e i2 1 (by omega)]
    exact r3 i2 hi2
theorem and15 {n s : Int} (hn : 2 ≤ n ∧ n ≤ 8) (hs : 0 ≤ s ∧ s ≤ 3) : zI (n + 16 * s) &&& 15 = zI n := by
  have h1 : n = 2 ∨ n = 3 ∨ n = 4 ∨ n = 5 ∨ n = 6 ∨ n = 7 ∨ n = 8 := by omega
  have h2 : s = 0 ∨ s = 1 ∨ s = 2 ∨ s = 3 := by omega
  rcases h1 with rfl | rfl | rfl | rfl | rfl | rfl | rfl <;> rcases h2 with rfl | rfl | rfl | rfl <;> decide +kernel
/-- every INTERVAL has a PITCH with hand h -/
def okHand (S : Mus) (hd : Int) : Prop := ∀ i k : Nat, i < gNi S → (k : Int) < gIt S i 9 → 7 ≤ (if hd = 2 then gIt S i 2 + gIt S i (10 + k) % 16 - 1 else gIt S i 2 - gIt S i (10 + k) % 16 + 1) ∧ (if hd = 2 then gIt S i 2 + gIt S i (10 + k) % 16 - 1 else gIt S i 2 - gIt S i (10 + k) % 16 + 1) ≤ 55
theorem e_suitsHand {M : Mem} {m : Nat} {hd : Int} {S : Mus} {Q : Int32 → Mem → Prop} (h : MW M m S) (hv : MV S) (hh : 0 ≤ hd ∧ hd ≤ 2) (h1 : okHand S hd → Q 1 M) (h0 : ¬ okHand S hd → Q 0 M) : w_X0_suitsHand m (zI hd) M Q := by
  have hni := hv.2.2.2.1
  refine ⟨gNi S + 1, ?_⟩
  have outer : ∀ (k i : Nat), i ≤ gNi S → gNi S - i < k → (∀ i2 k2 : Nat, i2 < i → (k2 : Int) < gIt S i2 9 → 7 ≤ (if hd = 2 then gIt S i2 2 + gIt S i2 (10 + k2) % 16 - 1 else gIt S i2 2 - gIt S i2 (10 + k2) % 16 + 1) ∧ (if hd = 2 then gIt S i2 2 + gIt S i2 (10 + k2) % 16 - 1 else gIt S i2 2 - gIt S i2 (10 + k2) % 16 + 1) ≤ 55) → w_X0_suitsHand_2 m Q k (zI hd) (zI i) M := by
    intro k
    induction k with
    | zero => intro i g1 g2; omega
    | succ k ih =>
      intro i hi hk hdone
      show wb_X0_suitsHand_2 m Q (w_X0_suitsHand_2 m Q k) _ _ M
      unfold wb_X0_suitsHand_2
      rw [h.2.2.2.1, zI_le (by omega) (by omega) (by omega) (by omega)]
      refine ⟨fun c => h1 (fun i2 k2 g1 g2 => hdone i2 k2 (by omega) g2), fun c => ?_⟩
      have hi2 : i < gNi S := by omega
      have hw := hv.2.2.2.2.2.1 i hi2
      have hm4 := hw.2.2.2.2.2.2.2.2.2.1
      have hp := hw.2.2.1
      have e9 := MW_at h hi2 (a := 9) (by omega)
      refine ⟨(gIt S i 9).toNat + 1, ?_⟩
      have inner : ∀ (q j : Nat), (j : Int) ≤ gIt S i 9 → (gIt S i 9).toNat - j < q → (∀ k2 : Nat, k2 < j → 7 ≤ (if hd = 2 then gIt S i 2 + gIt S i (10 + k2) % 16 - 1 else gIt S i 2 - gIt S i (10 + k2) % 16 + 1) ∧ (if hd = 2 then gIt S i 2 + gIt S i (10 + k2) % 16 - 1 else gIt S i 2 - gIt S i (10 + k2) % 16 + 1) ≤ 55) → w_X0_suitsHand_12 m Q (w_X0_suitsHand_2 m Q k) q (zI hd) (zI i) (zI j) M := by
        intro q
        induction q with
        | zero => intro j g1 g2; omega
        | succ q ih2 =>
          intro j hj hq hd2
          show wb_X0_suitsHand_12 m Q (w_X0_suitsHand_2 m Q k) (w_X0_suitsHand_12 m Q (w_X0_suitsHand_2 m Q k) q) _ _ _ M
          unfold wb_X0_suitsHand_12
          rw [zI_in (by omega) (by omega), zI_tn (by omega) (by omega), tn_nat, show m + 13 = m + 4 + 9 by omega, e9, zI_le (by omega) (by omega) (by omega) (by omega)]
          refine ⟨by omega, fun c2 x2 e2 => ?_, fun c2 => ?_⟩
          · have e2' : x2 = zI ((i + 1 : Nat) : Int) := by rw [e2, lz1, zI_add]; congr 1
            subst e2'
            refine ih (i + 1) (by omega) (by omega) (fun i2 k2 g1 g2 => ?_)
            by_cases g : i2 = i
            · subst g; exact hd2 k2 (by omega)
            · exact hdone i2 k2 (by omega) g2
          · obtain ⟨n, s, en, n1, n2, s1, s2⟩ := hw.2.2.2.2.2.2.2.2.2.2 j (by omega)
            refine e_intervalAt h hv hi2 (by omega) ?_
            rw [if_pos (by omega), tn_nat, en, and15 ⟨n1, n2⟩ ⟨s1, s2⟩]
            refine e_intervalPitch h hv hi2 (by omega) hh ?_
            have hp2 : -1000 ≤ (if hd = 2 then gIt S i 2 + n - 1 else gIt S i 2 - n + 1) ∧ (if hd = 2 then gIt S i 2 + n - 1 else gIt S i 2 - n + 1) ≤ 1000 := by
              by_cases g : hd = 2
              · rw [if_pos g]; omega
              · rw [if_neg g]; omega
            refine e_isPitch hp2 ?_
            have hmod : gIt S i (10 + j) % 16 = n := by rw [en]; omega
            by_cases c3 : 7 ≤ (if hd = 2 then gIt S i 2 + n - 1 else gIt S i 2 - n + 1) ∧ (if hd = 2 then gIt S i 2 + n - 1 else gIt S i 2 - n + 1) ≤ 55
            · rw [if_pos c3]
              refine ⟨fun _ x9 e9' => ?_, fun q => absurd q (by decide)⟩
              have e9'' : x9 = zI ((j + 1 : Nat) : Int) := by rw [e9', lz1, zI_add]; congr 1
              subst e9''
              refine ih2 (j + 1) (by omega) (by omega) (fun k2 g1 => ?_)
              by_cases g : k2 = j
              · subst g; rw [hmod]; exact c3
              · exact hd2 k2 (by omega)
            · rw [if_neg c3]
              refine ⟨fun q => absurd rfl q, fun _ => h0 (fun q => c3 ?_)⟩
              have := q i j hi2 (by omega)
              rw [hmod] at this
              exact this
      exact inner _ 0 (by omega) (by omega) (fun k2 g => by omega)
  exact outer _ 0 (by omega) (by omega) (fun i2 k2 g => by omega)
