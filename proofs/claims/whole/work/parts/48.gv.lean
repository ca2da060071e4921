section Gv
variable {S : Mus}
theorem slotL_same {S S' : Mus} {s : Nat} (hf : gFo S' s = gFo S s) (hs : gSz S' s = gSz S s) (hl : ∀ j : Nat, j < gSz S s → lastG S' (gFo S s + j) = lastG S (gFo S s + j)) : slotL S' s = slotL S s := by
  unfold slotL
  rw [hf, hs]
  exact sumF_congr _ hl
theorem GV_nil {x : Int} : GV (sNil S x) := ⟨fun b v hb => absurd hb (Nat.not_lt_zero b), fun b v hb => absurd hb (Nat.not_lt_zero b), fun i hi => absurd hi (Nat.not_lt_zero i), fun i j hij hj => absurd hj (Nat.not_lt_zero j)⟩
theorem GV_len {x : Int} (h : MV S) (h0 : gNb S = 0) (hg : GV S) : GV (sLen S x) := by
  have hi0 : gNi S = 0 := by
    rcases Nat.eq_zero_or_pos (gNi S) with e | e
    · exact e
    · have := (h.2.2.2.2.2.1 0 e).1
      omega
  refine ⟨fun b v hb => ?_, fun b v hb => ?_, hg.2.2.1, hg.2.2.2⟩
  · have hb' : b < gNb S := hb
    omega
  · have hb' : b < gNb S := hb
    omega
theorem GV_hd {x : Int} (hg : GV S) : GV (sHd S x) := hg
theorem lastG_set {i a : Nat} {x : Int} (ha : a = 7 ∨ a = 8) (j : Nat) : lastG (sSet S i a x) j = lastG S j := by
  have e : ∀ k : Nat, k ≠ a → gIt (sSet S i a x) j k = gIt S j k := fun k g => if_neg (fun q => g q.2)
  unfold lastG
  rw [e 5 (by omega), e 4 (by omega), e 6 (by omega)]
  rfl
theorem GV_set {i a : Nat} {x : Int} (hg : GV S) (ha : a = 7 ∨ a = 8) (hx : a = 7 → ¬ gIt S i 2 = 0) : GV (sSet S i a x) := by
  have e : ∀ j k : Nat, k ≠ a → gIt (sSet S i a x) j k = gIt S j k := fun j k g => if_neg (fun q => g q.2)
  have es : ∀ s : Nat, slotL (sSet S i a x) s = slotL S s := fun s => slotL_same rfl rfl (fun j _ => lastG_set ha _)
  refine ⟨fun b v hb hv => by rw [es]; exact hg.1 b v hb hv, fun b v hb hv hn => by rw [es]; exact hg.2.1 b v hb hv hn, fun j hj => ?_, fun j k hjk hk => by rw [e _ 0 (by omega), e _ 0 (by omega), e _ 1 (by omega), e _ 1 (by omega)]; exact hg.2.2.2 j k hjk hk⟩
  obtain ⟨g1, g2, g3⟩ := hg.2.2.1 j hj
  rw [e j 5 (by omega), e j 2 (by omega), e j 4 (by omega), e j 6 (by omega), e j 9 (by omega)]
  refine ⟨g1, g2, fun k => ⟨?_, (g3 k).2⟩⟩
  show (if j = i ∧ 7 = a then x else gIt S j 7) = 0
  by_cases g : j = i ∧ 7 = a
  · exact absurd (by rw [← g.1]; exact k) (hx g.2.symm)
  · rw [if_neg g]; exact (g3 k).1
theorem GV_iv {x : Int} (hg : GV S) (h9 : 0 ≤ gIt S (gNi S - 1) 9) (hn : ¬ gIt S (gNi S - 1) 2 = 0) : GV (sIv S x) := by
  have e : ∀ j k : Nat, k < 9 → gIt (sIv S x) j k = gIt S j k := fun j k g => by
    show (if j = gNi S - 1 ∧ k = 9 then gIt S (gNi S - 1) 9 + 1 else if j = gNi S - 1 ∧ k = 10 + (gIt S (gNi S - 1) 9).toNat then x else gIt S j k) = _
    rw [if_neg (by omega), if_neg (by omega)]
  have es : ∀ s : Nat, slotL (sIv S x) s = slotL S s := fun s => slotL_same rfl rfl (fun j _ => by
    unfold lastG
    rw [e _ 5 (by omega), e _ 4 (by omega), e _ 6 (by omega)]
    rfl)
  refine ⟨fun b v hb hv => by rw [es]; exact hg.1 b v hb hv, fun b v hb hv hn => by rw [es]; exact hg.2.1 b v hb hv hn, fun j hj => ?_, fun j k hjk hk => by rw [e _ 0 (by omega), e _ 0 (by omega), e _ 1 (by omega), e _ 1 (by omega)]; exact hg.2.2.2 j k hjk hk⟩
  obtain ⟨g1, g2, g3⟩ := hg.2.2.1 j hj
  rw [e j 5 (by omega), e j 2 (by omega), e j 4 (by omega), e j 6 (by omega), e j 7 (by omega)]
  refine ⟨g1, g2, fun k => ⟨(g3 k).1, ?_⟩⟩
  show (if j = gNi S - 1 ∧ 9 = 9 then gIt S (gNi S - 1) 9 + 1 else if j = gNi S - 1 ∧ 9 = 10 + (gIt S (gNi S - 1) 9).toNat then x else gIt S j 9) = 0
  by_cases g : j = gNi S - 1
  · exact absurd (by rw [← g]; exact k) hn
  · rw [if_neg (fun q => g q.1), if_neg (fun q => g q.1)]; exact (g3 k).2
theorem GV_bar (hv : MV S) (hg : GV S) (he : endsW S) : GV (sBar S) := by
  have hnb := hv.2.2.1
  have all : ∀ b v : Nat, b < gNb S → v < gVo S b → slotL S (3 * b + v) = gLen S := by
    intro b v hb hv2
    by_cases g : b = gNb S - 1 ∧ v = gVo S (gNb S - 1) - 1
    · have hv0 : 0 < gVo S (gNb S - 1) := by rw [g.1] at hv2; omega
      have hls : ¬ lastS S < 0 := by unfold lastS; rw [if_neg (by omega)]; omega
      obtain ⟨l1, l2, l3⟩ := lastS_sp hls
      have l4 : (lastS S).toNat = 3 * (gNb S - 1) + (gVo S (gNb S - 1) - 1) := by rw [l3]; rfl
      have := he.resolve_left hls
      rw [l4] at this
      rw [g.1, g.2]
      exact this
    · exact hg.2.1 b v hb hv2 g
  have es : ∀ s : Nat, slotL (sBar S) s = slotL S s := fun s => slotL_same rfl rfl (fun j _ => rfl)
  have low : ∀ b v : Nat, b < gNb S + 1 → v < (if b = gNb S then 0 else gVo S b) → b < gNb S ∧ v < gVo S b := fun b v hb hv2 => by
    by_cases g : b = gNb S
    · rw [if_pos g] at hv2; omega
    · rw [if_neg g] at hv2; exact ⟨by omega, hv2⟩
  refine ⟨fun b v hb hv2 => ?_, fun b v hb hv2 _ => ?_, hg.2.2.1, hg.2.2.2⟩
  · obtain ⟨q1, q2⟩ := low b v hb hv2
    rw [es, all b v q1 q2]
    exact Int.le_refl _
  · obtain ⟨q1, q2⟩ := low b v hb hv2
    rw [es]
    exact all b v q1 q2
theorem GV_voice (hv : MV S) (hg : GV S) (hn : 0 < gNb S) (he : ∀ b v : Nat, b < gNb S → v < gVo S b → slotL S (3 * b + v) = gLen S) : GV (sVoice S) := by
  have hl := hv.1
  have hvo : ∀ b : Nat, gVo (sVoice S) b = if b = gNb S - 1 then gVo S (gNb S - 1) + 1 else gVo S b := fun b => rfl
  have hb3 := hv.2.2.2.2.1
  have new : ∀ b v : Nat, b < gNb S → v < gVo (sVoice S) b → (b = gNb S - 1 ∧ v = gVo S (gNb S - 1) ∧ slotL (sVoice S) (3 * b + v) = 0) ∨ (v < gVo S b ∧ slotL (sVoice S) (3 * b + v) = gLen S) := by
    intro b v hb hv2
    rw [hvo] at hv2
    have h3 := hb3 b hb
    have h3' := hb3 (gNb S - 1) (by omega)
    by_cases g : b = gNb S - 1 ∧ v = gVo S (gNb S - 1)
    · left
      refine ⟨g.1, g.2, ?_⟩
      unfold slotL
      have : gSz (sVoice S) (3 * b + v) = 0 := by
        show (if 3 * b + v = 3 * (gNb S - 1) + gVo S (gNb S - 1) then 0 else gSz S (3 * b + v)) = 0
        rw [if_pos (by omega)]
      rw [this]
      rfl
    · right
      have hv3 : v < gVo S b := by
        by_cases g2 : b = gNb S - 1
        · rw [if_pos g2] at hv2; subst g2; omega
        · rw [if_neg g2] at hv2; exact hv2
      refine ⟨hv3, ?_⟩
      rw [← he b v hb hv3]
      refine slotL_same ?_ ?_ (fun j _ => rfl)
      · show (if 3 * b + v = 3 * (gNb S - 1) + gVo S (gNb S - 1) then gNi S else gFo S (3 * b + v)) = gFo S (3 * b + v)
        rw [if_neg (by omega)]
      · show (if 3 * b + v = 3 * (gNb S - 1) + gVo S (gNb S - 1) then 0 else gSz S (3 * b + v)) = gSz S (3 * b + v)
        rw [if_neg (by omega)]
  refine ⟨fun b v hb hv2 => ?_, fun b v hb hv2 hn2 => ?_, hg.2.2.1, hg.2.2.2⟩
  · show slotL (sVoice S) (3 * b + v) ≤ gLen S
    rcases new b v hb hv2 with ⟨-, -, e⟩ | ⟨-, e⟩
    · rw [e]; omega
    · rw [e]; exact Int.le_refl _
  · show slotL (sVoice S) (3 * b + v) = gLen S
    rcases new b v hb hv2 with ⟨q1, q2, -⟩ | ⟨-, e⟩
    · refine absurd ⟨q1, ?_⟩ hn2
      show v = gVo (sVoice S) (gNb S - 1) - 1
      rw [hvo, if_pos rfl]
      omega
    · exact e
theorem whole_all (hv : MV S) (hg : GV S) (he : endsW S) : ∀ b v : Nat, b < gNb S → v < gVo S b → slotL S (3 * b + v) = gLen S := by
  intro b v hb hv2
  by_cases g : b = gNb S - 1 ∧ v = gVo S (gNb S - 1) - 1
  · have hv0 : 0 < gVo S (gNb S - 1) := by rw [g.1] at hv2; omega
    have hls : ¬ lastS S < 0 := by unfold lastS; rw [if_neg (by omega)]; omega
    obtain ⟨l1, l2, l3⟩ := lastS_sp hls
    have l4 : (lastS S).toNat = 3 * (gNb S - 1) + (gVo S (gNb S - 1) - 1) := by rw [l3]; rfl
    have := he.resolve_left hls
    rw [l4] at this
    rw [g.1, g.2]
    exact this
  · exact hg.2.1 b v hb hv2 g
theorem GV_item {a2 a3 a4 a5 a6 : Int} (hv : MV S) (hg : GV S) (hls : ¬ lastS S < 0) (h5 : 0 ≤ a5) (hb : a5 = 2 → a2 = 0 ∧ a4 = 0 ∧ a6 = 0) (hfit : slotL S (lastS S).toNat + (if a5 = 2 then gLen S else lenI a4 a5 a6) ≤ gLen S) : GV (sItem S a2 a3 a4 a5 a6) := by
  obtain ⟨l1, l2, l3⟩ := lastS_sp hls
  have l4 : (lastS S).toNat = 3 * (gNb S - 1) + (gVo S (gNb S - 1) - 1) := by rw [l3]; rfl
  obtain ⟨v1, v2, v3, v4, v5, v6, v7, v8⟩ := hv
  have hend := v8 (by omega) (by omega)
  have hb3 := v5 _ l1
  have old : ∀ i : Nat, i < gNi S → ∀ k : Nat, gIt (sItem S a2 a3 a4 a5 a6) i k = gIt S i k := fun i hi k => if_neg (by omega)
  have nw : ∀ k : Nat, gIt (sItem S a2 a3 a4 a5 a6) (gNi S) k = aItem S a2 a3 a4 a5 a6 k := fun k => if_pos rfl
  have lo : ∀ i : Nat, i < gNi S → lastG (sItem S a2 a3 a4 a5 a6) i = lastG S i := fun i hi => by
    unfold lastG
    rw [old i hi, old i hi, old i hi]
    rfl
  have ln : lastG (sItem S a2 a3 a4 a5 a6) (gNi S) = (if a5 = 2 then gLen S else lenI a4 a5 a6) := by
    unfold lastG
    rw [nw, nw, nw]
    rfl
  have eL : slotL (sItem S a2 a3 a4 a5 a6) (lastS S).toNat = slotL S (lastS S).toNat + (if a5 = 2 then gLen S else lenI a4 a5 a6) := by
    have es : gSz (sItem S a2 a3 a4 a5 a6) (lastS S).toNat = gSz S (lastS S).toNat + 1 := if_pos rfl
    unfold slotL
    rw [es]
    show sumF (lastG (sItem S a2 a3 a4 a5 a6)) (gFo S (lastS S).toNat) (gSz S (lastS S).toNat) + lastG (sItem S a2 a3 a4 a5 a6) (gFo S (lastS S).toNat + gSz S (lastS S).toNat) = _
    rw [l4, hend, ln]
    congr 1
    exact sumF_congr _ (fun j hj => lo _ (by omega))
  have eO : ∀ b v : Nat, b < gNb S → v < gVo S b → ¬ 3 * b + v = (lastS S).toNat → slotL (sItem S a2 a3 a4 a5 a6) (3 * b + v) = slotL S (3 * b + v) := fun b v hb2 hv2 g => by
    obtain ⟨r1, -, -⟩ := v7 b v hb2 hv2
    exact slotL_same rfl (if_neg g) (fun j hj => lo _ (by omega))
  refine ⟨fun b v hb2 hv2 => ?_, fun b v hb2 hv2 hn => ?_, fun i hi => ?_, fun i j hij hj => ?_⟩
  · show slotL (sItem S a2 a3 a4 a5 a6) (3 * b + v) ≤ gLen S
    by_cases g : 3 * b + v = (lastS S).toNat
    · rw [g, eL]; exact hfit
    · rw [eO b v hb2 hv2 g]; exact hg.1 b v hb2 hv2
  · show slotL (sItem S a2 a3 a4 a5 a6) (3 * b + v) = gLen S
    have hb4 := v5 b hb2
    have hv2' : v < gVo S b := hv2
    have hn' : ¬ (b = gNb S - 1 ∧ v = gVo S (gNb S - 1) - 1) := hn
    rw [eO b v hb2 hv2 (by rw [l4]; omega)]
    exact hg.2.1 b v hb2 hv2 hn
  · have hi' : i < gNi S + 1 := hi
    by_cases g : i = gNi S
    · subst g
      rw [nw, nw, nw, nw, nw, nw]
      refine ⟨h5, hb, fun _ => ⟨rfl, rfl⟩⟩
    · have := hg.2.2.1 i (by omega)
      rw [old i (by omega), old i (by omega), old i (by omega), old i (by omega), old i (by omega), old i (by omega)]
      exact this
  · have hj' : j < gNi S + 1 := hj
    by_cases g : j = gNi S
    · subst g
      obtain ⟨w0, w1, -⟩ := v6 i (by omega)
      rw [nw, nw, old i (by omega), old i (by omega)]
      show gIt S i 0 < (gNb S : Int) - 1 ∨ (gIt S i 0 = (gNb S : Int) - 1 ∧ gIt S i 1 ≤ (gVo S (gNb S - 1) : Int) - 1)
      by_cases g2 : gIt S i 0 = (gNb S : Int) - 1
      · right
        refine ⟨g2, ?_⟩
        rw [show (gIt S i 0).toNat = gNb S - 1 by omega] at w1
        omega
      · left; omega
    · rw [old i (by omega), old i (by omega), old j (by omega), old j (by omega)]
      exact hg.2.2.2 i j hij (by omega)
end Gv
