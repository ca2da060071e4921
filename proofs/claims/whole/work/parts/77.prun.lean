section PRun
variable {pk : Nat → Int} {c p s n p' : Nat} {o o' : Bool} {t : Int} {w w' : Option Int} {S S' : Mus}
theorem lastS_bar : lastS (sBar S) < 0 := by
  unfold lastS
  have : gVo (sBar S) (gNb (sBar S) - 1) = 0 := by
    show (if gNb S + 1 - 1 = gNb S then 0 else gVo S (gNb S + 1 - 1)) = 0
    rw [if_pos (by omega)]
  rw [if_pos (Or.inr this)]
  omega
theorem lastS_voice (h : 0 < gNb S) : lastS (sVoice S) = ((3 * (gNb S - 1) + gVo S (gNb S - 1) : Nat) : Int) := by
  unfold lastS
  have e : gVo (sVoice S) (gNb (sVoice S) - 1) = gVo S (gNb S - 1) + 1 := by
    show (if gNb S - 1 = gNb S - 1 then gVo S (gNb S - 1) + 1 else gVo S (gNb S - 1)) = gVo S (gNb S - 1) + 1
    rw [if_pos rfl]
  have e2 : gNb (sVoice S) = gNb S := rfl
  rw [e, e2, if_neg (by omega)]
  omega
theorem VI_voice (h : 0 < gNb S) : VI (sVoice S) (lastS (sVoice S)).toNat 0 (-1) := by
  rw [lastS_voice h, tn_nat]
  refine ⟨?_, ?_, 0, Nat.le_refl _, fun j hj => absurd hj (Nat.not_lt_zero j), fun j _ hj => absurd hj (Nat.not_lt_zero j), fun z => absurd z (Nat.lt_irrefl 0)⟩
  · show (if 3 * (gNb S - 1) + gVo S (gNb S - 1) = 3 * (gNb S - 1) + gVo S (gNb S - 1) then 0 else gSz S (3 * (gNb S - 1) + gVo S (gNb S - 1))) = 0
    rw [if_pos rfl]
  · show (if 3 * (gNb S - 1) + gVo S (gNb S - 1) = 3 * (gNb S - 1) + gVo S (gNb S - 1) then gNi S else gFo S (3 * (gNb S - 1) + gVo S (gNb S - 1))) + 0 = gNi S
    rw [if_pos rfl]
    omega
theorem vo_sp (hp : PK pk c) : ∀ (k n p : Nat) (o : Bool) (t : Int) (w : Option Int) (S : Mus), MV S → ¬ lastS S < 0 → s = (lastS S).toNat → VI S s n t → IG S s → (-1 ≤ t ∧ t ≤ 1) → okW w → p ≤ c → voP pk s k n p o t w S = .ok (p', o', w', S') → p ≤ p' ∧ p' ≤ c ∧ okW w' ∧ GD S' ∧ gHd S' = gHd S := by
  intro k
  induction k with
  | zero =>
    intro n p o t w S _ _ _ _ _ _ _ _ h
    unfold voP at h
    exact absurd h (by simp)
  | succ k ih =>
    intro n p o t w S hv hl hs hV hG ht hw hc h
    unfold voP at h
    split at h
    · next g =>
      cases he : endV pk p o S s with
      | error e => rw [he] at h; exact absurd h (by simp)
      | ok S1 =>
        rw [he] at h
        simp only [Except.ok.injEq, Prod.mk.injEq] at h
        obtain ⟨rfl, rfl, rfl, rfl⟩ := h
        have := GD_end hv hl hs hV (by omega) hG he
        exact ⟨Nat.le_refl _, hc, hw, this.1, this.2⟩
    · split at h
      · exact absurd h (by simp)
      · next g g2 =>
        cases hi : itemP pk (gHd S) p o t w with
        | error e => rw [hi] at h; exact absurd h (by simp)
        | ok x =>
          obtain ⟨p1, o1, t1, w1, d⟩ := x
          rw [hi] at h
          simp only at h
          obtain ⟨i1, i2, i3, i4, i5, i6, i7⟩ := item_sp hp hc ht hw hi
          have hz : gSz S (lastS S).toNat < 40 := by rw [← hs, hV.1]; omega
          have := ih (n + 1) p1 o1 t1 w1 (sAdd S d) (MV_add hv hl (by omega) hz i6) hl hs (VI_add hV hs i7 i3 i4) (IG_add hv hl hs hG i6) i3 i5 i2 h
          exact ⟨by omega, this.2.1, this.2.2.1, this.2.2.2.1, this.2.2.2.2⟩
theorem vc_sp (hp : PK pk c) (h : SV S) (hw : okW w) (hc : p ≤ c) (hx : vcP pk p o w S = .ok (p', o', w', S')) : p ≤ p' ∧ p' ≤ c ∧ okW w' ∧ GD S' ∧ gHd S' = gHd S := by
  unfold vcP at hx
  split at hx
  · next g =>
    simp only [Except.ok.injEq, Prod.mk.injEq] at hx
    obtain ⟨rfl, rfl, rfl, rfl⟩ := hx
    exact ⟨Nat.le_refl _, hc, hw, ⟨h.1, h.2.1, Or.inl g⟩, rfl⟩
  · next g => exact vo_sp hp 41 0 p o (-1) w S h.1 g rfl (h.2.2 g) (IG_of h.1 h.2.1 g) (by omega) hw hc hx
theorem bar_sp (hp : PK pk c) (h : GD S) (hc : p ≤ c) (hx : barP pk p o S = .ok (p', S')) : p ≤ p' ∧ p' ≤ c ∧ SV S' ∧ gHd S' = gHd S ∧ gNb S < 60 := by
  obtain ⟨h1, h2, h3⟩ := h
  unfold barP at hx
  split at hx
  · exact absurd hx (by simp)
  · next g =>
    have hb := MV_bar h1 (by omega)
    have hg := GV_bar h1 h2 h3
    split at hx
    · next g2 =>
      have := (hp p).1 (by omega)
      simp only [Except.ok.injEq, Prod.mk.injEq] at hx
      obtain ⟨rfl, rfl⟩ := hx
      exact ⟨by omega, by omega, ⟨hb, hg, fun z => absurd lastS_bar z⟩, rfl, by omega⟩
    · simp only [Except.ok.injEq, Prod.mk.injEq] at hx
      obtain ⟨rfl, rfl⟩ := hx
      have e0 : gVo (sBar S) (gNb (sBar S) - 1) = 0 := by
        show (if gNb S + 1 - 1 = gNb S then 0 else gVo S (gNb S + 1 - 1)) = 0
        rw [if_pos (by omega)]
      exact ⟨Nat.le_refl _, hc, ⟨MV_voice hb (Nat.succ_pos _) (by omega), GV_voice hb hg (Nat.succ_pos _) (whole_all hb hg (Or.inl lastS_bar)), fun _ => VI_voice (Nat.succ_pos _)⟩, rfl, by omega⟩
theorem okW_ent {b : Nat} (h : okW w) : okW (entS S b w) := by
  unfold entS
  split
  · exact h
  · trivial
theorem next_sp (hp : PK pk c) (h : GD S) (hw : okW w) (hc : p ≤ c) (hx : nextP pk p o w S = .ok (p', w', S')) : p < p' ∧ p' ≤ c ∧ SV S' ∧ okW w' ∧ gHd S' = gHd S := by
  unfold nextP at hx
  split at hx
  · next g =>
    have hin := (hp p).1 (by omega)
    cases hb : barP pk (p + 1) o S with
    | error e => rw [hb] at hx; exact absurd hx (by simp)
    | ok x =>
      obtain ⟨p1, S1⟩ := x
      rw [hb] at hx
      simp only [Except.ok.injEq, Prod.mk.injEq] at hx
      obtain ⟨rfl, rfl, rfl⟩ := hx
      have := bar_sp hp h (by omega) hb
      refine ⟨by omega, this.2.1, this.2.2.1, okW_ent ?_, this.2.2.2.1⟩
      split
      · trivial
      · exact hw
  · split at hx
    · exact absurd hx (by simp)
    · next g g2 =>
      split at hx
      · next g3 =>
        have hin := (hp (p + 1)).1 (by omega)
        have hl : ¬ lastS S < 0 := by omega
        obtain ⟨l1, l2, l3⟩ := lastS_sp hl
        simp only [Except.ok.injEq, Prod.mk.injEq] at hx
        obtain ⟨rfl, rfl, rfl⟩ := hx
        obtain ⟨h1, h2, h3⟩ := h
        exact ⟨by omega, by omega, ⟨MV_voice h1 (by omega) g3, GV_voice h1 h2 (by omega) (whole_all h1 h2 h3), fun _ => VI_voice (by omega)⟩, trivial, rfl⟩
      · exact absurd hx (by simp)
theorem run_sp (hp : PK pk c) : ∀ (k p : Nat) (o : Bool) (w : Option Int) (S : Mus), GD S → okW w → p ≤ c → runP pk c k p o w S = .ok S' → GD S' := by
  intro k
  induction k with
  | zero =>
    intro p o w S _ _ _ h
    unfold runP at h
    exact absurd h (by simp)
  | succ k ih =>
    intro p o w S hG hw hc h
    unfold runP at h
    split at h
    · split at h
      · exact absurd h (by simp)
      · simp only [Except.ok.injEq] at h
        subst h
        exact hG
    · cases hn : nextP pk p o w S with
      | error e => rw [hn] at h; exact absurd h (by simp)
      | ok x =>
        obtain ⟨p1, w1, S1⟩ := x
        rw [hn] at h
        simp only at h
        have k1 := next_sp hp hG hw hc hn
        cases hv : vcP pk p1 o w1 S1 with
        | error e => rw [hv] at h; exact absurd h (by simp)
        | ok y =>
          obtain ⟨p2, o2, w2, S2⟩ := y
          rw [hv] at h
          simp only at h
          have k2 := vc_sp hp k1.2.2.1 k1.2.2.2.1 k1.2.1 hv
          exact ih p2 o2 w2 S2 k2.2.2.2.1 k2.2.2.1 k2.2.1 h
theorem hd_sp (hp : PK pk c) : (hdP pk).1 ≤ c ∧ 0 ≤ (hdP pk).2 ∧ (hdP pk).2 ≤ 2 := by
  have h1 := (hp 1).1
  unfold hdP
  split
  · next g =>
    have := h1 (by omega)
    exact ⟨by show 2 ≤ c; omega, by show (0 : Int) ≤ 1; omega, by show (1 : Int) ≤ 2; omega⟩
  · split
    · next g =>
      have := h1 (by omega)
      exact ⟨by show 2 ≤ c; omega, by show (0 : Int) ≤ 2; omega, Int.le_refl _⟩
    · exact ⟨Nat.zero_le _, Int.le_refl _, by show (0 : Int) ≤ 2; omega⟩
theorem GD_nil {x y : Int} (hx : 1 ≤ x ∧ x ≤ 2048) (hy : 0 ≤ y ∧ y ≤ 2) : GD (sHd (sNil S x) y) := ⟨MV_hd (MV_nil hx) hy, GV_hd GV_nil, Or.inl (by unfold lastS; rw [if_pos (show gNb (sHd (sNil S x) y) = 0 ∨ gVo (sHd (sNil S x) y) (gNb (sHd (sNil S x) y) - 1) = 0 from Or.inl rfl)]; omega)⟩
theorem rd_sp {x : Int} (hp : PK pk c) (hx : 1 ≤ x ∧ x ≤ 2048) (h : readP pk c (sNil S x) = .ok S') : GD S' := by
  have hh := hd_sp hp
  unfold readP at h
  cases hb : barP pk (hdP pk).1 false (sHd (sNil S x) (hdP pk).2) with
  | error e => rw [hb] at h; exact absurd h (by simp)
  | ok y =>
    obtain ⟨p1, S1⟩ := y
    rw [hb] at h
    simp only at h
    have k1 := bar_sp hp (GD_nil hx hh.2) hh.1 hb
    cases hv : vcP pk p1 false none S1 with
    | error e => rw [hv] at h; exact absurd h (by simp)
    | ok z =>
      obtain ⟨p2, o2, w2, S2⟩ := z
      rw [hv] at h
      simp only at h
      have k2 := vc_sp (w := none) hp k1.2.2.1 trivial k1.2.1 hv
      exact run_sp hp _ p2 o2 w2 S2 k2.2.2.2.1 k2.2.2.1 k2.2.1 h
end PRun
