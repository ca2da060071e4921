section Parse2
variable {pk : Nat → Int} {c : Nat} {hd : Int} {p : Nat} {o : Bool} {t : Int} {w : Option Int} {S : Mus}
def PK (pk : Nat → Int) (c : Nat) : Prop := ∀ j : Nat, (¬ pk j = -1 → j < c) ∧ -1 ≤ pk j ∧ pk j ≤ 64 ∧ (c ≤ j → pk j = -1)
theorem ixG_bd (l : List Int) (x : Int) : ∀ (k j : Nat), ixG l x k j = -1 ∨ ((j : Int) ≤ ixG l x k j ∧ ixG l x k j < (j : Int) + k)
  | 0, j => Or.inl rfl
  | k + 1, j => by
    have := ixG_bd l x k (j + 1)
    unfold ixG
    split
    · right; omega
    · omega
theorem ixF_bd (l : List Int) (x : Int) : -1 ≤ ixF l x ∧ ixF l x < l.length := by
  have := ixG_bd l x l.length 0
  unfold ixF
  omega
theorem ixG_hit (l : List Int) (x : Int) : ∀ (k j : Nat), 0 ≤ ixG l x k j → l.getD (ixG l x k j).toNat 0 = x
  | 0, j, h => by unfold ixG at h; omega
  | k + 1, j, h => by
    unfold ixG at h ⊢
    split
    · next g => rw [tn_nat]; exact g
    · next g =>
      rw [if_neg g] at h
      exact ixG_hit l x k (j + 1) h
theorem ixF_hit {l : List Int} {x : Int} (h : 0 ≤ ixF l x) : l.getD (ixF l x).toNat 0 = x := ixG_hit l x _ _ h
theorem lSg_bd (x : Int) : 0 ≤ sgI x ∧ sgI x ≤ 3 := by
  have := ixF_bd lSg x
  have e : lSg.length = 3 := rfl
  unfold sgI
  omega
theorem m1_Rs : ixF lRs (-1) = -1 := by decide
theorem m1_Oc : ixF lOc (-1) = -1 := by decide
theorem m1_Sg : ixF lSg (-1) = -1 := by decide
theorem m1_Dn : ixF lDn (-1) = -1 := by decide
theorem st_kd {x : Int} (h1 : -1 ≤ x) (h2 : x ≤ 64) (h : 0 ≤ stI x) : 0 ≤ x ∧ stI x ≤ 6 ∧ 0 ≤ kdI x ∧ kdI x ≤ 3 := by
  have h0 : 0 ≤ x := by
    unfold stI at h
    split at h
    · omega
    · omega
  have a : ∀ y : Fin 65, 0 ≤ stI ((y.val : Nat) : Int) → stI ((y.val : Nat) : Int) ≤ 6 ∧ 0 ≤ kdI ((y.val : Nat) : Int) ∧ kdI ((y.val : Nat) : Int) ≤ 3 := by decide +kernel
  have := a ⟨x.toNat, by omega⟩
  rw [show (((⟨x.toNat, by omega⟩ : Fin 65).val : Nat) : Int) = x by show ((x.toNat : Nat) : Int) = x; omega] at this
  exact ⟨h0, this h⟩
theorem st_m1 {x : Int} (h : 0 ≤ stI x) : ¬ x = -1 := by
  intro z
  subst z
  exact absurd h (by decide)
theorem p1_le (p : Nat) : p ≤ p1P pk p ∧ p1P pk p ≤ p + 1 := by
  unfold p1P
  split <;> omega
theorem p2_le (p : Nat) : p1P pk p ≤ p2P pk p ∧ p2P pk p ≤ p1P pk p + 1 := by
  unfold p2P
  split <;> omega
theorem pt_sp (hp : PK pk c) (h : 0 ≤ ptP pk p w) : 7 ≤ ptP pk p w ∧ ptP pk p w ≤ 55 ∧ 0 ≤ stI (pk (p2P pk p)) ∧ p2P pk p < c := by
  have h1 : 0 ≤ stI (pk (p2P pk p)) := by
    rcases Int.lt_or_le (stI (pk (p2P pk p))) 0 with g | g
    · unfold ptP at h
      rw [if_pos g] at h
      omega
    · exact g
  have h2 := st_kd (hp (p2P pk p)).2.1 (hp (p2P pk p)).2.2.1 h1
  have h3 := (hp (p2P pk p)).1 (st_m1 h1)
  have h4 := ixF_bd lOc (pk (p1P pk p))
  have e : lOc.length = 7 := rfl
  refine ⟨?_, ?_, h1, h3⟩
  · unfold ptP at h ⊢
    rw [if_neg (by omega)] at h ⊢
    split
    · next g =>
      rw [if_pos g] at h
      cases w with
      | none => exact absurd h (by show ¬ (0 : Int) ≤ -1; omega)
      | some q =>
        simp only at h ⊢
        split
        · next g2 => exact g2.1
        · next g2 => rw [if_neg g2] at h; omega
    · omega
  · unfold ptP at h ⊢
    rw [if_neg (by omega)] at h ⊢
    split
    · next g =>
      rw [if_pos g] at h
      cases w with
      | none => exact absurd h (by show ¬ (0 : Int) ≤ -1; omega)
      | some q =>
        simp only at h ⊢
        split
        · next g2 => exact g2.2
        · next g2 => rw [if_neg g2] at h; omega
    · omega
theorem dot_sp (hp : PK pk c) (hc : p ≤ c) : dotN pk p ≤ 2 ∧ p + dotN pk p ≤ c := by
  have h1 := (hp p).1
  have h2 := (hp (p + 1)).1
  unfold dotN
  split
  · split
    · have := h2 (by omega); omega
    · have := h1 (by omega); omega
  · omega
def okX (xs : List Int) : Prop := ∀ k : Nat, k < xs.length → ∃ n s : Int, xs.getD k 0 = n + 16 * s ∧ 2 ≤ n ∧ n ≤ 8 ∧ 0 ≤ s ∧ s ≤ 3
theorem okX_snoc {xs : List Int} {n s : Int} (h : okX xs) (hn : 2 ≤ n ∧ n ≤ 8) (hs : 0 ≤ s ∧ s ≤ 3) : okX (xs ++ [n + 16 * s]) := by
  intro k hk
  rw [getD_snoc xs _ k hk]
  by_cases g : k = xs.length
  · rw [if_pos g]
    exact ⟨n, s, rfl, hn.1, hn.2, hs.1, hs.2⟩
  · rw [if_neg g]
    simp only [List.length_append, List.length_cons, List.length_nil] at hk
    exact h k (by omega)
theorem iv_sp {pt : Int} (hp : PK pk c) : ∀ (k p : Nat) (xs : List Int) (q : Nat) (ys : List Int), p ≤ c → xs.length + k ≤ 4 → okX xs → ivR pk hd pt k p xs = .ok (q, ys) → p ≤ q ∧ q ≤ c ∧ ys.length ≤ 4 ∧ okX ys
  | 0, p, xs, q, ys, hc, hk, hx, h => by
    unfold ivR at h
    simp only [Except.ok.injEq, Prod.mk.injEq] at h
    obtain ⟨rfl, rfl⟩ := h
    exact ⟨Nat.le_refl _, hc, by omega, hx⟩
  | k + 1, p, xs, q, ys, hc, hk, hx, h => by
    unfold ivR at h
    split at h
    · simp only [Except.ok.injEq, Prod.mk.injEq] at h
      obtain ⟨rfl, rfl⟩ := h
      exact ⟨Nat.le_refl _, hc, by omega, hx⟩
    · next g =>
      split at h
      · have b1 := ixF_bd lDn (pk (p1P pk p))
        have e : lDn.length = 7 := rfl
        have b2 := lSg_bd (pk p)
        have hlt := (hp (p1P pk p)).1 (fun z => by rw [z, m1_Dn] at g; omega)
        have p1 := p1_le (pk := pk) p
        have := iv_sp hp k _ _ q ys (by omega) (by simp only [List.length_append, List.length_cons, List.length_nil]; omega) (okX_snoc hx (by omega) b2) h
        exact ⟨by omega, this.2.1, this.2.2.1, this.2.2.2⟩
      · exact absurd h (by simp)
theorem tie_sp (hp : PK pk c) (hc : p ≤ c) : tieN pk p ≤ 1 ∧ p + 2 * tieN pk p ≤ c := by
  unfold tieN
  split
  · next g =>
    have := (hp (p + 1)).1 (by omega)
    omega
  · omega
theorem sl_sp (hp : PK pk c) (hc : p ≤ c) : p ≤ (slP pk p o).1 ∧ (slP pk p o).1 ≤ c ∧ ((slP pk p o).2.2 = 0 ∨ (slP pk p o).2.2 = 1) := by
  unfold slP
  split
  · split
    · next g =>
      have := (hp (p + 1)).1 (by omega)
      exact ⟨by show p ≤ p + 2; omega, by show p + 2 ≤ c; omega, Or.inl rfl⟩
    · exact ⟨Nat.le_refl _, hc, Or.inr rfl⟩
  · split
    · next g =>
      have := (hp p).1 (by omega)
      exact ⟨by show p ≤ p + 1; omega, by show p + 1 ≤ c; omega, Or.inr rfl⟩
    · exact ⟨Nat.le_refl _, hc, Or.inl rfl⟩
def okD (d : Dat) : Prop := (d.1 = 0 ∨ (7 ≤ d.1 ∧ d.1 ≤ 55)) ∧ (0 ≤ d.2.1 ∧ d.2.1 ≤ 3) ∧ (0 ≤ d.2.2.1 ∧ d.2.2.1 ≤ 3) ∧ (-1 ≤ d.2.2.2.1 ∧ d.2.2.2.1 ≤ 1) ∧ (0 ≤ d.2.2.2.2.1 ∧ d.2.2.2.2.1 ≤ 2) ∧ (d.2.2.2.2.2.1 = 0 ∨ d.2.2.2.2.2.1 = 1) ∧ (d.2.2.2.2.2.2.1 = 0 ∨ d.2.2.2.2.2.2.1 = 1) ∧ d.2.2.2.2.2.2.2.length ≤ 4 ∧ okX d.2.2.2.2.2.2.2 ∧ (d.1 = 0 → d.2.2.2.2.2.1 = 0 ∧ d.2.2.2.2.2.2.2 = [])
def okW (w : Option Int) : Prop := match w with
  | none => True
  | some q => 7 ≤ q ∧ q ≤ 55
theorem size_sp {q : Nat} {t1 : Int} (hp : PK pk c) (hc : p ≤ c) (ht : -1 ≤ t ∧ t ≤ 1) (h : sizeP pk p t = .ok (q, t1)) : p ≤ q ∧ q ≤ c ∧ (-1 ≤ t1 ∧ t1 ≤ 1) ∧ (0 ≤ t → 0 ≤ t1) := by
  unfold sizeP at h
  split at h
  · split at h
    · next g g2 =>
      have := (hp (p + 2)).1 (by omega)
      simp only [Except.ok.injEq, Prod.mk.injEq] at h
      obtain ⟨rfl, rfl⟩ := h
      refine ⟨by omega, by omega, ?_, ?_⟩
      · split <;> omega
      · split <;> omega
    · exact absurd h (by simp)
  · simp only [Except.ok.injEq, Prod.mk.injEq] at h
    obtain ⟨rfl, rfl⟩ := h
    exact ⟨Nat.le_refl _, hc, ht, fun z => z⟩
theorem open_sp {q : Nat} {o1 : Bool} (hp : PK pk c) (hc : p ≤ c) (h : openP pk p o = .ok (q, o1)) : p ≤ q ∧ q ≤ c := by
  unfold openP at h
  split at h
  · next g =>
    split at h
    · exact absurd h (by simp)
    · have := (hp (p + 1)).1 (by omega)
      simp only [Except.ok.injEq, Prod.mk.injEq] at h
      obtain ⟨rfl, rfl⟩ := h
      omega
  · simp only [Except.ok.injEq, Prod.mk.injEq] at h
    obtain ⟨rfl, rfl⟩ := h
    exact ⟨Nat.le_refl _, hc⟩
theorem item_sp {p' : Nat} {o' : Bool} {t' : Int} {w' : Option Int} {d : Dat} (hp : PK pk c) (hc : p ≤ c) (ht : -1 ≤ t ∧ t ≤ 1) (hw : okW w) (h : itemP pk hd p o t w = .ok (p', o', t', w', d)) : p < p' ∧ p' ≤ c ∧ (-1 ≤ t' ∧ t' ≤ 1) ∧ (0 ≤ t → 0 ≤ t') ∧ okW w' ∧ okD d ∧ d.2.2.2.1 = t' := by
  unfold itemP at h
  cases hs : sizeP pk p t with
  | error e => rw [hs] at h; exact absurd h (by simp)
  | ok x =>
    obtain ⟨q0, t1⟩ := x
    rw [hs] at h
    simp only at h
    have s1 := size_sp hp hc ht hs
    cases ho : openP pk q0 o with
    | error e => rw [ho] at h; exact absurd h (by simp)
    | ok y =>
      obtain ⟨q, o1⟩ := y
      rw [ho] at h
      simp only at h
      have s2 := open_sp hp s1.2.1 ho
      split at h
      · next g =>
        have b := ixF_bd lRs (pk q)
        have e : lRs.length = 4 := rfl
        have hq := (hp q).1 (fun z => by rw [z, m1_Rs] at g; omega)
        have s3 := dot_sp (p := q + 1) hp (by omega)
        have s4 := sl_sp (p := q + 1 + dotN pk (q + 1)) (o := o1) hp s3.2
        simp only [Except.ok.injEq, Prod.mk.injEq] at h
        obtain ⟨rfl, rfl, rfl, rfl, rfl⟩ := h
        refine ⟨by omega, s4.2.1, s1.2.2.1, s1.2.2.2, hw, ⟨Or.inl rfl, ⟨Int.le_refl _, by show (0 : Int) ≤ 3; omega⟩, ⟨g, by show ixF lRs (pk q) ≤ 3; omega⟩, s1.2.2.1, ⟨by show (0 : Int) ≤ (dotN pk (q + 1) : Int); omega, by show (dotN pk (q + 1) : Int) ≤ 2; omega⟩, Or.inl rfl, s4.2.2, by show 0 ≤ 4; omega, fun k hk => absurd hk (Nat.not_lt_zero k), fun _ => ⟨rfl, rfl⟩⟩, rfl⟩
      · split at h
        · exact absurd h (by simp)
        · next g g2 =>
          have s3 := pt_sp (p := q) (w := w) hp (by omega)
          have k4 := st_kd (hp (p2P pk q)).2.1 (hp (p2P pk q)).2.2.1 s3.2.2.1
          have s4 := dot_sp (p := p2P pk q + 1) hp (by omega)
          have p1 := p1_le (pk := pk) q
          have p2 := p2_le (pk := pk) q
          cases hi : ivR pk hd (ptP pk q w) 4 (p2P pk q + 1 + dotN pk (p2P pk q + 1)) [] with
          | error e => rw [hi] at h; exact absurd h (by simp)
          | ok z =>
            obtain ⟨q3, xs⟩ := z
            rw [hi] at h
            simp only at h
            have s5 := iv_sp hp 4 _ [] q3 xs s4.2 (by show 0 + 4 ≤ 4; omega) (fun k hk => absurd hk (Nat.not_lt_zero k)) hi
            have s6 := tie_sp (p := q3) hp s5.2.1
            have s7 := sl_sp (p := q3 + 2 * tieN pk q3) (o := o1) hp s6.2
            simp only [Except.ok.injEq, Prod.mk.injEq] at h
            obtain ⟨rfl, rfl, rfl, rfl, rfl⟩ := h
            refine ⟨by omega, s7.2.1, s1.2.2.1, s1.2.2.2, ⟨s3.1, s3.2.1⟩, ⟨Or.inr ⟨s3.1, s3.2.1⟩, lSg_bd _, ⟨k4.2.2.1, k4.2.2.2⟩, s1.2.2.1, ⟨by show (0 : Int) ≤ (dotN pk (p2P pk q + 1) : Int); omega, by show (dotN pk (p2P pk q + 1) : Int) ≤ 2; omega⟩, ?_, s7.2.2, s5.2.2.1, s5.2.2.2, fun z => ?_⟩, rfl⟩
            · show (tieN pk q3 : Int) = 0 ∨ (tieN pk q3 : Int) = 1
              omega
            · have z' : ptP pk q w = 0 := z
              omega
theorem sAdd_item (S : Mus) (a2 a3 a4 a5 a6 : Int) : sItem S a2 a3 a4 a5 a6 = sAdd S (a2, a3, a4, a5, a6, 0, 0, []) := by
  unfold sItem sAdd
  have : ∀ a : Nat, aItem S a2 a3 a4 a5 a6 a = (if a = 0 then (gNb S : Int) - 1 else if a = 1 then (gVo S (gNb S - 1) : Int) - 1 else datA (a2, a3, a4, a5, a6, 0, 0, []) a) := by
    intro a
    match a with
    | 0 => rfl
    | 1 => rfl
    | 2 => rfl
    | 3 => rfl
    | 4 => rfl
    | 5 => rfl
    | 6 => rfl
    | 7 => rfl
    | 8 => rfl
    | 9 => rfl
    | a + 10 =>
      show (0 : Int) = if a + 10 = 0 then _ else if a + 10 = 1 then _ else [].getD a 0
      rw [if_neg (by omega), if_neg (by omega)]
      simp
  have e : (fun i k => if i = gNi S then aItem S a2 a3 a4 a5 a6 k else gIt S i k) = (fun i a => if i = gNi S then (if a = 0 then (gNb S : Int) - 1 else if a = 1 then (gVo S (gNb S - 1) : Int) - 1 else datA (a2, a3, a4, a5, a6, 0, 0, []) a) else gIt S i a) := by
    funext i a
    rw [this]
  rw [e]
theorem sAdd_iv (S : Mus) (a2 a3 a4 a5 a6 a7 a8 x : Int) (xs : List Int) : sIv (sAdd S (a2, a3, a4, a5, a6, a7, a8, xs)) x = sAdd S (a2, a3, a4, a5, a6, a7, a8, xs ++ [x]) := by
  have en : gNi (sAdd S (a2, a3, a4, a5, a6, a7, a8, xs)) - 1 = gNi S := rfl
  have e9 : gIt (sAdd S (a2, a3, a4, a5, a6, a7, a8, xs)) (gNi S) 9 = (xs.length : Int) := by
    show (if gNi S = gNi S then (if 9 = 0 then _ else if 9 = 1 then _ else datA (a2, a3, a4, a5, a6, a7, a8, xs) 9) else _) = _
    rw [if_pos rfl, if_neg (by omega), if_neg (by omega)]
    rfl
  have e : (fun i a => if i = gNi S ∧ a = 9 then (xs.length : Int) + 1 else if i = gNi S ∧ a = 10 + ((xs.length : Int)).toNat then x else gIt (sAdd S (a2, a3, a4, a5, a6, a7, a8, xs)) i a) = gIt (sAdd S (a2, a3, a4, a5, a6, a7, a8, xs ++ [x])) := by
    funext i a
    show _ = (if i = gNi S then (if a = 0 then (gNb S : Int) - 1 else if a = 1 then (gVo S (gNb S - 1) : Int) - 1 else datA (a2, a3, a4, a5, a6, a7, a8, xs ++ [x]) a) else gIt S i a)
    have e2 : gIt (sAdd S (a2, a3, a4, a5, a6, a7, a8, xs)) i a = (if i = gNi S then (if a = 0 then (gNb S : Int) - 1 else if a = 1 then (gVo S (gNb S - 1) : Int) - 1 else datA (a2, a3, a4, a5, a6, a7, a8, xs) a) else gIt S i a) := rfl
    rw [e2]
    by_cases g : i = gNi S
    · simp only [g, true_and, if_true]
      match a with
      | 0 => rw [if_neg (by omega), if_neg (by omega)]; rfl
      | 1 => rw [if_neg (by omega), if_neg (by omega)]; rfl
      | 2 => rw [if_neg (by omega), if_neg (by omega)]; rfl
      | 3 => rw [if_neg (by omega), if_neg (by omega)]; rfl
      | 4 => rw [if_neg (by omega), if_neg (by omega)]; rfl
      | 5 => rw [if_neg (by omega), if_neg (by omega)]; rfl
      | 6 => rw [if_neg (by omega), if_neg (by omega)]; rfl
      | 7 => rw [if_neg (by omega), if_neg (by omega)]; rfl
      | 8 => rw [if_neg (by omega), if_neg (by omega)]; rfl
      | 9 =>
        show (xs.length : Int) + 1 = ((xs ++ [x]).length : Int)
        rw [List.length_append]
        rfl
      | a + 10 =>
        rw [if_neg (by omega), tn_nat, if_neg (show ¬ a + 10 = 0 by omega), if_neg (show ¬ a + 10 = 1 by omega), if_neg (show ¬ a + 10 = 0 by omega), if_neg (show ¬ a + 10 = 1 by omega)]
        show (if a + 10 = 10 + xs.length then x else xs.getD a 0) = (xs ++ [x]).getD a 0
        by_cases g2 : a = xs.length
        · subst g2
          rw [if_pos (by omega)]
          have := getD_right (L := xs) (X := [x]) (j := 0)
          rw [Nat.add_zero] at this
          rw [this]
          rfl
        · rw [if_neg (by omega)]
          rcases Nat.lt_or_ge a xs.length with g3 | g3
          · rw [getD_left g3]
          · simp only [List.getD_eq_getElem?_getD]
            rw [List.getElem?_eq_none (by omega), List.getElem?_eq_none (by simp only [List.length_append, List.length_cons, List.length_nil]; omega)]
    · simp only [g, false_and, if_false]
  unfold sIv
  rw [en, e9, e]
  rfl
theorem sAdd_tie (S : Mus) (a2 a3 a4 a5 a6 a7 a8 x : Int) (xs : List Int) : sSet (sAdd S (a2, a3, a4, a5, a6, a7, a8, xs)) (gNi S) 7 x = sAdd S (a2, a3, a4, a5, a6, x, a8, xs) := by
  have e : (fun i2 b2 => if i2 = gNi S ∧ b2 = 7 then x else gIt (sAdd S (a2, a3, a4, a5, a6, a7, a8, xs)) i2 b2) = gIt (sAdd S (a2, a3, a4, a5, a6, x, a8, xs)) := by
    funext i a
    show (if i = gNi S ∧ a = 7 then x else (if i = gNi S then (if a = 0 then (gNb S : Int) - 1 else if a = 1 then (gVo S (gNb S - 1) : Int) - 1 else datA (a2, a3, a4, a5, a6, a7, a8, xs) a) else gIt S i a)) = (if i = gNi S then (if a = 0 then (gNb S : Int) - 1 else if a = 1 then (gVo S (gNb S - 1) : Int) - 1 else datA (a2, a3, a4, a5, a6, x, a8, xs) a) else gIt S i a)
    by_cases g : i = gNi S
    · simp only [g, true_and, if_true]
      match a with
      | 0 => rfl
      | 1 => rfl
      | 2 => rfl
      | 3 => rfl
      | 4 => rfl
      | 5 => rfl
      | 6 => rfl
      | 7 => rfl
      | 8 => rfl
      | 9 => rfl
      | a + 10 => rw [if_neg (by omega)]; rfl
    · simp only [g, false_and, if_false]
  unfold sSet
  rw [e]
  rfl
theorem sAdd_slur (S : Mus) (a2 a3 a4 a5 a6 a7 a8 x : Int) (xs : List Int) : sSet (sAdd S (a2, a3, a4, a5, a6, a7, a8, xs)) (gNi S) 8 x = sAdd S (a2, a3, a4, a5, a6, a7, x, xs) := by
  have e : (fun i2 b2 => if i2 = gNi S ∧ b2 = 8 then x else gIt (sAdd S (a2, a3, a4, a5, a6, a7, a8, xs)) i2 b2) = gIt (sAdd S (a2, a3, a4, a5, a6, a7, x, xs)) := by
    funext i a
    show (if i = gNi S ∧ a = 8 then x else (if i = gNi S then (if a = 0 then (gNb S : Int) - 1 else if a = 1 then (gVo S (gNb S - 1) : Int) - 1 else datA (a2, a3, a4, a5, a6, a7, a8, xs) a) else gIt S i a)) = (if i = gNi S then (if a = 0 then (gNb S : Int) - 1 else if a = 1 then (gVo S (gNb S - 1) : Int) - 1 else datA (a2, a3, a4, a5, a6, a7, x, xs) a) else gIt S i a)
    by_cases g : i = gNi S
    · simp only [g, true_and, if_true]
      match a with
      | 0 => rfl
      | 1 => rfl
      | 2 => rfl
      | 3 => rfl
      | 4 => rfl
      | 5 => rfl
      | 6 => rfl
      | 7 => rfl
      | 8 => rfl
      | 9 => rfl
      | a + 10 => rw [if_neg (by omega)]; rfl
    · simp only [g, false_and, if_false]
  unfold sSet
  rw [e]
  rfl
/-- nothing but an item's numbers has changed -/
theorem MV_same {S S' : Mus} {i0 : Nat} (h : MV S) (e1 : gLen S' = gLen S) (e2 : gHd S' = gHd S) (e3 : gNb S' = gNb S) (e4 : gNi S' = gNi S) (e5 : gVo S' = gVo S) (e6 : gFo S' = gFo S) (e7 : gSz S' = gSz S) (e8 : ∀ i a : Nat, ¬ i = i0 → gIt S' i a = gIt S i a) (e9 : gIt S' i0 0 = gIt S i0 0 ∧ gIt S' i0 1 = gIt S i0 1) (hI : i0 < gNi S → IV S' i0) : MV S' := by
  obtain ⟨v1, v2, v3, v4, v5, v6, v7, v8⟩ := h
  have e01 : ∀ i : Nat, gIt S' i 0 = gIt S i 0 ∧ gIt S' i 1 = gIt S i 1 := fun i => by
    by_cases g : i = i0
    · subst g; exact e9
    · exact ⟨e8 i 0 g, e8 i 1 g⟩
  refine ⟨by rw [e1]; exact v1, by rw [e2]; exact v2, by rw [e3]; exact v3, by rw [e4]; exact v4, by rw [e3, e5]; exact v5, fun i hi => ?_, fun b v hb hvv => ?_, by rw [e3, e5, e6, e7, e4]; exact v8⟩
  · rw [e4] at hi
    by_cases g : i = i0
    · subst g; exact hI hi
    · have := v6 i hi
      unfold IV at this ⊢
      simp only [e8 i _ g, e3, e5]
      exact this
  · rw [e3] at hb
    rw [e5] at hvv
    have := v7 b v hb hvv
    rw [e6, e7, e4]
    refine ⟨this.1, this.2.1, fun i hi => ?_⟩
    rw [(e01 i).1, (e01 i).2]
    exact this.2.2 i hi
theorem add_it {d : Dat} {i a : Nat} (h : ¬ i = gNi S) : gIt (sAdd S d) i a = gIt S i a := if_neg h
theorem add_0 {d : Dat} : gIt (sAdd S d) (gNi S) 0 = (gNb S : Int) - 1 := by
  show (if gNi S = gNi S then (if 0 = 0 then (gNb S : Int) - 1 else if 0 = 1 then (gVo S (gNb S - 1) : Int) - 1 else datA d 0) else gIt S (gNi S) 0) = _
  rw [if_pos rfl, if_pos rfl]
theorem add_1 {d : Dat} : gIt (sAdd S d) (gNi S) 1 = (gVo S (gNb S - 1) : Int) - 1 := by
  show (if gNi S = gNi S then (if 1 = 0 then (gNb S : Int) - 1 else if 1 = 1 then (gVo S (gNb S - 1) : Int) - 1 else datA d 1) else gIt S (gNi S) 1) = _
  rw [if_pos rfl, if_neg (by decide), if_pos rfl]
theorem add_a {d : Dat} {a : Nat} (h : 2 ≤ a) : gIt (sAdd S d) (gNi S) a = datA d a := by
  show (if gNi S = gNi S then (if a = 0 then (gNb S : Int) - 1 else if a = 1 then (gVo S (gNb S - 1) : Int) - 1 else datA d a) else gIt S (gNi S) a) = _
  rw [if_pos rfl, if_neg (by omega), if_neg (by omega)]
theorem MV_add {d : Dat} (h : MV S) (hl : ¬ lastS S < 0) (hi : gNi S < 600) (hs : gSz S (lastS S).toNat < 40) (hd : okD d) : MV (sAdd S d) := by
  obtain ⟨a2, a3, a4, a5, a6, a7, a8, xs⟩ := d
  obtain ⟨d1, d2, d3, d4, d5, d6, d7, d8, d9, d10⟩ := hd
  simp only at d1 d2 d3 d4 d5 d6 d7 d8 d9 d10
  have h1 : MV (sItem S a2 a3 a4 a5 a6) := MV_item h hl hi hs d1 d2 d3 ⟨d4.1, by omega⟩ d5
  rw [sAdd_item] at h1
  refine MV_same (i0 := gNi S) h1 rfl rfl rfl rfl rfl rfl rfl (fun i a g => by rw [add_it g, add_it g]) ⟨by rw [add_0, add_0], by rw [add_1, add_1]⟩ (fun _ => ?_)
  have old := h1.2.2.2.2.2.1 (gNi S) (Nat.lt_succ_self _)
  obtain ⟨w0, w1, -⟩ := old
  rw [add_0] at w0 w1
  rw [add_1] at w1
  unfold IV
  rw [add_0, add_1, add_a (a := 2) (by omega), add_a (a := 3) (by omega), add_a (a := 4) (by omega), add_a (a := 5) (by omega), add_a (a := 6) (by omega), add_a (a := 7) (by omega), add_a (a := 8) (by omega), add_a (a := 9) (by omega)]
  refine ⟨w0, w1, d1, d2, d3, ⟨d4.1, ?_⟩, d5, d6, d7, ⟨?_, ?_⟩, fun k hk => ?_⟩
  · show a5 ≤ 2
    omega
  · show (0 : Int) ≤ (xs.length : Int)
    omega
  · show (xs.length : Int) ≤ 4
    omega
  · have hk' : (k : Int) < (xs.length : Int) := hk
    rw [add_a (by omega), show 10 + k = k + 10 by omega]
    exact d9 k (by omega)
end Parse2
