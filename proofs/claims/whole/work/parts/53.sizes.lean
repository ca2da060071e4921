/-! sizes of a voice's items: the reference's costs (rc) and the class's (lc) -/
section Sizes
def mn (a b : Int) : Int := if b ≤ a then b else a
def lf (f : Nat → Int) (i : Nat) (s : Int) : Int := if s = 0 then 16 * f i else f i
def rc (f w : Nat → Int) (n : Nat) : Nat → Int → Int → Int
  | 0, _, r => if r = 0 then 0 else 1000000
  | k + 1, s, r => if (w (n - (k + 1)) < 0 ∨ w (n - (k + 1)) = s) ∧ lf f (n - (k + 1)) s ≤ r then mn (rc f w n k s (r - lf f (n - (k + 1)) s)) (rc f w n k (1 - s) (r - lf f (n - (k + 1)) s) + 1) else 1000000
def lc (f : Nat → Int) (u : Nat) (nx : Int) : Nat → Int → Int → Int
  | 0, s, t => if t = 0 ∧ (nx = -1 ∨ nx = s) then 0 else 1000
  | k + 1, s, t => if s = 0 then (if t < f (u - (k + 1)) then 1000 else mn (lc f u nx k 0 (t - f (u - (k + 1)))) (lc f u nx k 1 (t - f (u - (k + 1))) + 1)) else mn (lc f u nx k 1 t) (lc f u nx k 0 t + 1)
def tlS (f w : Nat → Int) (n : Nat) : Nat → Int
  | 0 => 0
  | k + 1 => lf f (n - (k + 1)) (w (n - (k + 1))) + tlS f w n k
def chS (w : Nat → Int) (n : Nat) : Nat → Int
  | 0 => 0
  | 1 => 0
  | k + 2 => chS w n (k + 1) + (if w (n - (k + 2)) = w (n - (k + 1)) then 0 else 1)
def bsS (f w : Nat → Int) (n u : Nat) : Nat → Int
  | 0 => tlS f w n (n - u)
  | k + 1 => f (u - (k + 1)) + bsS f w n u k
variable {f w : Nat → Int} {n u : Nat} {nx : Int}
theorem lc_bd : ∀ (k : Nat) (s t : Int), k ≤ 40 → lc f u nx k s t = 1000 ∨ (0 ≤ lc f u nx k s t ∧ lc f u nx k s t ≤ k)
  | 0, s, t, _ => by
    unfold lc
    split
    · right; omega
    · left; rfl
  | k + 1, s, t, hk => by
    have h1 := fun s t => lc_bd k s t (by omega)
    unfold lc mn
    split
    · split
      · left; rfl
      · have a := h1 0 (t - f (u - (k + 1)))
        have b := h1 1 (t - f (u - (k + 1)))
        split <;> omega
    · have a := h1 0 t
      have b := h1 1 t
      split <;> omega
theorem chS_bd : ∀ k : Nat, 0 ≤ chS w n k ∧ chS w n k ≤ k
  | 0 => by unfold chS; omega
  | 1 => by unfold chS; omega
  | k + 2 => by
    have := chS_bd (k + 1)
    unfold chS
    split <;> omega
theorem tlS_nn (hf : ∀ j : Nat, j < n → 0 ≤ f j) : ∀ k : Nat, k ≤ n → 0 ≤ tlS f w n k
  | 0, _ => by unfold tlS; omega
  | k + 1, hk => by
    have := tlS_nn hf k (by omega)
    have h2 := hf (n - (k + 1)) (by omega)
    unfold tlS lf
    split <;> omega
theorem bsS_nn (hf : ∀ j : Nat, j < n → 0 ≤ f j) (hu : u ≤ n) : ∀ k : Nat, k ≤ u → 0 ≤ bsS f w n u k
  | 0, _ => tlS_nn hf _ (by omega)
  | k + 1, hk => by
    have := bsS_nn hf hu k (by omega)
    have h2 := hf (u - (k + 1)) (by omega)
    unfold bsS
    omega
theorem rc_tail (hf : ∀ j : Nat, j < n → 0 ≤ f j) : ∀ (k : Nat), k + 1 ≤ n → k + 1 ≤ 40 → (∀ j : Nat, n - (k + 1) ≤ j → j < n → w j = 0 ∨ w j = 1) → ∀ (s r : Int), (s = 0 ∨ s = 1) → rc f w n (k + 1) s r = if s = w (n - (k + 1)) ∧ r = tlS f w n (k + 1) then chS w n (k + 1) else 1000000
  | 0, hk, _, hw, s, r, hs => by
    have h0 := hw (n - 1) (by omega) (by omega)
    have hf0 := hf (n - 1) (by omega)
    show (if (w (n - 1) < 0 ∨ w (n - 1) = s) ∧ lf f (n - 1) s ≤ r then mn (if r - lf f (n - 1) s = 0 then 0 else 1000000) ((if r - lf f (n - 1) s = 0 then 0 else 1000000) + 1) else 1000000) = if s = w (n - 1) ∧ r = lf f (n - 1) (w (n - 1)) + 0 then 0 else 1000000
    unfold mn
    by_cases g : s = w (n - 1)
    · rw [← g]
      repeat' split
      all_goals omega
    · repeat' split
      all_goals omega
  | k + 1, hk, h40, hw, s, r, hs => by
    have ih := rc_tail hf k (by omega) (by omega) (fun j h1 h2 => hw j (by omega) h2)
    have h0 := hw (n - (k + 1 + 1)) (by omega) (by omega)
    have h1 := hw (n - (k + 1)) (by omega) (by omega)
    have hb := chS_bd (w := w) (n := n) (k + 1)
    have hl : 0 ≤ tlS f w n (k + 1) := tlS_nn hf _ (by omega)
    rw [show rc f w n (k + 1 + 1) s r = if (w (n - (k + 1 + 1)) < 0 ∨ w (n - (k + 1 + 1)) = s) ∧ lf f (n - (k + 1 + 1)) s ≤ r then mn (rc f w n (k + 1) s (r - lf f (n - (k + 1 + 1)) s)) (rc f w n (k + 1) (1 - s) (r - lf f (n - (k + 1 + 1)) s) + 1) else 1000000 from rfl, show tlS f w n (k + 1 + 1) = lf f (n - (k + 1 + 1)) (w (n - (k + 1 + 1))) + tlS f w n (k + 1) from rfl, show chS w n (k + 1 + 1) = chS w n (k + 1) + (if w (n - (k + 2)) = w (n - (k + 1)) then 0 else 1) from rfl, ih s _ hs, ih (1 - s) _ (by omega)]
    rw [show k + 2 = k + 1 + 1 from rfl]
    unfold mn
    by_cases g : s = w (n - (k + 1 + 1))
    · rw [← g]
      repeat' split
      all_goals omega
    · repeat' split
      all_goals omega
/-- what stands before the first told item -/
def nxS (w : Nat → Int) (n u : Nat) : Int := if u < n then w u else -1
theorem rc_lc (hf : ∀ j : Nat, j < n → 0 ≤ f j) (hu : u ≤ n) (h40 : n ≤ 40) (h0 : ∀ j : Nat, j < u → w j < 0) (h1 : ∀ j : Nat, u ≤ j → j < n → w j = 0 ∨ w j = 1) : ∀ (k : Nat), k ≤ u → ∀ (s t : Int), (s = 0 ∨ s = 1) → rc f w n (n - u + k) s (bsS f w n u k + 15 * t) = if t < 0 ∨ lc f u (nxS w n u) k s t = 1000 then 1000000 else lc f u (nxS w n u) k s t + chS w n (n - u)
  | 0, _, s, t, hs => by
    rcases Nat.lt_or_ge u n with g | g
    · have e := rc_tail hf (n - u - 1) (by omega) (by omega) (w := w) (fun j g1 g2 => h1 j (by omega) g2) s (bsS f w n u 0 + 15 * t) hs
      rw [show n - u - 1 + 1 = n - u by omega, show n - (n - u) = u by omega] at e
      rw [Nat.add_zero, e]
      have e2 : bsS f w n u 0 = tlS f w n (n - u) := rfl
      have e3 : lc f u (nxS w n u) 0 s t = if t = 0 ∧ (nxS w n u = -1 ∨ nxS w n u = s) then 0 else 1000 := rfl
      have e4 : nxS w n u = w u := if_pos g
      have h2 := h1 u (Nat.le_refl _) g
      rw [e2, e3, e4]
      repeat' split
      all_goals omega
    · have e : n - u = 0 := by omega
      have e4 : nxS w n u = -1 := if_neg (by omega)
      rw [e4, show bsS f w n u 0 = tlS f w n (n - u) from rfl, e]
      show (if 0 + 15 * t = 0 then (0 : Int) else 1000000) = if t < 0 ∨ (if t = 0 ∧ ((-1 : Int) = -1 ∨ (-1 : Int) = s) then (0 : Int) else 1000) = 1000 then 1000000 else (if t = 0 ∧ ((-1 : Int) = -1 ∨ (-1 : Int) = s) then (0 : Int) else 1000) + 0
      repeat' split
      all_goals omega
  | k + 1, hk, s, t, hs => by
    have ih := rc_lc hf hu h40 h0 h1 k (by omega)
    have hfk := hf (u - (k + 1)) (by omega)
    have hbn := bsS_nn hf hu (w := w) k (by omega)
    have hD := chS_bd (w := w) (n := n) (n - u)
    have hlb := fun s t => lc_bd (f := f) (u := u) (nx := nxS w n u) k s t (by omega)
    have ei : n - (n - u + k + 1) = u - (k + 1) := by omega
    rw [show n - u + (k + 1) = n - u + k + 1 by omega, show rc f w n (n - u + k + 1) s (bsS f w n u (k + 1) + 15 * t) = if (w (n - (n - u + k + 1)) < 0 ∨ w (n - (n - u + k + 1)) = s) ∧ lf f (n - (n - u + k + 1)) s ≤ (bsS f w n u (k + 1) + 15 * t) then mn (rc f w n (n - u + k) s ((bsS f w n u (k + 1) + 15 * t) - lf f (n - (n - u + k + 1)) s)) (rc f w n (n - u + k) (1 - s) ((bsS f w n u (k + 1) + 15 * t) - lf f (n - (n - u + k + 1)) s) + 1) else 1000000 from rfl, ei, show bsS f w n u (k + 1) = f (u - (k + 1)) + bsS f w n u k from rfl]
    have hwk := h0 (u - (k + 1)) (by omega)
    have mnF : mn 1000000 (1000000 + 1) = 1000000 := rfl
    rcases hs with rfl | rfl
    · have e1 : lf f (u - (k + 1)) 0 = 16 * f (u - (k + 1)) := rfl
      have e2 : lc f u (nxS w n u) (k + 1) 0 t = if t < f (u - (k + 1)) then 1000 else mn (lc f u (nxS w n u) k 0 (t - f (u - (k + 1)))) (lc f u (nxS w n u) k 1 (t - f (u - (k + 1))) + 1) := rfl
      rw [e1, e2, show f (u - (k + 1)) + bsS f w n u k + 15 * t - 16 * f (u - (k + 1)) = bsS f w n u k + 15 * (t - f (u - (k + 1))) by omega, ih 0 _ (Or.inl rfl), show (1 : Int) - 0 = 1 from rfl, ih 1 _ (Or.inr rfl)]
      have a := hlb 0 (t - f (u - (k + 1)))
      have b := hlb 1 (t - f (u - (k + 1)))
      generalize lc f u (nxS w n u) k 0 (t - f (u - (k + 1))) = A at *
      generalize lc f u (nxS w n u) k 1 (t - f (u - (k + 1))) = B at *
      unfold mn
      repeat' split
      all_goals omega
    · have e1 : lf f (u - (k + 1)) 1 = f (u - (k + 1)) := rfl
      have e2 : lc f u (nxS w n u) (k + 1) 1 t = mn (lc f u (nxS w n u) k 1 t) (lc f u (nxS w n u) k 0 t + 1) := rfl
      rw [e1, e2, show f (u - (k + 1)) + bsS f w n u k + 15 * t - f (u - (k + 1)) = bsS f w n u k + 15 * t by omega, ih 1 _ (Or.inr rfl), show (1 : Int) - 1 = 0 from rfl, ih 0 _ (Or.inl rfl)]
      have a := hlb 1 t
      have b := hlb 0 t
      generalize lc f u (nxS w n u) k 1 t = A at *
      generalize lc f u (nxS w n u) k 0 t = B at *
      unfold mn
      repeat' split
      all_goals omega
theorem rc_off (hf : ∀ j : Nat, j < n → 0 ≤ f j) (hu : u ≤ n) (h40 : n ≤ 40) (h1 : ∀ j : Nat, u ≤ j → j < n → w j = 0 ∨ w j = 1) : ∀ (k : Nat), k ≤ u → ∀ (s r : Int), (s = 0 ∨ s = 1) → ¬ (r - bsS f w n u k) % 15 = 0 → rc f w n (n - u + k) s r = 1000000
  | 0, _, s, r, hs, hr => by
    have e2 : bsS f w n u 0 = tlS f w n (n - u) := rfl
    rw [e2] at hr
    rcases Nat.lt_or_ge u n with g | g
    · have e := rc_tail hf (n - u - 1) (by omega) (by omega) (w := w) (fun j g1 g2 => h1 j (by omega) g2) s r hs
      rw [show n - u - 1 + 1 = n - u by omega] at e
      rw [Nat.add_zero, e, if_neg]
      intro z
      rw [z.2] at hr
      omega
    · have e : n - u = 0 := by omega
      rw [e] at hr ⊢
      show (if r = 0 then (0 : Int) else 1000000) = 1000000
      rw [if_neg]
      intro z
      subst z
      exact hr rfl
  | k + 1, hk, s, r, hs, hr => by
    have ih := rc_off hf hu h40 h1 k (by omega)
    have ei : n - (n - u + k + 1) = u - (k + 1) := by omega
    rw [show bsS f w n u (k + 1) = f (u - (k + 1)) + bsS f w n u k from rfl] at hr
    have hl : lf f (u - (k + 1)) s = 16 * f (u - (k + 1)) ∨ lf f (u - (k + 1)) s = f (u - (k + 1)) := by
      unfold lf
      split
      · left; rfl
      · right; rfl
    rw [show n - u + (k + 1) = n - u + k + 1 by omega, show rc f w n (n - u + k + 1) s r = if (w (n - (n - u + k + 1)) < 0 ∨ w (n - (n - u + k + 1)) = s) ∧ lf f (n - (n - u + k + 1)) s ≤ r then mn (rc f w n (n - u + k) s (r - lf f (n - (n - u + k + 1)) s)) (rc f w n (n - u + k) (1 - s) (r - lf f (n - (n - u + k + 1)) s) + 1) else 1000000 from rfl, ei, ih s _ hs (by omega), ih (1 - s) _ (by omega) (by omega)]
    split <;> rfl
end Sizes
