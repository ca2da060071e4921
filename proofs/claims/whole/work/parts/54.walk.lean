section Walk
def max0 (x : Int) : Int := if x < 0 then 0 else x
def one (a b : Int) : Int := if a = b then 1 else 0
theorem one_bd (a b : Int) : 0 ≤ one a b ∧ one a b ≤ 1 := by
  unfold one
  split <;> omega
def cst (f : Nat → Int) (u : Nat) (nx su : Int) : Nat → Int × Int
  | 0 => (su, -1)
  | j + 1 => if lc f u nx (u - j) 1 (cst f u nx su j).1 + one (cst f u nx su j).2 0 < lc f u nx (u - j) 0 (cst f u nx su j).1 + one (cst f u nx su j).2 1 then ((cst f u nx su j).1, 1) else (max0 ((cst f u nx su j).1 - f j), 0)
def rst (f w : Nat → Int) (n : Nat) (len : Int) : Nat → Int × Int
  | 0 => (len, -1)
  | j + 1 => if rc f w n (n - j) 1 (rst f w n len j).1 + one (rst f w n len j).2 0 < rc f w n (n - j) 0 (rst f w n len j).1 + one (rst f w n len j).2 1 then ((rst f w n len j).1 - lf f j 1, 1) else ((rst f w n len j).1 - lf f j 0, 0)
def rF (f w : Nat → Int) (n : Nat) (len : Int) (j : Nat) : Prop := 1000000 ≤ rc f w n (n - j) 0 (rst f w n len j).1 + one (rst f w n len j).2 1 ∧ 1000000 ≤ rc f w n (n - j) 1 (rst f w n len j).1 + one (rst f w n len j).2 0
def okS (f : Nat → Int) (u : Nat) (nx su : Int) : Prop := 0 ≤ su ∧ ¬ (lc f u nx u 0 su = 1000 ∧ lc f u nx u 1 su = 1000)
variable {f w : Nat → Int} {n u : Nat} {nx su len : Int}
theorem rc_bd : ∀ (k : Nat) (s r : Int), k ≤ 40 → rc f w n k s r = 1000000 ∨ (0 ≤ rc f w n k s r ∧ rc f w n k s r ≤ k)
  | 0, s, r, _ => by
    unfold rc
    split <;> omega
  | k + 1, s, r, hk => by
    unfold rc mn
    have h1 := fun s r => rc_bd k s r (by omega)
    have a := h1 s (r - lf f (n - (k + 1)) s)
    have b := h1 (1 - s) (r - lf f (n - (k + 1)) s)
    repeat' split
    all_goals omega
theorem cst_bd (hf : ∀ j : Nat, j < u → 0 ≤ f j) (hs : 0 ≤ su) : ∀ j : Nat, j ≤ u → (0 ≤ (cst f u nx su j).1 ∧ (cst f u nx su j).1 ≤ su) ∧ ((cst f u nx su j).2 = -1 ∨ (cst f u nx su j).2 = 0 ∨ (cst f u nx su j).2 = 1)
  | 0, _ => ⟨⟨hs, Int.le_refl _⟩, Or.inl rfl⟩
  | j + 1, hj => by
    have ih := cst_bd hf hs j (by omega)
    have hfj := hf j (by omega)
    unfold cst
    split
    · exact ⟨ih.1, Or.inr (Or.inr rfl)⟩
    · refine ⟨?_, Or.inr (Or.inl rfl)⟩
      show 0 ≤ max0 _ ∧ max0 _ ≤ su
      unfold max0
      split <;> omega
theorem cst_01 (j : Nat) : (cst f u nx su (j + 1)).2 = 0 ∨ (cst f u nx su (j + 1)).2 = 1 := by
  unfold cst
  split
  · right; rfl
  · left; rfl
theorem rst_02 (j : Nat) : (rst f w n len j).2 = -1 ∨ (rst f w n len j).2 = 0 ∨ (rst f w n len j).2 = 1 := by
  cases j with
  | zero => left; rfl
  | succ j =>
    unfold rst
    split
    · right; right; rfl
    · right; left; rfl
theorem rc_fit {k : Nat} {s r : Int} (h : rc f w n (k + 1) s r < 1000000) : lf f (n - (k + 1)) s ≤ r := by
  unfold rc at h
  split at h
  · next g => exact g.2
  · omega
theorem lf_nn {i : Nat} {s : Int} (h : 0 ≤ f i) : 0 ≤ lf f i s := by
  unfold lf
  split <;> omega
theorem rst_bd (hf : ∀ j : Nat, j < n → 0 ≤ f j) (h40 : n ≤ 40) (hl : 0 ≤ len) : ∀ j : Nat, j ≤ n → (∀ i : Nat, i < j → ¬ rF f w n len i) → 0 ≤ (rst f w n len j).1 ∧ (rst f w n len j).1 ≤ len
  | 0, _, _ => ⟨hl, Int.le_refl _⟩
  | j + 1, hj, hF => by
    have ih := rst_bd hf h40 hl j (by omega) (fun i hi => hF i (by omega))
    have hno := hF j (by omega)
    have hfj := hf j (by omega)
    unfold rF at hno
    have o1 := one_bd (rst f w n len j).2 0
    have o2 := one_bd (rst f w n len j).2 1
    have e : n - j = n - j - 1 + 1 := by omega
    have e2 : n - (n - j - 1 + 1) = j := by omega
    have l0 := lf_nn (i := j) (s := 0) hfj
    have l1 := lf_nn (i := j) (s := 1) hfj
    have k0 := rc_fit (f := f) (w := w) (n := n) (k := n - j - 1) (s := 0) (r := (rst f w n len j).1)
    have k1 := rc_fit (f := f) (w := w) (n := n) (k := n - j - 1) (s := 1) (r := (rst f w n len j).1)
    rw [← e, show n - (n - j) = j by omega] at k0 k1
    unfold rst
    split
    · show 0 ≤ (rst f w n len j).1 - lf f j 1 ∧ (rst f w n len j).1 - lf f j 1 ≤ len
      omega
    · show 0 ≤ (rst f w n len j).1 - lf f j 0 ∧ (rst f w n len j).1 - lf f j 0 ≤ len
      omega
theorem walk1 (hf : ∀ j : Nat, j < n → 0 ≤ f j) (hu : u ≤ n) (h40 : n ≤ 40) (h0 : ∀ j : Nat, j < u → w j < 0) (h1 : ∀ j : Nat, u ≤ j → j < n → w j = 0 ∨ w j = 1) (hlen : len = bsS f w n u u + 15 * su) (hok : okS f u (nxS w n u) su) : ∀ j : Nat, j ≤ u → (rst f w n len j).2 = (cst f u (nxS w n u) su j).2 ∧ (rst f w n len j).1 = bsS f w n u (u - j) + 15 * (cst f u (nxS w n u) su j).1 ∧ ¬ (lc f u (nxS w n u) (u - j) 0 (cst f u (nxS w n u) su j).1 = 1000 ∧ lc f u (nxS w n u) (u - j) 1 (cst f u (nxS w n u) su j).1 = 1000) ∧ 0 ≤ (cst f u (nxS w n u) su j).1
  | 0, _ => ⟨rfl, hlen, hok.2, hok.1⟩
  | j + 1, hj => by
    obtain ⟨i1, i2, i3, i4⟩ := walk1 hf hu h40 h0 h1 hlen hok j (by omega)
    have hfj := hf j (by omega)
    have A := rc_lc hf hu h40 h0 h1 (u - j) (by omega)
    have hD := chS_bd (w := w) (n := n) (n - u)
    have b0 := lc_bd (f := f) (u := u) (nx := nxS w n u) (u - j) 0 (cst f u (nxS w n u) su j).1 (by omega)
    have b1 := lc_bd (f := f) (u := u) (nx := nxS w n u) (u - j) 1 (cst f u (nxS w n u) su j).1 (by omega)
    have o1 := one_bd (cst f u (nxS w n u) su j).2 0
    have o2 := one_bd (cst f u (nxS w n u) su j).2 1
    have A0 := A 0 (cst f u (nxS w n u) su j).1 (Or.inl rfl)
    have A1 := A 1 (cst f u (nxS w n u) su j).1 (Or.inr rfl)
    rw [← i2, show n - u + (u - j) = n - j by omega] at A0 A1
    have er : rst f w n len (j + 1) = if rc f w n (n - j) 1 (rst f w n len j).1 + one (rst f w n len j).2 0 < rc f w n (n - j) 0 (rst f w n len j).1 + one (rst f w n len j).2 1 then ((rst f w n len j).1 - lf f j 1, 1) else ((rst f w n len j).1 - lf f j 0, 0) := rfl
    have ec : cst f u (nxS w n u) su (j + 1) = if lc f u (nxS w n u) (u - j) 1 (cst f u (nxS w n u) su j).1 + one (cst f u (nxS w n u) su j).2 0 < lc f u (nxS w n u) (u - j) 0 (cst f u (nxS w n u) su j).1 + one (cst f u (nxS w n u) su j).2 1 then ((cst f u (nxS w n u) su j).1, 1) else (max0 ((cst f u (nxS w n u) su j).1 - f j), 0) := rfl
    rw [A0, A1, i1] at er
    have q1 : u - j = u - (j + 1) + 1 := by omega
    have q2 : u - (u - (j + 1) + 1) = j := by omega
    have eb : bsS f w n u (u - j) = f j + bsS f w n u (u - (j + 1)) := by
      rw [q1]
      show f (u - (u - (j + 1) + 1)) + _ = _
      rw [q2]
    have el0 : lc f u (nxS w n u) (u - j) 0 (cst f u (nxS w n u) su j).1 = if (cst f u (nxS w n u) su j).1 < f j then 1000 else mn (lc f u (nxS w n u) (u - (j + 1)) 0 ((cst f u (nxS w n u) su j).1 - f j)) (lc f u (nxS w n u) (u - (j + 1)) 1 ((cst f u (nxS w n u) su j).1 - f j) + 1) := by
      rw [q1]
      show (if (cst f u (nxS w n u) su j).1 < f (u - (u - (j + 1) + 1)) then 1000 else mn (lc f u (nxS w n u) (u - (j + 1)) 0 ((cst f u (nxS w n u) su j).1 - f (u - (u - (j + 1) + 1)))) (lc f u (nxS w n u) (u - (j + 1)) 1 ((cst f u (nxS w n u) su j).1 - f (u - (u - (j + 1) + 1))) + 1)) = _
      rw [q2]
    have el1 : lc f u (nxS w n u) (u - j) 1 (cst f u (nxS w n u) su j).1 = mn (lc f u (nxS w n u) (u - (j + 1)) 1 (cst f u (nxS w n u) su j).1) (lc f u (nxS w n u) (u - (j + 1)) 0 (cst f u (nxS w n u) su j).1 + 1) := by
      rw [q1]
      rfl
    by_cases g : lc f u (nxS w n u) (u - j) 1 (cst f u (nxS w n u) su j).1 + one (cst f u (nxS w n u) su j).2 0 < lc f u (nxS w n u) (u - j) 0 (cst f u (nxS w n u) su j).1 + one (cst f u (nxS w n u) su j).2 1
    · rw [if_pos g] at ec
      have er2 : rst f w n len (j + 1) = ((rst f w n len j).1 - lf f j 1, 1) := by
        rw [er]
        refine if_pos ?_
        repeat' split
        all_goals omega
      rw [ec, er2]
      refine ⟨rfl, ?_, ?_, i4⟩
      · show (rst f w n len j).1 - f j = _ + 15 * (cst f u (nxS w n u) su j).1
        omega
      · show ¬ (lc f u (nxS w n u) (u - (j + 1)) 0 (cst f u (nxS w n u) su j).1 = 1000 ∧ lc f u (nxS w n u) (u - (j + 1)) 1 (cst f u (nxS w n u) su j).1 = 1000)
        intro z
        rw [z.1, z.2] at el1
        have : lc f u (nxS w n u) (u - j) 1 (cst f u (nxS w n u) su j).1 = 1000 := el1
        omega
    · rw [if_neg g] at ec
      have er2 : rst f w n len (j + 1) = ((rst f w n len j).1 - lf f j 0, 0) := by
        rw [er]
        refine if_neg ?_
        repeat' split
        all_goals omega
      have hne : ¬ lc f u (nxS w n u) (u - j) 0 (cst f u (nxS w n u) su j).1 = 1000 := by omega
      have hge : ¬ (cst f u (nxS w n u) su j).1 < f j := by
        intro z
        rw [if_pos z] at el0
        exact hne el0
      rw [if_neg hge] at el0
      have em : max0 ((cst f u (nxS w n u) su j).1 - f j) = (cst f u (nxS w n u) su j).1 - f j := if_neg (by omega)
      rw [em] at ec
      rw [ec, er2]
      refine ⟨rfl, ?_, ?_, ?_⟩
      · show (rst f w n len j).1 - 16 * f j = _ + 15 * ((cst f u (nxS w n u) su j).1 - f j)
        omega
      · show ¬ (lc f u (nxS w n u) (u - (j + 1)) 0 ((cst f u (nxS w n u) su j).1 - f j) = 1000 ∧ lc f u (nxS w n u) (u - (j + 1)) 1 ((cst f u (nxS w n u) su j).1 - f j) = 1000)
        intro z
        rw [z.1, z.2] at el0
        exact hne el0
      · show 0 ≤ (cst f u (nxS w n u) su j).1 - f j
        omega
theorem walk2 (hf : ∀ j : Nat, j < n → 0 ≤ f j) (hu : u ≤ n) (h40 : n ≤ 40) (h0 : ∀ j : Nat, j < u → w j < 0) (h1 : ∀ j : Nat, u ≤ j → j < n → w j = 0 ∨ w j = 1) (hlen : len = bsS f w n u u + 15 * su) (hok : okS f u (nxS w n u) su) : ∀ i : Nat, u + i ≤ n → (rst f w n len (u + i)).1 = tlS f w n (n - u - i) ∧ (0 < i → (rst f w n len (u + i)).2 = w (u + i - 1))
  | 0, _ => by
    obtain ⟨i1, i2, i3, i4⟩ := walk1 hf hu h40 h0 h1 hlen hok u (Nat.le_refl _)
    refine ⟨?_, fun z => absurd z (Nat.lt_irrefl 0)⟩
    rw [Nat.sub_self] at i2 i3
    have e3 : ∀ s : Int, lc f u (nxS w n u) 0 s (cst f u (nxS w n u) su u).1 = if (cst f u (nxS w n u) su u).1 = 0 ∧ (nxS w n u = -1 ∨ nxS w n u = s) then 0 else 1000 := fun _ => rfl
    have : (cst f u (nxS w n u) su u).1 = 0 := by
      rcases Classical.em ((cst f u (nxS w n u) su u).1 = 0) with g | g
      · exact g
      · exact absurd ⟨by rw [e3, if_neg (fun z => g z.1)], by rw [e3, if_neg (fun z => g z.1)]⟩ i3
    rw [this] at i2
    show (rst f w n len u).1 = tlS f w n (n - u)
    rw [i2]
    show tlS f w n (n - u) + 15 * 0 = _
    omega
  | i + 1, hi => by
    obtain ⟨i1, -⟩ := walk2 hf hu h40 h0 h1 hlen hok i (by omega)
    have ht := rc_tail hf (n - u - i - 1) (by omega) (by omega) (w := w) (fun j g1 g2 => h1 j (by omega) g2)
    rw [show n - u - i - 1 + 1 = n - u - i by omega, show n - (n - u - i) = u + i by omega] at ht
    have A0 := ht 0 (rst f w n len (u + i)).1 (Or.inl rfl)
    have A1 := ht 1 (rst f w n len (u + i)).1 (Or.inr rfl)
    have hb := chS_bd (w := w) (n := n) (n - u - i)
    have hw := h1 (u + i) (by omega) (by omega)
    have o1 := one_bd (rst f w n len (u + i)).2 0
    have o2 := one_bd (rst f w n len (u + i)).2 1
    have er : rst f w n len (u + i + 1) = if rc f w n (n - (u + i)) 1 (rst f w n len (u + i)).1 + one (rst f w n len (u + i)).2 0 < rc f w n (n - (u + i)) 0 (rst f w n len (u + i)).1 + one (rst f w n len (u + i)).2 1 then ((rst f w n len (u + i)).1 - lf f (u + i) 1, 1) else ((rst f w n len (u + i)).1 - lf f (u + i) 0, 0) := rfl
    have et : tlS f w n (n - u - i) = lf f (u + i) (w (u + i)) + tlS f w n (n - u - (i + 1)) := by
      rw [show n - u - i = n - u - (i + 1) + 1 by omega]
      show lf f (n - (n - u - (i + 1) + 1)) (w (n - (n - u - (i + 1) + 1))) + _ = _
      rw [show n - (n - u - (i + 1) + 1) = u + i by omega]
    rw [show n - (u + i) = n - u - i by omega, A0, A1] at er
    rw [show u + (i + 1) = u + i + 1 by omega, er, show u + i + 1 - 1 = u + i by omega]
    rcases hw with g | g
    · rw [g, if_neg (by rintro ⟨z, -⟩; omega : ¬ ((1 : Int) = 0 ∧ (rst f w n len (u + i)).1 = tlS f w n (n - u - i))), if_pos (⟨rfl, i1⟩ : (0 : Int) = 0 ∧ (rst f w n len (u + i)).1 = tlS f w n (n - u - i)), if_neg (by omega)]
      rw [g] at et
      exact ⟨by show (rst f w n len (u + i)).1 - lf f (u + i) 0 = _; omega, fun _ => rfl⟩
    · rw [g, if_pos (⟨rfl, i1⟩ : (1 : Int) = 1 ∧ (rst f w n len (u + i)).1 = tlS f w n (n - u - i)), if_neg (by rintro ⟨z, -⟩; omega : ¬ ((0 : Int) = 1 ∧ (rst f w n len (u + i)).1 = tlS f w n (n - u - i))), if_pos (by omega)]
      rw [g] at et
      exact ⟨by show (rst f w n len (u + i)).1 - lf f (u + i) 1 = _; omega, fun _ => rfl⟩
theorem walk_ok (hf : ∀ j : Nat, j < n → 0 ≤ f j) (hu : u ≤ n) (h40 : n ≤ 40) (h0 : ∀ j : Nat, j < u → w j < 0) (h1 : ∀ j : Nat, u ≤ j → j < n → w j = 0 ∨ w j = 1) (hlen : len = bsS f w n u u + 15 * su) (hok : okS f u (nxS w n u) su) : (∀ j : Nat, j < n → ¬ rF f w n len j) ∧ (∀ j : Nat, j < u → (rst f w n len (j + 1)).2 = (cst f u (nxS w n u) su (j + 1)).2) ∧ ∀ j : Nat, u ≤ j → j < n → (rst f w n len (j + 1)).2 = w j := by
  refine ⟨fun j hj => ?_, fun j hj => (walk1 hf hu h40 h0 h1 hlen hok (j + 1) (by omega)).1, fun j g1 g2 => ?_⟩
  · have o1 := one_bd (rst f w n len j).2 0
    have o2 := one_bd (rst f w n len j).2 1
    unfold rF
    rcases Nat.lt_or_ge j u with g | g
    · obtain ⟨i1, i2, i3, i4⟩ := walk1 hf hu h40 h0 h1 hlen hok j (by omega)
      have A := rc_lc hf hu h40 h0 h1 (u - j) (by omega)
      have hD := chS_bd (w := w) (n := n) (n - u)
      have b0 := lc_bd (f := f) (u := u) (nx := nxS w n u) (u - j) 0 (cst f u (nxS w n u) su j).1 (by omega)
      have b1 := lc_bd (f := f) (u := u) (nx := nxS w n u) (u - j) 1 (cst f u (nxS w n u) su j).1 (by omega)
      have A0 := A 0 (cst f u (nxS w n u) su j).1 (Or.inl rfl)
      have A1 := A 1 (cst f u (nxS w n u) su j).1 (Or.inr rfl)
      rw [← i2, show n - u + (u - j) = n - j by omega] at A0 A1
      rw [A0, A1]
      repeat' split
      all_goals omega
    · have i1 := (walk2 hf hu h40 h0 h1 hlen hok (j - u) (by omega)).1
      rw [show u + (j - u) = j by omega] at i1
      have ht := rc_tail hf (n - j - 1) (by omega) (by omega) (w := w) (fun i g1 g2 => h1 i (by omega) g2)
      rw [show n - j - 1 + 1 = n - j by omega, show n - (n - j) = j by omega] at ht
      have hb := chS_bd (w := w) (n := n) (n - j)
      have hw := h1 j g hj
      rw [ht 0 _ (Or.inl rfl), ht 1 _ (Or.inr rfl)]
      rw [show n - u - (j - u) = n - j by omega] at i1
      repeat' split
      all_goals omega
  · have := (walk2 hf hu h40 h0 h1 hlen hok (j + 1 - u) (by omega)).2 (by omega)
    rw [show u + (j + 1 - u) = j + 1 by omega, show j + 1 - 1 = j by omega] at this
    exact this
theorem walk_no (hf : ∀ j : Nat, j < n → 0 ≤ f j) (hu : u ≤ n) (h40 : n ≤ 40) (h0 : ∀ j : Nat, j < u → w j < 0) (h1 : ∀ j : Nat, u ≤ j → j < n → w j = 0 ∨ w j = 1) (hno : ¬ okS f u (nxS w n u) (exS (len - bsS f w n u u))) : rF f w n len 0 := by
  have A := rc_lc hf hu h40 h0 h1 u (Nat.le_refl _)
  have B := rc_off hf hu h40 h1 u (Nat.le_refl _)
  rw [show n - u + u = n by omega] at A B
  have key : ∀ s : Int, s = 0 ∨ s = 1 → rc f w n n s len = 1000000 := by
    intro s hs
    by_cases g : (len - bsS f w n u u) % 15 = 0
    · have e : len = bsS f w n u u + 15 * ((len - bsS f w n u u) / 15) := by omega
      rw [e, A s _ hs]
      refine if_pos ?_
      by_cases g2 : len - bsS f w n u u < 0
      · left; omega
      · right
        have ex : exS (len - bsS f w n u u) = (len - bsS f w n u u) / 15 := if_neg (by omega)
        rw [ex] at hno
        unfold okS at hno
        have h2 : lc f u (nxS w n u) u 0 ((len - bsS f w n u u) / 15) = 1000 ∧ lc f u (nxS w n u) u 1 ((len - bsS f w n u u) / 15) = 1000 := by
          rcases Classical.em (lc f u (nxS w n u) u 0 ((len - bsS f w n u u) / 15) = 1000 ∧ lc f u (nxS w n u) u 1 ((len - bsS f w n u u) / 15) = 1000) with z | z
          · exact z
          · exact absurd ⟨by omega, z⟩ hno
        rcases hs with rfl | rfl
        · exact h2.1
        · exact h2.2
    · exact B s len hs g
  have o1 := one_bd (-1) 0
  have o2 := one_bd (-1) 1
  have k0 := key 0 (Or.inl rfl)
  have k1 := key 1 (Or.inr rfl)
  show 1000000 ≤ rc f w n n 0 len + one (-1) 1 ∧ 1000000 ≤ rc f w n n 1 len + one (-1) 0
  omega
end Walk
