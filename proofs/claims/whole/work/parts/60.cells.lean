/-! WRITING as lists of cells -/
section Cells
def leapB (a b : Int) : Bool := decide ((2 < a - b ∨ 2 < b - a) ∧ ((4 < a - b ∨ 4 < b - a) ∨ ¬ a / 7 = b / 7))
theorem leapB_iff (a b : Int) : leapB a b = true ↔ leapP a b := by
  unfold leapB leapP
  exact decide_eq_true_iff
def ocC (p : Int) : Int := [8, 24, 56, 16, 40, 48, 32].getD (p / 7 - 1).toNat 0
def octC (st : Option Int) (p : Int) : List Int := match st with
  | none => [ocC p]
  | some q => if leapB q p = true then [ocC p] else []
def sigC (s : Int) : List Int := if s = 1 then [41] else if s = 2 then [35] else if s = 3 then [33] else []
def dnC (n : Int) : Int := [12, 44, 60, 20, 52, 18, 36].getD (n - 2).toNat 0
def ivC (S : Mus) (i : Nat) : Nat → List Int
  | 0 => []
  | k + 1 => ivC S i k ++ sigC (gIt S i (10 + k) / 16) ++ [dnC (gIt S i (10 + k) % 16)]
def ntC (p k : Int) : Int := [25, 17, 11, 27, 19, 10, 26].getD (p % 7).toNat 0 + [36, 4, 32, 0].getD k.toNat 0
def rsC (k : Int) : Int := [13, 37, 39, 45].getD k.toNat 0
def dotC (d : Int) : List Int := List.replicate d.toNat 4
def tieC (t : Int) : List Int := if t = 1 then [8, 9] else []
def opC (k : Int) : List Int := if k = 2 then [48, 3] else []
def slC (k : Int) : List Int := if k = 1 then [9] else []
def clC (k : Int) : List Int := if k = 3 then [24, 6] else []
def noteC (S : Mus) (i : Nat) (st : Option Int) : List Int := sigC (gIt S i 3) ++ octC st (gIt S i 2) ++ [ntC (gIt S i 2) (gIt S i 4)] ++ dotC (gIt S i 6) ++ ivC S i (gIt S i 9).toNat ++ tieC (gIt S i 7)
def bodyC (S : Mus) (i : Nat) (st : Option Int) : List Int := if gIt S i 2 = 0 then [rsC (gIt S i 4)] ++ dotC (gIt S i 6) else noteC S i st
def itC (S : Mus) (k : Int) (i : Nat) (st : Option Int) : List Int := opC k ++ bodyC S i st ++ slC k ++ clC k
def nst (S : Mus) (i : Nat) (st : Option Int) : Option Int := if gIt S i 2 = 0 then st else some (gIt S i 2)
def voS (S : Mus) (f0 : Nat) (st : Option Int) : Nat → Option Int
  | 0 => st
  | n + 1 => nst S (f0 + n) (voS S f0 st n)
def szC (s : Int) : List Int := [if s = 0 then 24 else 32, 35, 2]
def voL (S : Mus) (mk : Nat → Int) (g : Int) (f0 : Nat) (st : Option Int) : Nat → List Int
  | 0 => []
  | n + 1 => voL S mk g f0 st n ++ (if g = 1 ∧ (n = 0 ∨ ¬ gIt S (f0 + n) 5 = gIt S (f0 + n - 1) 5) then szC (gIt S (f0 + n) 5) else []) ++ itC S (mk (f0 + n)) (f0 + n) (voS S f0 st n)
def inS (v : Nat) (st : Option Int) : Option Int := if v = 0 then st else none
def baS (S : Mus) (b : Nat) (st : Option Int) : Nat → Option Int
  | 0 => st
  | v + 1 => voS S (gFo S (3 * b + v)) (inS v st) (gSz S (3 * b + v))
def baL (S : Mus) (mk sg : Nat → Int) (b : Nat) (st : Option Int) : Nat → List Int
  | 0 => []
  | v + 1 => baL S mk sg b st v ++ (if v = 0 then [] else [35, 28]) ++ voL S mk (sg (3 * b + v)) (gFo S (3 * b + v)) (inS v st) (gSz S (3 * b + v))
def barL (S : Mus) (mk sg : Nat → Int) (b : Nat) (st : Option Int) : List Int := (if gVo S b = 0 then [54] else []) ++ baL S mk sg b st (gVo S b)
def entS (S : Mus) (b : Nat) (st : Option Int) : Option Int := if 0 < b ∧ gVo S (b - 1) = 1 then st else none
def hdC (S : Mus) : List Int := if gHd S = 0 then [] else if gHd S = 2 then [56, 28] else [40, 28]
/-- cells, line's length and octave after so many bars; none where a bar fits no line -/
def rnS (S : Mus) (mk sg : Nat → Int) (wd : Int) : Nat → Option (List Int × Int × Option Int)
  | 0 => some (hdC S, ((hdC S).length : Int), none)
  | b + 1 => match rnS S mk sg wd b with
    | none => none
    | some (L, ln, st) =>
      if b = 0 then (if ln + ((barL S mk sg b (entS S b st)).length : Int) ≤ wd then some (L ++ barL S mk sg b (entS S b st), ln + ((barL S mk sg b (entS S b st)).length : Int), baS S b (entS S b st) (gVo S b)) else none)
      else if ln + 1 + ((barL S mk sg b (entS S b st)).length : Int) ≤ wd then some (L ++ [0] ++ barL S mk sg b (entS S b st), ln + 1 + ((barL S mk sg b (entS S b st)).length : Int), baS S b (entS S b st) (gVo S b))
      else if ((barL S mk sg b none).length : Int) ≤ wd then some (L ++ [64] ++ barL S mk sg b none, ((barL S mk sg b none).length : Int), baS S b none (gVo S b))
      else none
theorem rn_none {S : Mus} {mk sg : Nat → Int} {wd : Int} {b : Nat} (h : rnS S mk sg wd b = none) : ∀ i : Nat, rnS S mk sg wd (b + i) = none
  | 0 => h
  | i + 1 => by
    show (match rnS S mk sg wd (b + i) with
    | none => none
    | some (L, ln, st) => _) = none
    rw [rn_none h i]
theorem octC_len (st : Option Int) (p : Int) : (octC st p).length ≤ 1 := by
  unfold octC
  split
  · exact Nat.le_refl _
  · split
    · exact Nat.le_refl _
    · exact Nat.zero_le _
theorem sigC_len (s : Int) : (sigC s).length ≤ 1 := by
  unfold sigC
  repeat' split
  all_goals first | exact Nat.le_refl _ | exact Nat.zero_le _
theorem ivC_len (S : Mus) (i : Nat) : ∀ k : Nat, (ivC S i k).length ≤ 2 * k
  | 0 => Nat.le_refl _
  | k + 1 => by
    have h1 := ivC_len S i k
    have h2 := sigC_len (gIt S i (10 + k) / 16)
    unfold ivC
    simp only [List.length_append, List.length_cons, List.length_nil]
    omega
theorem dotC_len (d : Int) : (dotC d).length = d.toNat := by
  unfold dotC
  exact List.length_replicate
theorem tieC_len (t : Int) : (tieC t).length ≤ 2 := by
  unfold tieC
  split
  · exact Nat.le_refl _
  · exact Nat.zero_le _
theorem opC_len (t : Int) : (opC t).length ≤ 2 := by
  unfold opC
  split
  · exact Nat.le_refl _
  · exact Nat.zero_le _
theorem slC_len (t : Int) : (slC t).length ≤ 1 := by
  unfold slC
  split
  · exact Nat.le_refl _
  · exact Nat.zero_le _
theorem clC_len (t : Int) : (clC t).length ≤ 2 := by
  unfold clC
  split
  · exact Nat.le_refl _
  · exact Nat.zero_le _
theorem noteC_len {S : Mus} {i : Nat} {st : Option Int} (h6 : gIt S i 6 ≤ 2) (h9 : gIt S i 9 ≤ 4) : (noteC S i st).length ≤ 15 := by
  have h1 := sigC_len (gIt S i 3)
  have h2 := octC_len st (gIt S i 2)
  have h3 := dotC_len (gIt S i 6)
  have h4 := ivC_len S i (gIt S i 9).toNat
  have h5 := tieC_len (gIt S i 7)
  unfold noteC
  simp only [List.length_append, List.length_cons, List.length_nil]
  omega
theorem itC_len {S : Mus} {k : Int} {i : Nat} {st : Option Int} (h6 : gIt S i 6 ≤ 2) (h9 : gIt S i 9 ≤ 4) : (itC S k i st).length ≤ 20 := by
  have h1 := opC_len k
  have h2 := slC_len k
  have h3 := clC_len k
  have h4 := noteC_len (st := st) h6 h9
  have h5 := dotC_len (gIt S i 6)
  have h7 : (bodyC S i st).length ≤ 15 := by
    unfold bodyC
    split
    · simp only [List.length_append, List.length_cons, List.length_nil]
      omega
    · exact h4
  unfold itC
  simp only [List.length_append]
  omega
theorem voL_len {S : Mus} {mk : Nat → Int} {g : Int} {f0 : Nat} {st : Option Int} (hv : MV S) : ∀ n : Nat, f0 + n ≤ gNi S → (voL S mk g f0 st n).length ≤ 23 * n
  | 0, _ => Nat.le_refl _
  | n + 1, h => by
    have h1 := voL_len (mk := mk) (g := g) (f0 := f0) (st := st) hv n (by omega)
    obtain ⟨-, -, -, -, -, -, w6, -, -, w9, -⟩ := hv.2.2.2.2.2.1 (f0 + n) (by omega)
    have h2 := itC_len (k := mk (f0 + n)) (st := voS S f0 st n) w6.2 w9.2
    have h3 : (if g = 1 ∧ (n = 0 ∨ ¬ gIt S (f0 + n) 5 = gIt S (f0 + n - 1) 5) then szC (gIt S (f0 + n) 5) else []).length ≤ 3 := by
      split
      · exact Nat.le_refl _
      · exact Nat.zero_le _
    unfold voL
    simp only [List.length_append]
    omega
theorem baL_len {S : Mus} {mk sg : Nat → Int} {b : Nat} {st : Option Int} (hv : MV S) (hb : b < gNb S) : ∀ v : Nat, v ≤ gVo S b → (baL S mk sg b st v).length ≤ 922 * v
  | 0, _ => Nat.le_refl _
  | v + 1, h => by
    have h1 := baL_len (mk := mk) (sg := sg) (st := st) hv hb v (by omega)
    obtain ⟨hr1, hr2, -⟩ := hv.2.2.2.2.2.2.1 b v hb (by omega)
    have h2 := voL_len (mk := mk) (g := sg (3 * b + v)) (st := inS v st) hv (gSz S (3 * b + v)) hr1
    have h3 : (if v = 0 then [] else [(35 : Int), 28]).length ≤ 2 := by
      split
      · exact Nat.zero_le _
      · exact Nat.le_refl _
    unfold baL
    simp only [List.length_append]
    omega
theorem barL_len {S : Mus} {mk sg : Nat → Int} {b : Nat} {st : Option Int} (hv : MV S) (hb : b < gNb S) : (barL S mk sg b st).length ≤ 2767 := by
  have h1 := baL_len (mk := mk) (sg := sg) (st := st) hv hb (gVo S b) (Nat.le_refl _)
  have h2 := hv.2.2.2.2.1 b hb
  have h3 : (if gVo S b = 0 then [(54 : Int)] else []).length ≤ 1 := by
    split
    · exact Nat.le_refl _
    · exact Nat.zero_le _
  unfold barL
  simp only [List.length_append]
  omega
theorem hdC_len (S : Mus) : (hdC S).length ≤ 2 := by
  unfold hdC
  repeat' split
  all_goals first | exact Nat.le_refl _ | exact Nat.zero_le _
theorem rn_len {S : Mus} {mk sg : Nat → Int} {wd : Int} (hv : MV S) : ∀ (b : Nat) (L : List Int) (ln : Int) (st : Option Int), b ≤ gNb S → rnS S mk sg wd b = some (L, ln, st) → L.length ≤ 2 + 2768 * b ∧ 0 ≤ ln ∧ ln ≤ L.length ∧ (0 < b → ln ≤ wd)
  | 0, L, ln, st, _, h => by
    have h1 := hdC_len S
    unfold rnS at h
    simp only [Option.some.injEq, Prod.mk.injEq] at h
    obtain ⟨rfl, rfl, -⟩ := h
    omega
  | b + 1, L, ln, st, hb, h => by
    unfold rnS at h
    cases e : rnS S mk sg wd b with
    | none => rw [e] at h; exact absurd h (by simp)
    | some x =>
      obtain ⟨L0, ln0, st0⟩ := x
      have ih := rn_len hv b L0 ln0 st0 (by omega) e
      rw [e] at h
      simp only at h
      have l1 := barL_len (mk := mk) (sg := sg) (st := entS S b st0) hv (b := b) (by omega)
      have l2 := barL_len (mk := mk) (sg := sg) (st := none) hv (b := b) (by omega)
      split at h
      · split at h
        · simp only [Option.some.injEq, Prod.mk.injEq] at h
          obtain ⟨rfl, rfl, -⟩ := h
          simp only [List.length_append, List.length_cons, List.length_nil]
          omega
        · exact absurd h (by simp)
      · split at h
        · simp only [Option.some.injEq, Prod.mk.injEq] at h
          obtain ⟨rfl, rfl, -⟩ := h
          simp only [List.length_append, List.length_cons, List.length_nil]
          omega
        · split at h
          · simp only [Option.some.injEq, Prod.mk.injEq] at h
            obtain ⟨rfl, rfl, -⟩ := h
            simp only [List.length_append, List.length_cons, List.length_nil]
            omega
          · exact absurd h (by simp)
/-- the marks of slurs -/
def bkB (S : Mus) (i : Nat) : Bool := decide (1 < gIt S (i + 1) 0 - gIt S i 0 ∨ (gIt S (i + 1) 0 = gIt S i 0 ∧ ¬ gIt S (i + 1) 1 = gIt S i 1))
def brk (S : Mus) (a : Nat) : Nat → Bool
  | 0 => false
  | n + 1 => brk S a n || bkB S (a + n)
def msS (S : Mus) : Nat → Nat × (Nat → Int)
  | 0 => (0, fun _ => 0)
  | i + 1 => if gIt S i 8 = 0 then (i + 1, if i - (msS S i).1 < 4 ∨ brk S (msS S i).1 (i - (msS S i).1) = true then (fun j => if j = i then 0 else (msS S i).2 j) else (fun j => if j = i then 3 else if j = (msS S i).1 then 2 else if (msS S i).1 ≤ j ∧ j < i then 0 else (msS S i).2 j)) else ((msS S i).1, fun j => if j = i then 1 else (msS S i).2 j)
theorem ms_le (S : Mus) : ∀ i : Nat, (msS S i).1 ≤ i
  | 0 => Nat.le_refl _
  | i + 1 => by
    have := ms_le S i
    unfold msS
    split
    · exact Nat.le_refl _
    · show (msS S i).1 ≤ i + 1
      omega
theorem ms_bd (S : Mus) : ∀ (i j : Nat), 0 ≤ (msS S i).2 j ∧ (msS S i).2 j ≤ 3
  | 0, j => ⟨Int.le_refl _, by show (0 : Int) ≤ 3; omega⟩
  | i + 1, j => by
    have h := ms_bd S i j
    unfold msS
    split
    · show 0 ≤ (if _ then _ else _ : Nat → Int) j ∧ _
      split
      · show 0 ≤ (if j = i then 0 else (msS S i).2 j) ∧ (if j = i then 0 else (msS S i).2 j) ≤ 3
        split <;> omega
      · show 0 ≤ (if j = i then 3 else if j = (msS S i).1 then 2 else if (msS S i).1 ≤ j ∧ j < i then 0 else (msS S i).2 j) ∧ (if j = i then 3 else if j = (msS S i).1 then 2 else if (msS S i).1 ≤ j ∧ j < i then 0 else (msS S i).2 j) ≤ 3
        repeat' split
        all_goals omega
    · show 0 ≤ (if j = i then 1 else (msS S i).2 j) ∧ (if j = i then 1 else (msS S i).2 j) ≤ 3
      split <;> omega
end Cells
