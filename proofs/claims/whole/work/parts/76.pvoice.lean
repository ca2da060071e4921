section PVoice
variable {pk : Nat → Int} {c p s n : Nat} {o : Bool} {t : Int} {w : Option Int} {S S' : Mus}
theorem rst_lf {f w : Nat → Int} {n : Nat} {len : Int} : ∀ k : Nat, (rst f w n len k).1 = len - sumF (fun j => lf f j (rst f w n len (j + 1)).2) 0 k
  | 0 => by
    show len = len - 0
    omega
  | k + 1 => by
    have ih := rst_lf (f := f) (w := w) (n := n) (len := len) k
    have e : sumF (fun j => lf f j (rst f w n len (j + 1)).2) 0 (k + 1) = sumF (fun j => lf f j (rst f w n len (j + 1)).2) 0 k + lf f k (rst f w n len (k + 1)).2 := by
      show sumF (fun j => lf f j (rst f w n len (j + 1)).2) 0 k + lf f (0 + k) (rst f w n len (0 + k + 1)).2 = _
      rw [Nat.zero_add]
    have e2 : (rst f w n len (k + 1)).1 = (rst f w n len k).1 - lf f k (rst f w n len (k + 1)).2 := by
      have es : rst f w n len (k + 1) = if rc f w n (n - k) 1 (rst f w n len k).1 + one (rst f w n len k).2 0 < rc f w n (n - k) 0 (rst f w n len k).1 + one (rst f w n len k).2 1 then ((rst f w n len k).1 - lf f k 1, 1) else ((rst f w n len k).1 - lf f k 0, 0) := rfl
      rw [es]
      split
      · rfl
      · rfl
    omega
/-- the voice's sizes after its end -/
def szE (S : Mus) (f0 n u : Nat) (j : Nat) : Int := if j < u then szR S f0 n u j else gIt S (f0 + j) 5
theorem szE_01 {f0 n u j : Nat} (h : ∀ j : Nat, u ≤ j → j < n → gIt S (f0 + j) 5 = 0 ∨ gIt S (f0 + j) 5 = 1) (hj : j < n) : szE S f0 n u j = 0 ∨ szE S f0 n u j = 1 := by
  unfold szE
  split
  · exact cst_01 j
  · exact h j (by omega) hj
theorem szE_sum {f0 n u : Nat} (hv : MV S) (h40 : n ≤ 40) (hu : u ≤ n) (hf : f0 + n ≤ gNi S) (h0 : ∀ j : Nat, j < u → gIt S (f0 + j) 5 = -1) (h1 : ∀ j : Nat, u ≤ j → j < n → gIt S (f0 + j) 5 = 0 ∨ gIt S (f0 + j) 5 = 1) (hok : okS (smf S f0) u (nxS (wS S f0) n u) (suR S f0 n u)) : sumF (fun j => lf (smf S f0) j (szE S f0 n u j)) 0 n = gLen S := by
  have hsm : ∀ j : Nat, j < n → 0 ≤ smf S f0 j := fun j hj => by have := sml_pos hv (i := f0 + j) (by omega); show 0 ≤ sml S (f0 + j); omega
  have h0' : ∀ j : Nat, j < u → wS S f0 j < 0 := fun j hj => by show gIt S (f0 + j) 5 < 0; rw [h0 j hj]; omega
  have hlen : gLen S = bsS (smf S f0) (wS S f0) n u u + 15 * suR S f0 n u := by
    have := hok.1
    unfold suR exS at this ⊢
    split at this
    · omega
    · next g => rw [if_neg g]; omega
  have k := walk_ok hsm hu h40 h0' h1 hlen hok
  have k2 := walk2 hsm hu h40 h0' h1 hlen hok (n - u) (by omega)
  have k3 := rst_lf (f := smf S f0) (w := wS S f0) (n := n) (len := gLen S) n
  rw [show u + (n - u) = n by omega, show n - u - (n - u) = 0 by omega] at k2
  have k4 : (rst (smf S f0) (wS S f0) n (gLen S) n).1 = 0 := k2.1
  have e : sumF (fun j => lf (smf S f0) j (szE S f0 n u j)) 0 n = sumF (fun j => lf (smf S f0) j (rst (smf S f0) (wS S f0) n (gLen S) (j + 1)).2) 0 n := by
    refine sumF_congr n (fun j hj => ?_)
    rw [Nat.zero_add]
    have : szE S f0 n u j = (rst (smf S f0) (wS S f0) n (gLen S) (j + 1)).2 := by
      unfold szE
      by_cases g : j < u
      · rw [if_pos g]
        exact (k.2.1 j g).symm
      · rw [if_neg g]
        exact (k.2.2 j (by omega) hj).symm
    rw [this]
  omega
/-- what a music keeps to while a voice of it is read -/
def IG (S : Mus) (s : Nat) : Prop := (∀ b v : Nat, b < gNb S → v < gVo S b → ¬ 3 * b + v = s → slotL S (3 * b + v) = gLen S) ∧ (∀ i : Nat, i < gFo S s → 0 ≤ gIt S i 5 ∧ (gIt S i 5 = 2 → gIt S i 2 = 0 ∧ gIt S i 4 = 0 ∧ gIt S i 6 = 0)) ∧ (∀ i : Nat, i < gNi S → gIt S i 2 = 0 → gIt S i 7 = 0 ∧ gIt S i 9 = 0) ∧ (∀ i j : Nat, i < j → j < gNi S → gIt S i 0 < gIt S j 0 ∨ (gIt S i 0 = gIt S j 0 ∧ gIt S i 1 ≤ gIt S j 1))
theorem lastG_same {i i' : Nat} (e4 : gIt S' i' 4 = gIt S i 4) (e5 : gIt S' i' 5 = gIt S i 5) (e6 : gIt S' i' 6 = gIt S i 6) (el : gLen S' = gLen S) : lastG S' i' = lastG S i := by
  unfold lastG
  rw [e4, e5, e6, el]
theorem IG_add {d : Dat} (hv : MV S) (hl : ¬ lastS S < 0) (hs : s = (lastS S).toNat) (h : IG S s) (hd : okD d) : IG (sAdd S d) s := by
  obtain ⟨l1, l2, l3⟩ := lastS_sp hl
  have l4 : s = 3 * (gNb S - 1) + (gVo S (gNb S - 1) - 1) := by rw [hs, l3]; rfl
  obtain ⟨g1, g2, g3, g4⟩ := h
  obtain ⟨v1, v2, v3, v4, v5, v6, v7, v8⟩ := hv
  have f1 := v7 (gNb S - 1) (gVo S (gNb S - 1) - 1) l1 l2
  rw [← l4] at f1
  refine ⟨fun b v hb hvv hne => ?_, fun i hi => ?_, fun i hi h2 => ?_, fun i j hij hj => ?_⟩
  · have r1 := v7 b v hb hvv
    have e : slotL (sAdd S d) (3 * b + v) = slotL S (3 * b + v) := by
      refine slotL_same rfl ?_ (fun j hj => ?_)
      · show (if 3 * b + v = (lastS S).toNat then gSz S (lastS S).toNat + 1 else gSz S (3 * b + v)) = gSz S (3 * b + v)
        rw [if_neg (by rw [← hs]; exact hne)]
      · exact lastG_same (add_it (by omega)) (add_it (by omega)) (add_it (by omega)) rfl
    rw [e]
    exact g1 b v hb hvv hne
  · have hi' : i < gFo S s := hi
    rw [add_it (by omega), add_it (by omega), add_it (by omega), add_it (by omega)]
    exact g2 i hi'
  · have hi' : i < gNi S + 1 := hi
    by_cases g : i = gNi S
    · subst g
      rw [add_a (by omega)] at h2
      rw [add_a (by omega), add_a (by omega)]
      have := hd.2.2.2.2.2.2.2.2.2 h2
      refine ⟨this.1, ?_⟩
      show (d.2.2.2.2.2.2.2.length : Int) = 0
      rw [this.2]
      rfl
    · rw [add_it g] at h2
      rw [add_it g, add_it g]
      exact g3 i (by omega) h2
  · have hj' : j < gNi S + 1 := hj
    by_cases g : j = gNi S
    · subst g
      rw [add_it (i := i) (by omega), add_it (i := i) (by omega), add_0, add_1]
      have iv := v6 i hij
      obtain ⟨x1, x2, -⟩ := iv
      by_cases g5 : gIt S i 0 = (gNb S : Int) - 1
      · right
        rw [g5, show ((gNb S : Int) - 1).toNat = gNb S - 1 by omega] at x2
        exact ⟨g5, by omega⟩
      · left
        omega
    · rw [add_it (i := i) (by omega), add_it (i := i) (by omega), add_it g, add_it g]
      exact g4 i j hij (by omega)
/-- a music between two voices -/
def GD (S : Mus) : Prop := MV S ∧ GV S ∧ endsW S
/-- a music whose new voice is not yet read -/
def SV (S : Mus) : Prop := MV S ∧ GV S ∧ (¬ lastS S < 0 → VI S (lastS S).toNat 0 (-1))
theorem IG_of (hv : MV S) (hg : GV S) (hl : ¬ lastS S < 0) : IG S (lastS S).toNat := by
  obtain ⟨l1, l2, l3⟩ := lastS_sp hl
  have l4 : (lastS S).toNat = 3 * (gNb S - 1) + (gVo S (gNb S - 1) - 1) := by rw [l3]; rfl
  obtain ⟨q1, q2, q3⟩ := hv.2.2.2.2.2.2.1 (gNb S - 1) (gVo S (gNb S - 1) - 1) l1 l2
  refine ⟨fun b v hb hvv hne => hg.2.1 b v hb hvv (fun z => hne (by rw [l4, z.1, z.2])), fun i hi => ?_, fun i hi => (hg.2.2.1 i hi).2.2, hg.2.2.2⟩
  rw [l4] at hi
  have := hg.2.2.1 i (by omega)
  exact ⟨this.1, this.2.1⟩
theorem sum_sz {f0 n u : Nat} (hu : u ≤ n) (hv : MV S) (hf : f0 + n ≤ gNi S) (h1 : ∀ j : Nat, u ≤ j → j < n → gIt S (f0 + j) 5 = 0 ∨ gIt S (f0 + j) 5 = 1) : sumF (lastG (sSz S f0 u (szR S f0 n u))) f0 n = sumF (fun j => lf (smf S f0) j (szE S f0 n u j)) 0 n := by
  have sh := sumF_shift (lastG (sSz S f0 u (szR S f0 n u))) f0 n
  rw [← sh]
  refine sumF_congr n (fun j hj => ?_)
  rw [Nat.zero_add]
  have e01 := szE_01 (S := S) (f0 := f0) (n := n) (u := u) h1 hj
  have e5 : gIt (sSz S f0 u (szR S f0 n u)) (f0 + j) 5 = szE S f0 n u j := by
    rw [sz_5]
    unfold szE
    by_cases g : j < u
    · rw [if_pos (by omega), if_pos g, show f0 + j - f0 = j by omega]
    · rw [if_neg (by omega), if_neg g]
  show lastG (sSz S f0 u (szR S f0 n u)) (f0 + j) = lf (smf S f0) j (szE S f0 n u j)
  unfold lastG lf smf sml
  rw [e5, sz_it (by omega), sz_it (by omega), if_neg (by omega)]
  unfold lenI
  rcases e01 with e | e
  · rw [e, if_pos rfl, if_pos rfl, if_neg (by omega), Int.mul_one, Int.mul_comm 16]
  · rw [e, if_neg (by omega), if_neg (by omega)]
theorem GD_end {n : Nat} (hv : MV S) (hl : ¬ lastS S < 0) (hs : s = (lastS S).toNat) (hV : VI S s n t) (hn : 1 ≤ n) (hG : IG S s) (h : endV pk p o S s = .ok S') : GD S' ∧ gHd S' = gHd S := by
  obtain ⟨l1, l2, l3⟩ := lastS_sp hl
  have l4 : s = 3 * (gNb S - 1) + (gVo S (gNb S - 1) - 1) := by rw [hs, l3]; rfl
  obtain ⟨g1, g2, g3, g4⟩ := hG
  obtain ⟨q1, q2, q3⟩ := hv.2.2.2.2.2.2.1 (gNb S - 1) (gVo S (gNb S - 1) - 1) l1 l2
  rw [← l4] at q1 q2 q3
  obtain ⟨a1, a2, u, a3, a4, a5, a6⟩ := hV
  have hld : ldG S (gFo S s) (gSz S s) 0 = u := by
    rw [a1]
    exact ldG_is a3 a4 (fun z z2 => by have := a5 u (Nat.le_refl _) z; omega) n 0 (by omega) (by omega)
  have hpos : ∀ j : Nat, j < n → 1 ≤ lastG S (gFo S s + j) := fun j hj => (lastG_pos hv (by omega)).1
  -- any sizes that fill the bar
  have fin : ∀ (k : Nat) (g : Nat → Int), k ≤ n → (∀ j : Nat, j < k → -1 ≤ g j ∧ g j ≤ 2) → sumF (lastG (sSz S (gFo S s) k g)) (gFo S s) n = gLen S → (∀ j : Nat, j < n → 0 ≤ gIt (sSz S (gFo S s) k g) (gFo S s + j) 5 ∧ (gIt (sSz S (gFo S s) k g) (gFo S s + j) 5 = 2 → gIt S (gFo S s + j) 2 = 0 ∧ gIt S (gFo S s + j) 4 = 0 ∧ gIt S (gFo S s + j) 6 = 0)) → GD (sSz S (gFo S s) k g) := by
    intro k g hk hg hsum h5
    have hv' := MV_sz (f0 := gFo S s) (n := k) (g := g) hv hg
    have sl : slotL (sSz S (gFo S s) k g) s = gLen S := by
      unfold slotL
      show sumF (lastG (sSz S (gFo S s) k g)) (gFo S s) (gSz S s) = gLen S
      rw [a1]
      exact hsum
    have oth : ∀ b v : Nat, b < gNb S → v < gVo S b → ¬ 3 * b + v = s → slotL (sSz S (gFo S s) k g) (3 * b + v) = gLen S := by
      intro b v hb hvv hne
      rw [← g1 b v hb hvv hne]
      obtain ⟨r1, r2, r3⟩ := hv.2.2.2.2.2.2.1 b v hb hvv
      refine slotL_same rfl rfl (fun j hj => ?_)
      have hout : ¬ (gFo S s ≤ gFo S (3 * b + v) + j ∧ gFo S (3 * b + v) + j < gFo S s + k) := by
        intro z
        have x1 := (r3 (gFo S (3 * b + v) + j) (by omega)).mpr ⟨by omega, by omega⟩
        have x2 := (q3 (gFo S (3 * b + v) + j) (by omega)).mpr ⟨by omega, by omega⟩
        have : b = gNb S - 1 ∧ v = gVo S (gNb S - 1) - 1 := by omega
        rw [this.1, this.2] at hne
        exact hne l4.symm
      exact lastG_same (sz_it (by omega)) (by rw [sz_5, if_neg hout]) (sz_it (by omega)) rfl
    have all : ∀ b v : Nat, b < gNb S → v < gVo S b → slotL (sSz S (gFo S s) k g) (3 * b + v) = gLen S := by
      intro b v hb hvv
      by_cases z : 3 * b + v = s
      · rw [z]; exact sl
      · exact oth b v hb hvv z
    refine ⟨hv', ⟨fun b v hb hvv => ?_, fun b v hb hvv _ => all b v hb hvv, fun i hi => ?_, fun i j hij hj => ?_⟩, Or.inr ?_⟩
    · rw [all b v hb hvv]; exact Int.le_refl _
    · have hi' : i < gNi S := hi
      rw [sz_it (a := 2) (by omega), sz_it (a := 4) (by omega), sz_it (a := 6) (by omega), sz_it (a := 7) (by omega), sz_it (a := 9) (by omega)]
      by_cases z : i < gFo S s
      · rw [sz_5, if_neg (by omega)]
        exact ⟨(g2 i z).1, (g2 i z).2, g3 i hi'⟩
      · have := h5 (i - gFo S s) (by omega)
        rw [show gFo S s + (i - gFo S s) = i by omega] at this
        exact ⟨this.1, this.2, g3 i hi'⟩
    · rw [sz_it (by omega), sz_it (by omega), sz_it (by omega), sz_it (by omega)]
      exact g4 i j hij hj
    · show slotL (sSz S (gFo S s) k g) (lastS S).toNat = gLen S
      rw [← hs]
      exact sl
  by_cases h1 : o = true ∧ pk p = 35 ∧ pk (p + 1) = 28
  · rw [endV_1 h1] at h
    exact absurd h (by simp)
  by_cases h2 : isLn S s
  · rw [endV_2 h1 h2] at h
    simp only [Except.ok.injEq] at h
    subst h
    obtain ⟨⟨b1, b2, b3, b4⟩, b5⟩ := h2
    have hn1 : n = 1 := by omega
    subst hn1
    have e5 : gIt (sSz S (gFo S s) 1 (fun _ => 2)) (gFo S s) 5 = 2 := by rw [sz_5, if_pos (by omega)]
    refine ⟨fin 1 _ (Nat.le_refl _) (fun j hj => ⟨by show (-1 : Int) ≤ 2; omega, Int.le_refl _⟩) ?_ (fun j hj => ?_), rfl⟩
    · have : lastG (sSz S (gFo S s) 1 (fun _ => 2)) (gFo S s) = gLen S := by
        unfold lastG
        rw [e5, if_pos rfl]
        rfl
      show 0 + lastG (sSz S (gFo S s) 1 (fun _ => 2)) (gFo S s + 0) = gLen S
      rw [Int.zero_add]
      exact this
    · rw [show gFo S s + j = gFo S s by omega, e5]
      exact ⟨by omega, fun _ => ⟨b2, b3, b4⟩⟩
  by_cases h3 : okS (smf S (gFo S s)) u (nxS (wS S (gFo S s)) (gSz S s) u) (suR S (gFo S s) (gSz S s) u)
  · rw [endV_3 h1 h2 hld h3] at h
    simp only [Except.ok.injEq] at h
    subst h
    rw [a1] at h3 ⊢
    refine ⟨fin u _ a3 (fun j hj => ?_) ?_ (fun j hj => ?_), rfl⟩
    · have := cst_01 (f := smf S (gFo S s)) (u := u) (nx := nxS (wS S (gFo S s)) n u) (su := suR S (gFo S s) n u) j
      show -1 ≤ szR S (gFo S s) n u j ∧ szR S (gFo S s) n u j ≤ 2
      unfold szR
      omega
    · rw [sum_sz a3 hv (by omega) a5]
      exact szE_sum hv (by omega) a3 (by omega) a4 a5 h3
    · have e01 := szE_01 (S := S) (f0 := gFo S s) (n := n) (u := u) a5 hj
      have e5 : gIt (sSz S (gFo S s) u (szR S (gFo S s) n u)) (gFo S s + j) 5 = szE S (gFo S s) n u j := by
        rw [sz_5]
        unfold szE
        by_cases g : j < u
        · rw [if_pos (by omega), if_pos g, show gFo S s + j - gFo S s = j by omega]
        · rw [if_neg (by omega), if_neg g]
      rw [e5]
      exact ⟨by omega, fun z => by omega⟩
  · rw [endV_4 h1 h2 hld h3] at h
    exact absurd h (by simp)
end PVoice
