section XItem
variable {Mv M M' : Mem} {S S' : Mus} {c p q : Nat} {row : Nat → Int} {len : Int} {o : Bool} {t : Int} {w : Option Int} {y : Nat → Int32} {xs : List Int} {Q : Int32 → Mem → Prop}
def RI (M : Mem) (S : Mus) : Prop := M 54 1 = zI (gNi S) ∧ M 55 1 = zI (gHd S) ∧ (∀ i a : Nat, i < gNi S → a < 10 → M (58 + a) (600 + i) = zI (rat (gIt S i) a)) ∧ ∀ i k : Nat, i < gNi S → (k : Int) < gIt S i 9 → M 68 (4 * (600 + i) + k) = zI (gIt S i (10 + k))
def ri (n k j : Nat) : Prop := (k = 54 ∧ j = 1) ∨ (k = 55 ∧ j = 1) ∨ (58 ≤ k ∧ k ≤ 67 ∧ 600 ≤ j ∧ j < 600 + n) ∨ (k = 68 ∧ 2400 ≤ j ∧ j < 2400 + 4 * n)
theorem RI_far (hv : MV S) (h : RI M S) (he : ∀ k j : Nat, ri (gNi S) k j → M' k j = M k j) : RI M' S := by
  obtain ⟨h1, h2, h3, h4⟩ := h
  refine ⟨by rw [he _ _ (by unfold ri; omega)]; exact h1, by rw [he _ _ (by unfold ri; omega)]; exact h2, fun i a hi ha => by rw [he _ _ (by unfold ri; omega)]; exact h3 i a hi ha, fun i k hi hk => ?_⟩
  have := (hv.2.2.2.2.2.1 i hi).2.2.2.2.2.2.2.2.2.1
  rw [he _ _ (by unfold ri; omega)]
  exact h4 i k hi hk
theorem RI_set {a b : Nat} {v : Int32} (hv : MV S) (h : RI M S) (hn : ¬ ri (gNi S) a b) (e : M' = mset M a b v) : RI M' S := RI_far hv h (fun k j hk => by rw [e, mset_g, if_neg (fun z => hn (by rw [← z.1, ← z.2]; exact hk))])
def XR (Mv M : Mem) (S : Mus) (p : Nat) (o : Bool) (w : Option Int) (t : Int) : Prop := RF Mv M ∧ RI M S ∧ M 46 24 = zI p ∧ M 46 25 = -1 ∧ M 46 26 = bI o ∧ RWT M w ∧ M 46 39 = zI t
theorem XR_set {a b : Nat} {v : Int32} (hv : MV S) (h : XR Mv M S p o w t) (h1 : ¬ kp a b) (h2 : ¬ ri (gNi S) a b) (h3 : ¬ (a = 46 ∧ (b = 24 ∨ b = 25 ∨ b = 26 ∨ b = 27 ∨ b = 28 ∨ b = 39))) (e : M' = mset M a b v) : XR Mv M' S p o w t := by
  obtain ⟨x1, x2, x3, x4, x5, x6, x7⟩ := h
  have g : ∀ j : Nat, (j = 24 ∨ j = 25 ∨ j = 26 ∨ j = 27 ∨ j = 28 ∨ j = 39) → M' 46 j = M 46 j := fun j hj => by rw [e, mset_g, if_neg (fun z => h3 ⟨z.1.symm, by rw [← z.2]; exact hj⟩)]
  exact ⟨RF_set x1 h1 e, RI_set hv x2 h2 e, by rw [g 24 (by omega)]; exact x3, by rw [g 25 (by omega)]; exact x4, by rw [g 26 (by omega)]; exact x5, RWT_of x6 (g 27 (by omega)) (g 28 (by omega)), by rw [g 39 (by omega)]; exact x7⟩
theorem XR_at (hv : MV S) (h : XR Mv M S p o w t) (e : M' = mset M 46 24 (zI q)) : XR Mv M' S q o w t := by
  obtain ⟨x1, x2, x3, x4, x5, x6, x7⟩ := h
  exact ⟨RF_set x1 (by unfold kp; omega) e, RI_set hv x2 (by unfold ri; omega) e, by rw [e, mset_at], by rw [e, mset_j (by omega)]; exact x4, by rw [e, mset_j (by omega)]; exact x5, RWT_of x6 (by rw [e, mset_j (by omega)]) (by rw [e, mset_j (by omega)]), by rw [e, mset_j (by omega)]; exact x7⟩
theorem XR_o {o' : Bool} {v : Int32} (hv : MV S) (h : XR Mv M S p o w t) (ho : v = bI o') (e : M' = mset M 46 26 v) : XR Mv M' S p o' w t := by
  obtain ⟨x1, x2, x3, x4, x5, x6, x7⟩ := h
  exact ⟨RF_set x1 (by unfold kp; omega) e, RI_set hv x2 (by unfold ri; omega) e, by rw [e, mset_j (by omega)]; exact x3, by rw [e, mset_j (by omega)]; exact x4, by rw [e, mset_at]; exact ho, RWT_of x6 (by rw [e, mset_j (by omega)]) (by rw [e, mset_j (by omega)]), by rw [e, mset_j (by omega)]; exact x7⟩
theorem XR_t {t' : Int} {v : Int32} (hv : MV S) (h : XR Mv M S p o w t) (ht : v = zI t') (e : M' = mset M 46 39 v) : XR Mv M' S p o w t' := by
  obtain ⟨x1, x2, x3, x4, x5, x6, x7⟩ := h
  exact ⟨RF_set x1 (by unfold kp; omega) e, RI_set hv x2 (by unfold ri; omega) e, by rw [e, mset_j (by omega)]; exact x3, by rw [e, mset_j (by omega)]; exact x4, by rw [e, mset_j (by omega)]; exact x5, RWT_of x6 (by rw [e, mset_j (by omega)]) (by rw [e, mset_j (by omega)]), by rw [e, mset_at]; exact ht⟩
theorem XR_w {M1 : Mem} {pt : Int} {v : Int32} (hv : MV S) (h : XR Mv M S p o w t) (hp : 7 ≤ pt ∧ pt ≤ 55) (hp2 : v = zI pt) (e1 : M1 = mset M 46 27 0) (e : M' = mset M1 46 28 v) : XR Mv M' S p o (some pt) t := by
  obtain ⟨x1, x2, x3, x4, x5, x6, x7⟩ := h
  have g : ∀ j : Nat, j ≠ 27 → j ≠ 28 → M' 46 j = M 46 j := fun j h1 h2 => by rw [e, mset_j h2, e1, mset_j h1]
  exact ⟨RF_set (RF_set x1 (by unfold kp; omega) e1) (by unfold kp; omega) e, RI_set hv (RI_set hv x2 (by unfold ri; omega) e1) (by unfold ri; omega) e, by rw [g 24 (by omega) (by omega)]; exact x3, by rw [g 25 (by omega) (by omega)]; exact x4, by rw [g 26 (by omega) (by omega)]; exact x5, ⟨by rw [e, mset_j (by omega), e1, mset_at], by rw [e, mset_at]; exact hp2, hp.1, hp.2⟩, by rw [g 39 (by omega) (by omega)]; exact x7⟩
theorem JS_of {f : Nat} (h : XR Mv M S p o w t) (hp : p ≤ 4100) (hf : f ≤ 4100) (e : M' = mset M 46 25 (zI f)) : JS Mv M' f := by
  obtain ⟨x1, x2, x3, x4, x5, x6, x7⟩ := h
  refine ⟨RF_set x1 (by unfold kp; omega) e, by rw [e, mset_at], hf, ⟨p, by omega, by rw [e, mset_j (by omega)]; exact x3⟩, ?_⟩
  rw [e, mset_j (by omega)]
  exact RWT_01 x6
/-- an item being read -/
def XI (Mv M : Mem) (S : Mus) (p : Nat) (o : Bool) (w : Option Int) (t : Int) (y : Nat → Int32) (xs : List Int) : Prop := XR Mv M S p o w t ∧ (∀ a : Nat, a < 10 → M (58 + a) (600 + gNi S) = y a) ∧ ∀ k : Nat, k < xs.length → M 68 (4 * (600 + gNi S) + k) = zI (xs.getD k 0)
theorem XI_46 {j : Nat} {v : Int32} {p' : Nat} {o' : Bool} {w' : Option Int} {t' : Int} (h : XI Mv M S p o w t y xs) (hx : XR Mv M' S p' o' w' t') (e : M' = mset M 46 j v) : XI Mv M' S p' o' w' t' y xs := ⟨hx, fun a ha => by rw [e, mset_o (by omega)]; exact h.2.1 a ha, fun k hk => by rw [e, mset_o (by omega)]; exact h.2.2 k hk⟩
theorem XI_at (hv : MV S) (h : XI Mv M S p o w t y xs) (e : M' = mset M 46 24 (zI q)) : XI Mv M' S q o w t y xs := XI_46 h (XR_at hv h.1 e) e
def yu (y : Nat → Int32) (a : Nat) (v : Int32) : Nat → Int32 := fun b => if b = a then v else y b
theorem XI_f {a : Nat} {v : Int32} (hv : MV S) (h : XI Mv M S p o w t y xs) (ha : a < 10) (e : M' = mset M (58 + a) (600 + gNi S) v) : XI Mv M' S p o w t (yu y a v) xs := by
  refine ⟨XR_set hv h.1 (by unfold kp; omega) (by unfold ri; omega) (by omega) e, fun b hb => ?_, fun k hk => by rw [e, mset_o (by omega)]; exact h.2.2 k hk⟩
  unfold yu
  by_cases g : b = a
  · subst g
    rw [if_pos rfl, e, mset_at]
  · rw [if_neg g, e, mset_o (by omega)]
    exact h.2.1 b hb
theorem XI_x {x : Int} (hv : MV S) (h : XI Mv M S p o w t y xs) (hl : xs.length < 4) (e : M' = mset M 68 (4 * (600 + gNi S) + xs.length) (zI x)) : XI Mv M' S p o w t y (xs ++ [x]) := by
  refine ⟨XR_set hv h.1 (by unfold kp; omega) (by unfold ri; omega) (by omega) e, fun b hb => by rw [e, mset_o (by omega)]; exact h.2.1 b hb, fun k hk => ?_⟩
  rw [getD_snoc xs x k hk]
  by_cases g : k = xs.length
  · subst g
    rw [if_pos rfl, e, mset_at]
  · rw [if_neg g, e, mset_j (by omega)]
    simp only [List.length_append, List.length_cons, List.length_nil] at hk
    exact h.2.2 k (by omega)
theorem fin66 {P : Int → Prop} (h : ∀ z : Fin 66, P ((z.val : Nat) - 1 : Int)) {x : Int} (hx : -1 ≤ x ∧ x ≤ 64) : P x := by
  have := h ⟨(x + 1).toNat, by omega⟩
  rw [show ((((⟨(x + 1).toNat, by omega⟩ : Fin 66).val : Nat) : Int) - 1) = x by show (((x + 1).toNat : Nat) : Int) - 1 = x; omega] at this
  exact this
theorem cellF {x : Int} (hx : -1 ≤ x ∧ x ≤ 64) : (0 < sgI x → x ≠ 24 ∧ x ≠ 32 ∧ x ≠ 48 ∧ x ≠ 0 ∧ x ≠ 64 ∧ x ≠ -1 ∧ ixF lRs x < 0 ∧ ixF lOc x < 0 ∧ stI x < 0) ∧ (0 ≤ ixF lOc x → sgI x = 0 ∧ stI x < 0 ∧ ixF lRs x < 0 ∧ x ≠ 0 ∧ x ≠ 64 ∧ x ≠ -1 ∧ x ≠ 35) ∧ (x = 24 ∨ x = 32 ∨ x = 48 → 0 ≤ ixF lOc x) ∧ (0 ≤ stI x ∨ 0 ≤ ixF lRs x → x ≠ 0 ∧ x ≠ 64 ∧ x ≠ -1 ∧ x ≠ 35 ∧ x ≠ 24 ∧ x ≠ 32) ∧ (x = 35 → 0 < sgI x) ∧ (x = 28 → stI x < 0 ∧ ixF lOc x < 0) ∧ (x = 9 → sgI x = 0 ∧ stI x < 0 ∧ ixF lOc x < 0 ∧ ixF lRs x < 0) := by
  have a0 : ∀ z : Fin 66, (fun x : Int => 0 < sgI x → x ≠ 24 ∧ x ≠ 32 ∧ x ≠ 48 ∧ x ≠ 0 ∧ x ≠ 64 ∧ x ≠ -1 ∧ ixF lRs x < 0 ∧ ixF lOc x < 0 ∧ stI x < 0) ((z.val : Nat) - 1 : Int) := by
    show ∀ z : Fin 66, 0 < sgI ((z.val : Nat) - 1 : Int) → ((z.val : Nat) - 1 : Int) ≠ 24 ∧ ((z.val : Nat) - 1 : Int) ≠ 32 ∧ ((z.val : Nat) - 1 : Int) ≠ 48 ∧ ((z.val : Nat) - 1 : Int) ≠ 0 ∧ ((z.val : Nat) - 1 : Int) ≠ 64 ∧ ((z.val : Nat) - 1 : Int) ≠ -1 ∧ ixF lRs ((z.val : Nat) - 1 : Int) < 0 ∧ ixF lOc ((z.val : Nat) - 1 : Int) < 0 ∧ stI ((z.val : Nat) - 1 : Int) < 0
    decide +kernel
  have a1 : ∀ z : Fin 66, (fun x : Int => 0 ≤ ixF lOc x → sgI x = 0 ∧ stI x < 0 ∧ ixF lRs x < 0 ∧ x ≠ 0 ∧ x ≠ 64 ∧ x ≠ -1 ∧ x ≠ 35) ((z.val : Nat) - 1 : Int) := by
    show ∀ z : Fin 66, 0 ≤ ixF lOc ((z.val : Nat) - 1 : Int) → sgI ((z.val : Nat) - 1 : Int) = 0 ∧ stI ((z.val : Nat) - 1 : Int) < 0 ∧ ixF lRs ((z.val : Nat) - 1 : Int) < 0 ∧ ((z.val : Nat) - 1 : Int) ≠ 0 ∧ ((z.val : Nat) - 1 : Int) ≠ 64 ∧ ((z.val : Nat) - 1 : Int) ≠ -1 ∧ ((z.val : Nat) - 1 : Int) ≠ 35
    decide +kernel
  have a2 : ∀ z : Fin 66, (fun x : Int => x = 24 ∨ x = 32 ∨ x = 48 → 0 ≤ ixF lOc x) ((z.val : Nat) - 1 : Int) := by
    show ∀ z : Fin 66, ((z.val : Nat) - 1 : Int) = 24 ∨ ((z.val : Nat) - 1 : Int) = 32 ∨ ((z.val : Nat) - 1 : Int) = 48 → 0 ≤ ixF lOc ((z.val : Nat) - 1 : Int)
    decide +kernel
  have a3 : ∀ z : Fin 66, (fun x : Int => 0 ≤ stI x ∨ 0 ≤ ixF lRs x → x ≠ 0 ∧ x ≠ 64 ∧ x ≠ -1 ∧ x ≠ 35 ∧ x ≠ 24 ∧ x ≠ 32) ((z.val : Nat) - 1 : Int) := by
    show ∀ z : Fin 66, 0 ≤ stI ((z.val : Nat) - 1 : Int) ∨ 0 ≤ ixF lRs ((z.val : Nat) - 1 : Int) → ((z.val : Nat) - 1 : Int) ≠ 0 ∧ ((z.val : Nat) - 1 : Int) ≠ 64 ∧ ((z.val : Nat) - 1 : Int) ≠ -1 ∧ ((z.val : Nat) - 1 : Int) ≠ 35 ∧ ((z.val : Nat) - 1 : Int) ≠ 24 ∧ ((z.val : Nat) - 1 : Int) ≠ 32
    decide +kernel
  have a4 : ∀ z : Fin 66, (fun x : Int => x = 35 → 0 < sgI x) ((z.val : Nat) - 1 : Int) := by
    show ∀ z : Fin 66, ((z.val : Nat) - 1 : Int) = 35 → 0 < sgI ((z.val : Nat) - 1 : Int)
    decide +kernel
  have a5 : ∀ z : Fin 66, (fun x : Int => x = 28 → stI x < 0 ∧ ixF lOc x < 0) ((z.val : Nat) - 1 : Int) := by
    show ∀ z : Fin 66, ((z.val : Nat) - 1 : Int) = 28 → stI ((z.val : Nat) - 1 : Int) < 0 ∧ ixF lOc ((z.val : Nat) - 1 : Int) < 0
    decide +kernel
  have a6 : ∀ z : Fin 66, (fun x : Int => x = 9 → sgI x = 0 ∧ stI x < 0 ∧ ixF lOc x < 0 ∧ ixF lRs x < 0) ((z.val : Nat) - 1 : Int) := by
    show ∀ z : Fin 66, ((z.val : Nat) - 1 : Int) = 9 → sgI ((z.val : Nat) - 1 : Int) = 0 ∧ stI ((z.val : Nat) - 1 : Int) < 0 ∧ ixF lOc ((z.val : Nat) - 1 : Int) < 0 ∧ ixF lRs ((z.val : Nat) - 1 : Int) < 0
    decide +kernel
  have d0 := fin66 (P := fun x : Int => 0 < sgI x → x ≠ 24 ∧ x ≠ 32 ∧ x ≠ 48 ∧ x ≠ 0 ∧ x ≠ 64 ∧ x ≠ -1 ∧ ixF lRs x < 0 ∧ ixF lOc x < 0 ∧ stI x < 0) a0 hx
  have d1 := fin66 (P := fun x : Int => 0 ≤ ixF lOc x → sgI x = 0 ∧ stI x < 0 ∧ ixF lRs x < 0 ∧ x ≠ 0 ∧ x ≠ 64 ∧ x ≠ -1 ∧ x ≠ 35) a1 hx
  have d2 := fin66 (P := fun x : Int => x = 24 ∨ x = 32 ∨ x = 48 → 0 ≤ ixF lOc x) a2 hx
  have d3 := fin66 (P := fun x : Int => 0 ≤ stI x ∨ 0 ≤ ixF lRs x → x ≠ 0 ∧ x ≠ 64 ∧ x ≠ -1 ∧ x ≠ 35 ∧ x ≠ 24 ∧ x ≠ 32) a3 hx
  have d4 := fin66 (P := fun x : Int => x = 35 → 0 < sgI x) a4 hx
  have d5 := fin66 (P := fun x : Int => x = 28 → stI x < 0 ∧ ixF lOc x < 0) a5 hx
  have d6 := fin66 (P := fun x : Int => x = 9 → sgI x = 0 ∧ stI x < 0 ∧ ixF lOc x < 0 ∧ ixF lRs x < 0) a6 hx
  exact ⟨d0, d1, d2, d3, d4, d5, d6⟩
/-- an item that has no size sign and no opening -/
theorem item_err {pk : Nat → Int} {hd : Int} (h1 : ¬ ((pk p = 24 ∨ pk p = 32) ∧ pk (p + 1) = 35)) (h2 : ¬ (pk p = 48 ∧ pk (p + 1) = 3)) (h3 : ixF lRs (pk p) < 0) (h4 : ptP pk p w < 0) : itemP pk hd p o t w = .error (p2P pk p) := by
  unfold itemP
  have e1 : sizeP pk p t = .ok (p, t) := by unfold sizeP; rw [if_neg h1]
  have e2 : openP pk p o = .ok (p, o) := by unfold openP; rw [if_neg h2]
  rw [e1]
  simp only
  rw [e2]
  simp only
  rw [if_neg (by omega), if_pos h4]
theorem pt_err {pk : Nat → Int} (h : stI (pk (p2P pk p)) < 0) : ptP pk p w < 0 := by
  unfold ptP
  rw [if_pos h]
  omega
theorem item_e1 {pk : Nat → Int} {hd : Int} (hp : PK pk c) (h1 : 0 < sgI (pk p)) (h2 : stI (pk (p + 1)) < 0) (h3 : ixF lOc (pk (p + 1)) < 0) : itemP pk hd p o t w = .error (p + 1) := by
  have f := (cellF ⟨(hp p).2.1, (hp p).2.2.1⟩).1 h1
  have e1 : p1P pk p = p + 1 := by unfold p1P; rw [if_neg (by omega)]
  have e2 : p2P pk p = p + 1 := by unfold p2P; rw [e1, if_pos h3]
  have := item_err (pk := pk) (p := p) (o := o) (t := t) (w := w) (hd := hd) (by omega) (by omega) (by omega) (pt_err (by rw [e2]; exact h2))
  rw [e2] at this
  exact this
theorem item_e2 {pk : Nat → Int} {hd : Int} (hp : PK pk c) (h1 : 0 ≤ ixF lOc (pk p)) (h2 : stI (pk (p + 1)) < 0) (h3 : ¬ ((pk p = 24 ∨ pk p = 32) ∧ pk (p + 1) = 35)) (h4 : ¬ (pk p = 48 ∧ pk (p + 1) = 3)) : itemP pk hd p o t w = .error (p + 1) := by
  have f := (cellF ⟨(hp p).2.1, (hp p).2.2.1⟩).2.1 h1
  have e1 : p1P pk p = p := by unfold p1P; rw [if_pos (by omega)]
  have e2 : p2P pk p = p + 1 := by unfold p2P; rw [e1, if_neg (by omega)]
  have := item_err (pk := pk) (p := p) (o := o) (t := t) (w := w) (hd := hd) h3 h4 (by omega) (pt_err (by rw [e2]; exact h2))
  rw [e2] at this
  exact this
theorem item_e3 {pk : Nat → Int} {hd : Int} (h3 : (pk p = 24 ∨ pk p = 32) ∧ pk (p + 1) = 35) (h4 : ¬ pk (p + 2) = 2) : itemP pk hd p o t w = .error (p + 2) := by
  unfold itemP
  have e1 : sizeP pk p t = .error (p + 2) := by unfold sizeP; rw [if_pos h3, if_neg h4]
  rw [e1]
theorem item_e4 {pk : Nat → Int} {hd : Int} (hp : PK pk c) (h1 : ¬ 0 < sgI (pk p)) (h2 : ixF lOc (pk p) < 0) (h3 : stI (pk p) < 0) (h4 : ixF lRs (pk p) < 0) : itemP pk hd p o t w = .error p := by
  have f := (cellF ⟨(hp p).2.1, (hp p).2.2.1⟩).2.2.1
  have e1 : p1P pk p = p := by unfold p1P; rw [if_pos (by omega)]
  have e2 : p2P pk p = p := by unfold p2P; rw [e1, if_pos h2]
  have := item_err (pk := pk) (p := p) (o := o) (t := t) (w := w) (hd := hd) (by omega) (by omega) h4 (pt_err (by rw [e2]; exact h3))
  rw [e2] at this
  exact this
def b01 (x : Int32) : Prop := x = 0 ∨ x = 1
theorem or_b {a b : Int32} (ha : b01 a) (hb : b01 b) : (a ||| b = 0 ↔ (a = 0 ∧ b = 0)) ∧ b01 (a ||| b) := by
  rcases ha with rfl | rfl <;> rcases hb with rfl | rfl <;> (unfold b01; decide)
theorem x_begins {mv : Bool} (hB : XB Mv c row len) (h : XR Mv M S p o w t) (hp : p ≤ c) (h1 : ((pkF c row p = 24 ∨ pkF c row p = 32) ∧ pkF c row (p + 1) = 35 → pkF c row (p + 2) = 2) → ¬ (pkF c row p = 0 ∨ pkF c row p = 64 ∨ pkF c row p = -1) → (pkF c row p = 35 ∧ pkF c row (p + 1) = 28 → False) → Q 1 M) (hF : ∀ e : Nat, e ≤ p + 2 → (∀ (hd : Int) (o : Bool) (t : Int) (w : Option Int), itemP (pkF c row) hd p o t w = .error e) → ¬ (pkF c row p = 0 ∨ pkF c row p = 64 ∨ pkF c row p = -1) → (pkF c row p = 35 ∧ pkF c row (p + 1) = 28 → e = p + 1 ∧ mv = false) → ∀ M' : Mem, JS Mv M' e → Q (-1) M') (h0 : ((mv = true ∧ pkF c row p = 35 ∧ pkF c row (p + 1) = 28) ∨ (¬ (pkF c row p = 35 ∧ pkF c row (p + 1) = 28) ∧ ∀ (hd : Int) (o : Bool) (t : Int) (w : Option Int), itemP (pkF c row) hd p o t w = .error p)) → Q 0 M) : w_X7_begins (bI mv) M Q := by
  have hP := PK_x hB
  have hc := hB.2.1
  have f := h.1
  have b0 := (hP p).2
  have b1 := (hP (p + 1)).2
  have b2 := (hP (p + 2)).2
  have C := cellF ⟨b0.1, b0.2.1⟩
  have D := cellF ⟨b1.1, b1.2.1⟩
  have rl : lRs.length = 4 := rfl
  have ol : lOc.length = 7 := rfl
  have rb := ixF_bd lRs (pkF c row p)
  have obd := ixF_bd lOc (pkF c row p)
  have sb := lSg_bd (pkF c row p)
  -- a fault at f
  have bad : ∀ (e : Nat) (z : Int32), e ≤ p + 2 → (∀ (hd : Int) (o : Bool) (t : Int) (w : Option Int), itemP (pkF c row) hd p o t w = .error e) → ¬ (pkF c row p = 0 ∨ pkF c row p = 64 ∨ pkF c row p = -1) → (pkF c row p = 35 ∧ pkF c row (p + 1) = 28 → e = p + 1 ∧ mv = false) → z = zI (e : Int) → w_X7_fail z M (fun v M' => ∀ z' : Int32, z' = (if 0 ≤ (M' 46 25) then (-1) else 1) → Q z' M') := by
    intro e z he hi hn h35 hz
    rw [hz]
    refine x_fail h.2.2.2.1 (fun M' e' z' ez => ?_)
    have hj := JS_of (f := e) h (by omega) (by omega) e'
    rw [if_pos (JS_nn hj)] at ez
    rw [ez]
    exact hF e he hi hn h35 M' hj
  have b150 : ∀ (fits two : Int32), b01 fits → (fits = 0 → (∀ (hd : Int) (o : Bool) (t : Int) (w : Option Int), itemP (pkF c row) hd p o t w = .error (p + 1)) ∧ ¬ (pkF c row p = 0 ∨ pkF c row p = 64 ∨ pkF c row p = -1) ∧ (pkF c row p = 35 ∧ pkF c row (p + 1) = 28 → mv = false)) → (¬ fits = 0 → ¬ (pkF c row p = 0 ∨ pkF c row p = 64 ∨ pkF c row p = -1) ∧ (pkF c row p = 35 ∧ pkF c row (p + 1) = 28 → False)) → (two = 0 → ¬ ((pkF c row p = 24 ∨ pkF c row p = 32) ∧ pkF c row (p + 1) = 35)) → (¬ two = 0 → (pkF c row p = 24 ∨ pkF c row p = 32) ∧ pkF c row (p + 1) = 35) → w_X7_begins_150 Q (bI mv) (zI (pkF c row p)) (zI (pkF c row (p + 1))) fits two M := by
    intro fits two hb g0 g1 t0 t1
    unfold w_X7_begins_150
    rw [h.2.2.1, h.2.2.2.1]
    refine ⟨fun hf => ⟨fun ht z18 e18 => ?_, fun ht => ?_⟩, fun hf => ?_⟩
    · rw [if_neg (by decide)] at e18
      rw [e18]
      exact h1 (fun z => absurd z (t0 ht)) (g1 hf).1 (g1 hf).2
    · rw [lz2, zI_add]
      refine x_peek (q := p + 2) hB f (by omega) ?_
      rw [zI_eq (by omega) (by omega) (by omega) (by omega), h.2.2.1, h.2.2.2.1, zI_add]
      refine ⟨fun g z22 e22 => ?_, fun g => bad (p + 2) _ (by omega) (fun hd o t w => item_e3 (t1 ht) g) (g1 hf).1 (fun z => absurd z.1 (by have := (t1 ht).1; omega)) rfl⟩
      rw [if_neg (by decide)] at e22
      rw [e22]
      exact h1 (fun _ => g) (g1 hf).1 (g1 hf).2
    · rw [lz1, zI_add]
      exact bad (p + 1) _ (by omega) (g0 hf).1 (g0 hf).2.1 (fun z => ⟨rfl, (g0 hf).2.2 z⟩) rfl
  unfold w_X7_begins
  rw [h.2.2.1]
  refine x_peek hB f (by omega) ?_
  rw [h.2.2.1, lz1, zI_add]
  refine x_peek (q := p + 1) hB f (by omega) (x_fRs hB f (by omega) ?_)
  rw [lz0, zI_le (by omega) (by omega) (by omega) (by omega)]
  refine ⟨fun g => h1 (fun z => absurd z.1 (by have := C.2.2.2.1 (Or.inr g); omega)) (by have := C.2.2.2.1 (Or.inr g); omega) (fun z => absurd z.1 (by have := C.2.2.2.1 (Or.inr g); omega)), fun g => ?_⟩
  rw [← lz0]
  refine x_isNote hB f ⟨b0.1, b0.2.1⟩ (fun gn => ⟨fun z => absurd z one0, fun _ => ?_⟩) (fun gn => ⟨fun _ => ?_, fun z => absurd rfl z⟩)
  · exact h1 (fun z => absurd z.1 (by have := C.2.2.2.1 (Or.inl gn); omega)) (by have := C.2.2.2.1 (Or.inl gn); omega) (fun z => absurd z.1 (by have := C.2.2.2.1 (Or.inl gn); omega))
  -- behind: is the next cell a note
  have next : ∀ v9 : Int32, b01 v9 → (v9 = 0 ↔ stI (pkF c row (p + 1)) < 0) → w_X7_signOf (zI (pkF c row p)) M (fun v11 M12 => ((v11 ≤ 0) → (w_X7_isOctave (zI (pkF c row p)) M12 (fun v13 M14 => ((v13 = 0) → (Q 0 M14)) ∧ (¬ (v13 = 0) → (∀ z15 : Int32, z15 = (if zI (pkF c row p) = 24 then (if zI (pkF c row (p + 1)) = 35 then 1 else 0) else (if zI (pkF c row p) = 32 then (if zI (pkF c row (p + 1)) = 35 then 1 else 0) else 0)) → ∀ z16 : Int32, z16 = (if z15 = 0 then (if zI (pkF c row p) = 48 then (if zI (pkF c row (p + 1)) = 3 then 1 else 0) else 0) else 1) → ∀ x17 : Int32, x17 = (v9 ||| z16) → w_X7_begins_150 Q (bI mv) (zI (pkF c row p)) (zI (pkF c row (p + 1))) x17 z15 M14))))) ∧ (¬ (v11 ≤ 0) → (w_X7_isOctave (zI (pkF c row (p + 1))) M12 (fun v34 M35 => ∀ x36 : Int32, x36 = (v9 ||| v34) → (¬ (zI (pkF c row p) = 35) → (w_X7_begins_150 Q (bI mv) (zI (pkF c row p)) (zI (pkF c row (p + 1))) x36 0 M35)) ∧ ((zI (pkF c row p) = 35) → ((¬ (zI (pkF c row (p + 1)) = 28) → (w_X7_begins_150 Q (bI mv) (zI (pkF c row p)) (zI (pkF c row (p + 1))) x36 0 M35)) ∧ ((zI (pkF c row (p + 1)) = 28) → (((bI mv = 0) → (w_X7_begins_150 Q (bI mv) (zI (pkF c row p)) (zI (pkF c row (p + 1))) x36 0 M35)) ∧ (¬ (bI mv = 0) → (Q 0 M35)))))))))) := by
    intro v9 h9 h9'
    refine x_signOf ⟨b0.1, b0.2.1⟩ ?_
    rw [lz0, zI_le (by omega) (by omega) (by omega) (by omega)]
    refine ⟨fun gs => x_isOct hB f ⟨b0.1, b0.2.1⟩ (fun go => ⟨fun z => absurd z one0, fun _ z15 e15 z16 e16 x17 e17 => ?_⟩) (fun go => ⟨fun _ => h0 (Or.inr ⟨fun z => by have := C.2.2.2.2.1 z.1; omega, fun hd o t w => item_e4 hP (by omega) go gn (by omega)⟩), fun z => absurd rfl z⟩), fun gs => ?_⟩
    · have k1 : zI (pkF c row p) = 24 ↔ pkF c row p = 24 := by rw [lz24, zI_eq (by omega) (by omega) (by omega) (by omega)]
      have k2 : zI (pkF c row p) = 32 ↔ pkF c row p = 32 := by rw [lz32, zI_eq (by omega) (by omega) (by omega) (by omega)]
      have k3 : zI (pkF c row p) = 48 ↔ pkF c row p = 48 := by rw [lz48, zI_eq (by omega) (by omega) (by omega) (by omega)]
      have k4 : zI (pkF c row (p + 1)) = 35 ↔ pkF c row (p + 1) = 35 := by rw [lz35, zI_eq (by omega) (by omega) (by omega) (by omega)]
      have k5 : zI (pkF c row (p + 1)) = 3 ↔ pkF c row (p + 1) = 3 := by rw [lz3, zI_eq (by omega) (by omega) (by omega) (by omega)]
      have n0 : ¬ (0 : Int32) = zI 1 := by decide +kernel
      rw [← lz0] at e15 e16
      simp only [k1, k2, k4] at e15
      simp only [k3, k5] at e16
      have two1 : (z15 = 0 ∧ ¬ ((pkF c row p = 24 ∨ pkF c row p = 32) ∧ pkF c row (p + 1) = 35)) ∨ (z15 = 1 ∧ ((pkF c row p = 24 ∨ pkF c row p = 32) ∧ pkF c row (p + 1) = 35)) := by
        by_cases a1 : pkF c row p = 24
        · rw [if_pos a1] at e15
          by_cases a2 : pkF c row (p + 1) = 35
          · rw [if_pos a2] at e15; right; exact ⟨e15, Or.inl a1, a2⟩
          · rw [if_neg a2] at e15; left; exact ⟨e15, fun z => a2 z.2⟩
        · rw [if_neg a1] at e15
          by_cases a3 : pkF c row p = 32
          · rw [if_pos a3] at e15
            by_cases a2 : pkF c row (p + 1) = 35
            · rw [if_pos a2] at e15; right; exact ⟨e15, Or.inr a3, a2⟩
            · rw [if_neg a2] at e15; left; exact ⟨e15, fun z => a2 z.2⟩
          · rw [if_neg a3] at e15; left; exact ⟨e15, fun z => by omega⟩
      have fit1 : (z16 = 0 ∧ z15 = 0 ∧ ¬ (pkF c row p = 48 ∧ pkF c row (p + 1) = 3)) ∨ (z16 = 1 ∧ (¬ z15 = 0 ∨ (pkF c row p = 48 ∧ pkF c row (p + 1) = 3))) := by
        by_cases a1 : z15 = 0
        · rw [if_pos a1] at e16
          by_cases a2 : pkF c row p = 48
          · rw [if_pos a2] at e16
            by_cases a3 : pkF c row (p + 1) = 3
            · rw [if_pos a3] at e16; right; exact ⟨e16, Or.inr ⟨a2, a3⟩⟩
            · rw [if_neg a3] at e16; left; exact ⟨e16, a1, fun z => a3 z.2⟩
          · rw [if_neg a2] at e16; left; exact ⟨e16, a1, fun z => a2 z.1⟩
        · rw [if_neg a1] at e16; right; exact ⟨e16, Or.inl a1⟩
      have h16 : b01 z16 := by rcases fit1 with z | z; exact Or.inl z.1; exact Or.inr z.1
      have o1 := or_b h9 h16
      have cn := C.2.1 go
      rw [e17]
      refine b150 _ _ o1.2 (fun z => ?_) (fun _ => ⟨by omega, fun z => by omega⟩) (fun z => ?_) (fun z => ?_)
      · have z2 := o1.1.mp z
        rcases fit1 with ⟨-, a1, a2⟩ | ⟨a1, -⟩
        · rcases two1 with ⟨-, a3⟩ | ⟨a3, -⟩
          · exact ⟨fun hd o t w => item_e2 hP go (h9'.mp z2.1) a3 a2, by omega, fun z => by omega⟩
          · exact absurd (a3.symm.trans a1) one0
        · exact absurd (a1.symm.trans z2.2) one0
      · rcases two1 with ⟨-, a3⟩ | ⟨a3, -⟩
        · exact a3
        · exact absurd (a3.symm.trans z) one0
      · rcases two1 with ⟨a3, -⟩ | ⟨-, a3⟩
        · exact absurd a3 z
        · exact a3
    · have cn := C.1 (by omega)
      have k1 : zI (pkF c row p) = 35 ↔ pkF c row p = 35 := by rw [lz35, zI_eq (by omega) (by omega) (by omega) (by omega)]
      have k2 : zI (pkF c row (p + 1)) = 28 ↔ pkF c row (p + 1) = 28 := by rw [lz28, zI_eq (by omega) (by omega) (by omega) (by omega)]
      have go : ∀ v34 : Int32, b01 v34 → (v34 = 0 ↔ ixF lOc (pkF c row (p + 1)) < 0) → ∀ x36 : Int32, x36 = (v9 ||| v34) → (¬ (zI (pkF c row p) = 35) → (w_X7_begins_150 Q (bI mv) (zI (pkF c row p)) (zI (pkF c row (p + 1))) x36 0 M)) ∧ ((zI (pkF c row p) = 35) → ((¬ (zI (pkF c row (p + 1)) = 28) → (w_X7_begins_150 Q (bI mv) (zI (pkF c row p)) (zI (pkF c row (p + 1))) x36 0 M)) ∧ ((zI (pkF c row (p + 1)) = 28) → (((bI mv = 0) → (w_X7_begins_150 Q (bI mv) (zI (pkF c row p)) (zI (pkF c row (p + 1))) x36 0 M)) ∧ (¬ (bI mv = 0) → (Q 0 M)))))) := by
        intro v34 h34 h34' x36 e36
        have o1 := or_b h9 h34
        rw [k1, k2, e36]
        have sub : (pkF c row p = 35 ∧ pkF c row (p + 1) = 28 → mv = false) → w_X7_begins_150 Q (bI mv) (zI (pkF c row p)) (zI (pkF c row (p + 1))) (v9 ||| v34) 0 M := by
          intro hm
          refine b150 _ _ o1.2 (fun z => ?_) (fun z => ⟨by omega, fun y => ?_⟩) (fun _ => by omega) (fun z => absurd rfl z)
          · have z2 := o1.1.mp z
            exact ⟨fun hd o t w => item_e1 hP (by omega) (h9'.mp z2.1) (h34'.mp z2.2), by omega, hm⟩
          · have d28 := D.2.2.2.2.2.1 y.2
            exact z (o1.1.mpr ⟨h9'.mpr d28.1, h34'.mpr d28.2⟩)
        refine ⟨fun z => sub (fun y => absurd y.1 z), fun z => ⟨fun z2 => sub (fun y => absurd y.2 z2), fun z2 => ⟨fun z3 => sub (fun _ => bI_0.mp z3), fun z3 => h0 (Or.inl ⟨?_, z, z2⟩)⟩⟩⟩
        cases mv with
        | true => rfl
        | false => exact absurd rfl z3
      exact x_isOct hB f ⟨b1.1, b1.2.1⟩ (fun g1 => go 1 (Or.inr rfl) ⟨fun z => absurd z one0, fun z => by omega⟩) (fun g1 => go 0 (Or.inl rfl) ⟨fun _ => g1, fun _ => rfl⟩)
  exact x_isNote hB f ⟨b1.1, b1.2.1⟩ (fun g1 => next 1 (Or.inr rfl) ⟨fun z => absurd z one0, fun z => by omega⟩) (fun g1 => next 0 (Or.inl rfl) ⟨fun _ => g1, fun _ => rfl⟩)
end XItem
