section Settle
variable {M : Mem} {S : Mus} {c r m : Nat} {row : Nat → Int} {Q : Int32 → Mem → Prop} {f w : Nat → Int} {u n : Nat} {nx su : Int}
theorem e_layEnd (hc : M 35 2 = zI u) (hu : u ≤ 40) (hs : 0 ≤ su ∧ su ≤ 136) (hx : -1 ≤ nx ∧ nx ≤ 1) (hQ : ∀ M' : Mem, (∀ k : Nat, k ≠ 38 → M' k = M k) → (∀ t s : Nat, (t : Int) ≤ su → s < 2 → M' 38 (u * 274 + t * 2 + s) = zI (lc f u nx 0 s t)) → Q 0 M') : w_X5_layEnd (zI su) (zI nx) M Q := by
  refine ⟨(su + 1).toNat + 1, ?_⟩
  have key : ∀ (k t : Nat) (Mx : Mem), (t : Int) ≤ su + 1 → (su + 1).toNat - t < k → (∀ k : Nat, k ≠ 38 → Mx k = M k) → (∀ t' s : Nat, t' < t → s < 2 → Mx 38 (u * 274 + t' * 2 + s) = zI (lc f u nx 0 s t')) → w_X5_layEnd_2 Q k (zI su) (zI nx) (zI t) Mx := by
    intro k
    induction k with
    | zero => intro t Mx g1 g2; omega
    | succ k ih =>
      intro t Mx ht hk h1 h2
      show wb_X5_layEnd_2 Q (w_X5_layEnd_2 Q k) _ _ _ Mx
      unfold wb_X5_layEnd_2
      rw [zI_lt (by omega) (by omega) (by omega) (by omega)]
      refine ⟨fun q => hQ Mx h1 (fun t' s g1 g2 => h2 t' s (by omega) g2), fun q => ⟨3, ?_⟩⟩
      have hcx : Mx 35 2 = zI u := by rw [h1 35 (by omega)]; exact hc
      have val : ∀ (s : Nat) (z2 z3 : Int32), s < 2 → z2 = (if zI (t : Int) = 0 then (if zI nx = (-1) then 1 else (if zI nx = zI (s : Int) then 1 else 0)) else 0) → z3 = (if z2 = 0 then 1000 else 0) → z3 = zI (lc f u nx 0 s t) := by
        intro s z2 z3 hs2 e2 e3
        have k1 : zI (t : Int) = 0 ↔ (t : Int) = 0 := by rw [lz0, zI_eq (by omega) (by omega) (by omega) (by omega)]
        have k2 : zI nx = (-1) ↔ nx = -1 := by rw [ln1, zI_eq (by omega) (by omega) (by omega) (by omega)]
        have k3 : zI nx = zI (s : Int) ↔ nx = s := by rw [zI_eq (by omega) (by omega) (by omega) (by omega)]
        simp only [k1, k2, k3] at e2
        show z3 = zI (if (t : Int) = 0 ∧ (nx = -1 ∨ nx = s) then 0 else 1000)
        by_cases g1 : (t : Int) = 0
        · rw [if_pos g1] at e2
          by_cases g2 : nx = -1
          · rw [if_pos g2] at e2
            rw [e3, e2, if_neg (by decide), if_pos ⟨g1, Or.inl g2⟩]
            rfl
          · rw [if_neg g2] at e2
            by_cases g3 : nx = s
            · rw [if_pos g3] at e2
              rw [e3, e2, if_neg (by decide), if_pos ⟨g1, Or.inr g3⟩]
              rfl
            · rw [if_neg g3] at e2
              rw [e3, e2, if_pos rfl, if_neg (by omega)]
              rfl
        · rw [if_neg g1] at e2
          rw [e3, e2, if_pos rfl, if_neg (by omega)]
          rfl
      show wb_X5_layEnd_10 Q (w_X5_layEnd_2 Q k) (wb_X5_layEnd_10 Q (w_X5_layEnd_2 Q k) (wb_X5_layEnd_10 Q (w_X5_layEnd_2 Q k) (fun _ _ _ _ _ => False))) _ _ _ _ Mx
      unfold wb_X5_layEnd_10
      refine ⟨fun z => absurd z (by decide), fun _ z2 e2 z3 e3 => ?_⟩
      have v0 := val 0 z2 z3 (by omega) e2 e3
      rw [hcx, show (274 : Int32) = zI 274 by decide +kernel, zI_mul, lz2, zI_mul, zI_add, lz0, zI_add, zI_in (by omega) (by omega), zI_tn (by omega) (by omega)]
      refine ⟨by omega, fun M5 e5 x6 e6 => ⟨fun z => absurd z (by rw [e6]; decide +kernel), fun _ y2 f2 y3 f3 => ?_⟩⟩
      have e6' : x6 = zI ((1 : Nat) : Int) := by rw [e6, lz1, zI_add]; rfl
      subst e6'
      have v1 := val 1 y2 y3 (by omega) f2 f3
      have hc5 : M5 35 2 = zI u := by rw [e5, mset_o (by omega)]; exact hcx
      rw [hc5, zI_mul, zI_add, zI_add, zI_in (by omega) (by omega), zI_tn (by omega) (by omega)]
      refine ⟨by omega, fun M6 e7 x8 e8 => ⟨fun _ x1 ex => ?_, fun z => absurd (by rw [e8]; decide +kernel) z⟩⟩
      have ex' : x1 = zI ((t + 1 : Nat) : Int) := by rw [ex, lz1, zI_add]; rfl
      subst ex'
      rw [show ((u : Int) * 274 + (t : Int) * 2 + 0).toNat = u * 274 + t * 2 + 0 by omega] at e5
      rw [show ((u : Int) * 274 + (t : Int) * 2 + ((1 : Nat) : Int)).toNat = u * 274 + t * 2 + 1 by omega] at e7
      refine ih (t + 1) M6 (by omega) (by omega) (fun k hk => by rw [e7, mset_o hk, e5, mset_o hk]; exact h1 k hk) (fun t' s g1 g2 => ?_)
      by_cases g : t' = t
      · subst g
        have : s = 0 ∨ s = 1 := by omega
        rcases this with rfl | rfl
        · rw [e7, mset_j (by omega), e5, mset_at]; exact v0
        · rw [e7, mset_at]; exact v1
      · rw [e7, mset_j (by omega), e5, mset_j (by omega)]
        exact h2 t' s (by omega) g2
  exact key _ 0 M (by omega) (by omega) (fun _ _ => rfl) (fun t' s g => by omega)
theorem e_leastBehind {i t s : Nat} {a b : Int} (hi : i ≤ 40) (ht : t ≤ 136) (hs : s < 2) (ha : M 38 (i * 274 + t * 2 + s) = zI a) (hb : M 38 (i * 274 + t * 2 + (1 - s)) = zI b) (ba : 0 ≤ a ∧ a ≤ 1000) (bb : 0 ≤ b ∧ b ≤ 1000) (hQ : Q (zI (mn a (b + 1))) M) : w_X5_leastBehind (zI i) (zI t) (zI s) M Q := by
  unfold w_X5_leastBehind
  intro x1 e1
  rw [show (274 : Int32) = zI 274 by decide +kernel, zI_mul, lz2, zI_mul, zI_add] at e1
  subst e1
  rw [zI_add, zI_in (by omega) (by omega), zI_tn (by omega) (by omega), show ((i : Int) * 274 + (t : Int) * 2 + (s : Int)).toNat = i * 274 + t * 2 + s by omega, ha, lz1, zI_add, zI_sub, zI_in (by omega) (by omega), zI_tn (by omega) (by omega), show ((i : Int) * 274 + (t : Int) * 2 + 1 - (s : Int)).toNat = i * 274 + t * 2 + (1 - s) by omega, hb, zI_add]
  refine ⟨by omega, fun x3 e3 => ⟨by omega, fun x5 e5 z6 e6 => ?_⟩⟩
  subst e3 e5
  have k1 : zI (b + 1) ≤ zI a ↔ b + 1 ≤ a := by rw [zI_le (by omega) (by omega) (by omega) (by omega)]
  simp only [k1] at e6
  have : z6 = zI (mn a (b + 1)) := by
    rw [e6]
    unfold mn
    by_cases g : b + 1 ≤ a
    · rw [if_pos g, if_pos g]
    · rw [if_neg g, if_neg g]
  subst this
  exact hQ
theorem e_layItem {i : Nat} (hi : i < u) (hu : u ≤ 40) (hs : 0 ≤ su ∧ su ≤ 136) (hf : ∀ j : Nat, j < u → M 37 j = zI (f j) ∧ 0 ≤ f j ∧ f j ≤ 56) (hl : ∀ t s : Nat, (t : Int) ≤ su → s < 2 → M 38 ((i + 1) * 274 + t * 2 + s) = zI (lc f u nx (u - (i + 1)) s t)) (hQ : ∀ M' : Mem, (∀ k : Nat, k ≠ 38 → M' k = M k) → (∀ x : Nat, (i + 1) * 274 ≤ x → M' 38 x = M 38 x) → (∀ t s : Nat, (t : Int) ≤ su → s < 2 → M' 38 (i * 274 + t * 2 + s) = zI (lc f u nx (u - i) s t)) → Q 0 M') : w_X5_layItem (zI i) (zI su) M Q := by
  refine ⟨(su + 1).toNat + 1, ?_⟩
  have e1 : u - i = u - (i + 1) + 1 := by omega
  have e2 : u - (u - (i + 1) + 1) = i := by omega
  have L0 : ∀ t : Int, lc f u nx (u - i) ((0 : Nat) : Int) t = if t < f i then 1000 else mn (lc f u nx (u - (i + 1)) 0 (t - f i)) (lc f u nx (u - (i + 1)) 1 (t - f i) + 1) := by
    intro t
    rw [e1]
    show (if t < f (u - (u - (i + 1) + 1)) then 1000 else mn (lc f u nx (u - (i + 1)) 0 (t - f (u - (u - (i + 1) + 1)))) (lc f u nx (u - (i + 1)) 1 (t - f (u - (u - (i + 1) + 1))) + 1)) = _
    rw [e2]
  have L1 : ∀ t : Int, lc f u nx (u - i) ((1 : Nat) : Int) t = mn (lc f u nx (u - (i + 1)) 1 t) (lc f u nx (u - (i + 1)) 0 t + 1) := by
    intro t
    rw [e1]
    rfl
  have hfi := hf i hi
  have bd : ∀ (s t : Int), 0 ≤ lc f u nx (u - (i + 1)) s t ∧ lc f u nx (u - (i + 1)) s t ≤ 1000 := fun s t => by
    have := lc_bd (f := f) (u := u) (nx := nx) (u - (i + 1)) s t (by omega)
    omega
  have key : ∀ (k t : Nat) (Mx : Mem), (t : Int) ≤ su + 1 → (su + 1).toNat - t < k → (∀ k : Nat, k ≠ 38 → Mx k = M k) → (∀ x : Nat, (i + 1) * 274 ≤ x → Mx 38 x = M 38 x) → (∀ t' s : Nat, t' < t → s < 2 → Mx 38 (i * 274 + t' * 2 + s) = zI (lc f u nx (u - i) s t')) → w_X5_layItem_2 Q k (zI i) (zI su) (zI t) Mx := by
    intro k
    induction k with
    | zero => intro t Mx g1 g2; omega
    | succ k ih =>
      intro t Mx ht hk h1 h2 h3
      show wb_X5_layItem_2 Q (w_X5_layItem_2 Q k) _ _ _ Mx
      unfold wb_X5_layItem_2
      rw [zI_lt (by omega) (by omega) (by omega) (by omega), zI_in (by omega) (by omega), zI_tn (by omega) (by omega), tn_nat, h1 37 (by omega), hfi.1, zI_le (by omega) (by omega) (by omega) (by omega)]
      refine ⟨fun q => hQ Mx h1 h2 (fun t' s g1 g2 => h3 t' s (by omega) g2), fun q x1 ex1 => ⟨by omega, ?_⟩⟩
      rw [show (274 : Int32) = zI 274 by decide +kernel, zI_mul, lz2, zI_mul, zI_add] at ex1
      subst ex1
      have go : ∀ A : Int, A = lc f u nx (u - i) ((0 : Nat) : Int) t → w_X5_layItem_58 Q (w_X5_layItem_2 Q k) (zI i) (zI su) (zI t) (zI ((i : Int) * 274 + (t : Int) * 2)) (zI A) (zI ((i : Int) * 274 + (t : Int) * 2) + 0) Mx := by
        intro A hA
        unfold w_X5_layItem_58
        rw [lz0, zI_add, zI_in (by omega) (by omega), zI_tn (by omega) (by omega), show ((i : Int) * 274 + (t : Int) * 2 + 0).toNat = i * 274 + t * 2 by omega]
        refine ⟨by omega, fun M7 e7 => ?_⟩
        rw [lz1, zI_add]
        refine e_leastBehind (i := i + 1) (t := t) (s := 1) (a := lc f u nx (u - (i + 1)) 1 t) (b := lc f u nx (u - (i + 1)) 0 t) (by omega) (by omega) (by omega) ?_ ?_ (bd _ _) (bd _ _) ?_
        · rw [e7, mset_j (by omega), h2 _ (by omega)]
          exact hl t 1 (by omega) (by omega)
        · rw [e7, mset_j (by omega), h2 _ (by omega)]
          exact hl t 0 (by omega) (by omega)
        · rw [zI_add, zI_in (by omega) (by omega), zI_tn (by omega) (by omega), show ((i : Int) * 274 + (t : Int) * 2 + 1).toNat = i * 274 + t * 2 + 1 by omega]
          refine ⟨by omega, fun M11 e11 x12 e12 => ?_⟩
          have e12' : x12 = zI ((t + 1 : Nat) : Int) := by rw [e12, zI_add]; rfl
          subst e12'
          refine ih (t + 1) M11 (by omega) (by omega) (fun k hk => by rw [e11, mset_o hk, e7, mset_o hk]; exact h1 k hk) (fun x hx => by rw [e11, mset_j (by omega), e7, mset_j (by omega)]; exact h2 x hx) (fun t' s g1 g2 => ?_)
          by_cases g : t' = t
          · subst g
            have : s = 0 ∨ s = 1 := by omega
            rcases this with rfl | rfl
            · rw [Nat.add_zero, e11, mset_j (by omega), e7, mset_at, hA]
            · rw [e11, mset_at, L1]
          · rw [e11, mset_j (by omega), e7, mset_j (by omega)]
            exact h3 t' s (by omega) g2
      refine ⟨fun q1 => ⟨by omega, ?_⟩, fun q1 => ?_⟩
      · rw [zI_sub, lz1, zI_add, lz0]
        have := e_leastBehind (M := Mx) (Q := fun v4 M5 => w_X5_layItem_58 Q (w_X5_layItem_2 Q k) (zI i) (zI su) (zI t) (zI ((i : Int) * 274 + (t : Int) * 2)) v4 (zI ((i : Int) * 274 + (t : Int) * 2) + zI 0) M5) (i := i + 1) (t := ((t : Int) - f i).toNat) (s := 0) (a := lc f u nx (u - (i + 1)) 0 ((t : Int) - f i)) (b := lc f u nx (u - (i + 1)) 1 ((t : Int) - f i)) (by omega) (by omega) (by omega) (by
          rw [h2 _ (by omega), hl _ 0 (by omega) (by omega), show ((((t : Int) - f i).toNat : Nat) : Int) = (t : Int) - f i by omega]
          rfl) (by
          rw [h2 _ (by omega), hl _ 1 (by omega) (by omega), show ((((t : Int) - f i).toNat : Nat) : Int) = (t : Int) - f i by omega]
          rfl) (bd _ _) (bd _ _) (by
          rw [← lz0]
          exact go _ (by rw [L0, if_neg (by omega)]))
        rw [show ((((t : Int) - f i).toNat : Nat) : Int) = (t : Int) - f i by omega] at this
        exact this
      · rw [lz1000]
        exact go 1000 (by rw [L0, if_pos (by omega)])
  exact key _ 0 M (by omega) (by omega) (fun _ _ => rfl) (fun _ _ => rfl) (fun t' s g => by omega)
theorem e_choose (hu : u ≤ 40) (hc : M 35 2 = zI u) (hs : 0 ≤ su ∧ su ≤ 136) (hf : ∀ j : Nat, j < u → M 37 j = zI (f j) ∧ 0 ≤ f j ∧ f j ≤ 56) (hl : ∀ i t s : Nat, i ≤ u → (t : Int) ≤ su → s < 2 → M 38 (i * 274 + t * 2 + s) = zI (lc f u nx (u - i) s t)) (hok : okS f u nx su → ∀ M' : Mem, (∀ k : Nat, k ≠ 36 → M' k = M k) → (∀ j : Nat, j < u → M' 36 j = zI (cst f u nx su (j + 1)).2) → Q 1 M') (hno : ¬ okS f u nx su → Q 0 M) : w_X5_choose (zI su) M Q := by
  unfold w_X5_choose
  have bd : ∀ (i : Nat) (s t : Int), 0 ≤ lc f u nx (u - i) s t ∧ lc f u nx (u - i) s t ≤ 1000 := fun i s t => by
    have := lc_bd (f := f) (u := u) (nx := nx) (u - i) s t (by omega)
    omega
  have a0 := hl 0 su.toNat 0 (by omega) (by omega) (by omega)
  have a1 := hl 0 su.toNat 1 (by omega) (by omega) (by omega)
  have b0 := bd 0 0 su
  have b1 := bd 0 1 su
  rw [show ((su.toNat : Nat) : Int) = su by omega, show 0 * 274 + su.toNat * 2 + 0 = su.toNat * 2 by omega] at a0
  rw [show ((su.toNat : Nat) : Int) = su by omega, show 0 * 274 + su.toNat * 2 + 1 = su.toNat * 2 + 1 by omega] at a1
  rw [lz2, zI_mul, lz0, zI_add, lz1, zI_add, zI_in (by omega) (by omega), zI_in (by omega) (by omega), zI_tn (by omega) (by omega), zI_tn (by omega) (by omega), show (su * 2 + 0).toNat = su.toNat * 2 by omega, show (su * 2 + 1).toNat = su.toNat * 2 + 1 by omega, a0, a1]
  rw [Nat.sub_zero] at b0 b1
  have e0 : lc f u nx (u - 0) ((0 : Nat) : Int) su = lc f u nx u 0 su := rfl
  have e1 : lc f u nx (u - 0) ((1 : Nat) : Int) su = lc f u nx u 1 su := rfl
  rw [e0, e1]
  have k1 : zI (lc f u nx u 1 su) < zI (lc f u nx u 0 su) ↔ lc f u nx u 1 su < lc f u nx u 0 su := by rw [zI_lt (by omega) (by omega) (by omega) (by omega)]
  simp only [k1]
  have k2 : ((if lc f u nx u 1 su < lc f u nx u 0 su then zI (lc f u nx u 1 su) else zI (lc f u nx u 0 su)) < 1000) ↔ ¬ (lc f u nx u 0 su = 1000 ∧ lc f u nx u 1 su = 1000) := by
    by_cases g : lc f u nx u 1 su < lc f u nx u 0 su
    · rw [if_pos g, lz1000, zI_lt (by omega) (by omega) (by omega) (by omega)]; omega
    · rw [if_neg g, lz1000, zI_lt (by omega) (by omega) (by omega) (by omega)]; omega
  rw [k2]
  refine ⟨by omega, by omega, fun q => ⟨u + 1, ?_⟩, fun q => hno (fun z => q z.2)⟩
  have ok : okS f u nx su := ⟨hs.1, q⟩
  have key : ∀ (k j : Nat) (Mx : Mem), j ≤ u → u - j < k → (∀ k : Nat, k ≠ 36 → Mx k = M k) → (∀ i : Nat, i < j → Mx 36 i = zI (cst f u nx su (i + 1)).2) → w_X5_choose_38 Q k (zI su) (zI (cst f u nx su j).1) (zI (cst f u nx su j).2) (zI j) Mx := by
    intro k
    induction k with
    | zero => intro j Mx g1 g2; omega
    | succ k ih =>
      intro j Mx hj hk h1 h2
      have cb := cst_bd (f := f) (u := u) (nx := nx) (su := su) (fun j hj => (hf j hj).2.1) hs.1 j hj
      show wb_X5_choose_38 Q (w_X5_choose_38 Q k) _ _ _ _ Mx
      unfold wb_X5_choose_38
      rw [h1 35 (by omega), hc, zI_le (by omega) (by omega) (by omega) (by omega)]
      refine ⟨fun q1 => ?_, fun q1 x3 e3 => ?_⟩
      · have : j = u := by omega
        subst this
        exact hok ok Mx h1 h2
      · have hfj := hf j (by omega)
        rw [show (274 : Int32) = zI 274 by decide +kernel, zI_mul, lz2, zI_mul, zI_add] at e3
        subst e3
        have t1 : (((cst f u nx su j).1.toNat : Nat) : Int) = (cst f u nx su j).1 := by omega
        have l0 := hl j (cst f u nx su j).1.toNat 0 hj (by omega) (by omega)
        have l1 := hl j (cst f u nx su j).1.toNat 1 hj (by omega) (by omega)
        rw [t1] at l0 l1
        have c0 := bd j 0 (cst f u nx su j).1
        have c1 := bd j 1 (cst f u nx su j).1
        rw [lz0, zI_add, lz1, zI_add, zI_in (by omega) (by omega), zI_in (by omega) (by omega), zI_tn (by omega) (by omega), zI_tn (by omega) (by omega), show ((j : Int) * 274 + (cst f u nx su j).1 * 2 + 0).toNat = j * 274 + (cst f u nx su j).1.toNat * 2 + 0 by omega, show ((j : Int) * 274 + (cst f u nx su j).1 * 2 + 1).toNat = j * 274 + (cst f u nx su j).1.toNat * 2 + 1 by omega, h1 38 (by omega), l0, l1]
        refine ⟨by omega, fun z5 e5 x6 e6 => ⟨by omega, fun z8 e8 x9 e9 z10 e10 => ⟨by rw [zI_in (by omega) (by omega)]; omega, fun M12 e12 => ?_⟩⟩⟩
        have o5 : z5 = zI (one (cst f u nx su j).2 1) := by
          rw [e5]
          unfold one
          have : zI (cst f u nx su j).2 = zI 1 ↔ (cst f u nx su j).2 = 1 := by rw [zI_eq (by omega) (by omega) (by omega) (by omega)]
          simp only [this]
          by_cases g : (cst f u nx su j).2 = 1
          · rw [if_pos g, if_pos g]
          · rw [if_neg g, if_neg g]
        have o8 : z8 = zI (one (cst f u nx su j).2 0) := by
          rw [e8]
          unfold one
          have : zI (cst f u nx su j).2 = zI 0 ↔ (cst f u nx su j).2 = 0 := by rw [zI_eq (by omega) (by omega) (by omega) (by omega)]
          simp only [this]
          by_cases g : (cst f u nx su j).2 = 0
          · rw [if_pos g, if_pos g]
          · rw [if_neg g, if_neg g]
        have ob1 := one_bd (cst f u nx su j).2 1
        have ob0 := one_bd (cst f u nx su j).2 0
        rw [o5, zI_add] at e6
        rw [o8, zI_add] at e9
        rw [e6, e9] at e10
        have k3 : zI (lc f u nx (u - j) ((1 : Nat) : Int) (cst f u nx su j).1 + one (cst f u nx su j).2 0) < zI (lc f u nx (u - j) ((0 : Nat) : Int) (cst f u nx su j).1 + one (cst f u nx su j).2 1) ↔ lc f u nx (u - j) 1 (cst f u nx su j).1 + one (cst f u nx su j).2 0 < lc f u nx (u - j) 0 (cst f u nx su j).1 + one (cst f u nx su j).2 1 := by
          show zI (lc f u nx (u - j) 1 (cst f u nx su j).1 + one (cst f u nx su j).2 0) < zI (lc f u nx (u - j) 0 (cst f u nx su j).1 + one (cst f u nx su j).2 1) ↔ _
          rw [zI_lt (by omega) (by omega) (by omega) (by omega)]
        simp only [k3] at e10
        have ec : cst f u nx su (j + 1) = if lc f u nx (u - j) 1 (cst f u nx su j).1 + one (cst f u nx su j).2 0 < lc f u nx (u - j) 0 (cst f u nx su j).1 + one (cst f u nx su j).2 1 then ((cst f u nx su j).1, 1) else (max0 ((cst f u nx su j).1 - f j), 0) := rfl
        rw [zI_tn (by omega) (by omega), tn_nat] at e12
        have h3 : ∀ z : Int32, z10 = z → z = zI (cst f u nx su (j + 1)).2 → ∀ i : Nat, i < j + 1 → M12 36 i = zI (cst f u nx su (i + 1)).2 := by
          intro z ez ez2 i hi
          by_cases g : i = j
          · subst g; rw [e12, mset_at, ez, ez2]
          · rw [e12, mset_j g]; exact h2 i (by omega)
        have h4 : ∀ k : Nat, k ≠ 36 → M12 k = M k := fun k hk => by rw [e12, mset_o hk]; exact h1 k hk
        have nx1 : zI (j : Int) + zI 1 = zI ((j + 1 : Nat) : Int) := by rw [zI_add]; rfl
        by_cases g : lc f u nx (u - j) 1 (cst f u nx su j).1 + one (cst f u nx su j).2 0 < lc f u nx (u - j) 0 (cst f u nx su j).1 + one (cst f u nx su j).2 1
        · rw [if_pos g] at e10 ec
          refine ⟨fun _ x13 e13 => ?_, fun z => absurd z (by rw [e10]; decide +kernel)⟩
          have := ih (j + 1) M12 (by omega) (by omega) h4 (h3 _ e10 (by rw [ec]))
          rw [ec] at this
          rw [e13, nx1, e10]
          exact this
        · rw [if_neg g] at e10 ec
          refine ⟨fun z => absurd e10 z, fun _ => ⟨by rw [zI_in (by omega) (by omega)]; omega, fun x15 e15 x16 e16 => ?_⟩⟩
          have := ih (j + 1) M12 (by omega) (by omega) h4 (h3 _ e10 (by rw [ec]))
          rw [ec] at this
          rw [zI_tn (by omega) (by omega), tn_nat, h4 37 (by omega), hfj.1, zI_sub] at e15
          have k5 : zI ((cst f u nx su j).1 - f j) < zI 0 ↔ (cst f u nx su j).1 - f j < 0 := by rw [zI_lt (by omega) (by omega) (by omega) (by omega)]
          simp only [k5] at e15
          have e15' : x15 = zI (max0 ((cst f u nx su j).1 - f j)) := by
            rw [e15]
            unfold max0
            by_cases g2 : (cst f u nx su j).1 - f j < 0
            · rw [if_pos g2, if_pos g2]
            · rw [if_neg g2, if_neg g2]
          rw [e16, nx1, e10, e15']
          exact this
  have := key (u + 1) 0 M (by omega) (by omega) (fun _ _ => rfl) (fun i hi => by omega)
  rw [zI_neg]
  exact this
end Settle
