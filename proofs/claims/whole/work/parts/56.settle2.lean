section Settle2
variable {M : Mem} {S : Mus} {c r m : Nat} {row : Nat → Int} {Q : Int32 → Mem → Prop} {w : Nat → Int} {u n f0 : Nat}
theorem sumF_eq {f g : Nat → Int} {a b : Nat} : ∀ n : Nat, (∀ j : Nat, j < n → f (a + j) = g (b + j)) → sumF f a n = sumF g b n
  | 0, _ => rfl
  | n + 1, h => by
    rw [sumF_s, sumF_s, sumF_eq n (fun j hj => h j (by omega)), h n (by omega)]
theorem sumF_front (f : Nat → Int) (a : Nat) : ∀ n : Nat, sumF f a (n + 1) = f a + sumF f (a + 1) n
  | 0 => by rw [sumF_s]; simp [sumF]
  | n + 1 => by
    rw [sumF_s, sumF_front f a n, sumF_s f (a + 1) n, show a + 1 + n = a + (n + 1) by omega]
    omega
theorem tl_sum (f w : Nat → Int) (n : Nat) : ∀ k : Nat, k ≤ n → tlS f w n k = sumF (fun i => lf f i (w i)) (n - k) k
  | 0, _ => rfl
  | k + 1, hk => by
    rw [sumF_front, show n - (k + 1) + 1 = n - k by omega, ← tl_sum f w n k (by omega)]
    rfl
theorem bs_sum (f w : Nat → Int) (n u : Nat) : ∀ k : Nat, k ≤ u → bsS f w n u k = tlS f w n (n - u) + sumF f (u - k) k
  | 0, _ => by
    show tlS f w n (n - u) = tlS f w n (n - u) + 0
    omega
  | k + 1, hk => by
    rw [sumF_front, show u - (k + 1) + 1 = u - k by omega]
    have := bs_sum f w n u k (by omega)
    show f (u - (k + 1)) + bsS f w n u k = _
    omega
theorem lf_last {i : Nat} (hv : gIt S i 5 = 0 ∨ gIt S i 5 = 1) : lf (sml S) i (gIt S i 5) = lastG S i := by
  unfold lf lastG sml
  rcases hv with e | e
  · rw [e, if_pos rfl, if_neg (by omega), lenI_large]
  · rw [e, if_neg (by omega), if_neg (by omega)]
/-- the items' small lengths of a voice that begins at f0 -/
def smf (S : Mus) (f0 : Nat) : Nat → Int := fun j => sml S (f0 + j)
theorem bs_all (hu : u ≤ n) (hw : ∀ j : Nat, u ≤ j → j < n → w j = gIt S (f0 + j) 5 ∧ (w j = 0 ∨ w j = 1)) : bsS (smf S f0) w n u u = sumF (lastG S) (f0 + u) (n - u) + sumF (sml S) f0 u := by
  rw [bs_sum _ _ _ _ _ (Nat.le_refl _), tl_sum _ _ _ _ (by omega), Nat.sub_self, show sumF (smf S f0) 0 u = sumF (sml S) f0 u from sumF_shift (sml S) f0 u, show n - (n - u) = u by omega]
  congr 1
  refine sumF_eq _ (fun j hj => ?_)
  have := hw (u + j) (by omega) (by omega)
  show lf (smf S f0) (u + j) (w (u + j)) = lastG S (f0 + u + j)
  rw [Nat.add_assoc, ← lf_last (by rw [← this.1]; exact this.2), this.1]
  rfl
theorem e_settle {b v : Nat} (hT : TB M) (h : MW M m S) (hv : MV S) (hm : 5 ≤ m ∧ m ≤ 20) (hb : b < gNb S) (hvv : v < gVo S b) (hF : gFo S (3 * b + v) = f0) (hN : gSz S (3 * b + v) = n) (hu : u ≤ n) (hw : ∀ j : Nat, u ≤ j → j < n → w j = gIt S (f0 + j) 5 ∧ (w j = 0 ∨ w j = 1)) (hok : okS (smf S f0) u (nxS w n u) (exS (gLen S - bsS (smf S f0) w n u u)) → ∀ M' : Mem, (∀ k : Nat, (k < 35 ∨ 38 < k) → M' k = M k) → M' 35 2 = zI u → (∀ j : Nat, j < u → M' 36 j = zI (cst (smf S f0) u (nxS w n u) (exS (gLen S - bsS (smf S f0) w n u u)) (j + 1)).2) → Q 1 M') (hno : ¬ okS (smf S f0) u (nxS w n u) (exS (gLen S - bsS (smf S f0) w n u u)) → ∀ M' : Mem, (∀ k : Nat, (k < 35 ∨ 38 < k) → M' k = M k) → Q 0 M') : w_X5_settle m (zI ((3 * b + v : Nat) : Int)) (zI u) M Q := by
  obtain ⟨hs1, hs2⟩ := h.2.2.2.2.2.1 b v hb hvv
  obtain ⟨hr1, hr2, hr3⟩ := hv.2.2.2.2.2.2.1 b v hb hvv
  have hb3 := hv.2.2.2.2.1 b hb
  have hnb := hv.2.2.1
  have hni := hv.2.2.2.1
  have hlen := hv.1
  rw [hF] at hs1 hr1
  rw [hN] at hs2 hr1 hr2
  have hsm : ∀ j : Nat, j < n → 4 ≤ smf S f0 j ∧ smf S f0 j ≤ 56 := fun j hj => sml_pos hv (by omega)
  have hgl : ∀ j : Nat, j < n → 1 ≤ lastG S (f0 + j) ∧ lastG S (f0 + j) ≤ 2048 := fun j hj => lastG_pos hv (by omega)
  have sb : ∀ i : Nat, i ≤ n - u → 0 ≤ sumF (lastG S) (f0 + u) i ∧ sumF (lastG S) (f0 + u) i ≤ 2048 * i := fun i hi => by
    have := sumF_le (f := lastG S) (a := f0 + u) (lo := 0) (hi := 2048) i (fun j hj => by have := hgl (u + j) (by omega); rw [← Nat.add_assoc] at this; omega)
    omega
  unfold w_X5_settle
  rw [zI_in (by omega) (by omega), zI_tn (by omega) (by omega), tn_nat, hs1, h.1]
  refine ⟨by omega, fun x2 e2 x3 e3 => ⟨n - u + 1, ?_⟩⟩
  subst e2 e3
  have hba := bs_all (S := S) (f0 := f0) hu hw
  have hsu : ∀ X : Int, X = sumF (lastG S) (f0 + u) (n - u) → exS (gLen S - X - sumF (sml S) f0 u) = exS (gLen S - bsS (smf S f0) w n u u) := by
    intro X hX
    rw [hba, hX]
    congr 1
    omega
  have hle : exS (gLen S - bsS (smf S f0) w n u u) ≤ 136 ∧ -1 ≤ exS (gLen S - bsS (smf S f0) w n u u) := by
    have := bsS_nn (f := smf S f0) (w := w) (n := n) (u := u) (fun j hj => by have := hsm j hj; omega) hu u (Nat.le_refl _)
    have := exS_bd (x := gLen S - bsS (smf S f0) w n u u) (by omega)
    omega
  generalize exS (gLen S - bsS (smf S f0) w n u u) = su at *
  have hnx : -1 ≤ nxS w n u ∧ nxS w n u ≤ 1 := by
    unfold nxS
    split
    · next g => have := hw u (by omega) g; omega
    · omega
  have fin : ∀ Mx : Mem, (∀ k : Nat, k ≠ 35 → k ≠ 37 → Mx k = M k) → Mx 35 2 = zI u → (∀ j : Nat, j < u → Mx 37 j = zI (sml S (f0 + j))) → 0 ≤ su → w_X5_layEnd (zI su) (zI (nxS w n u)) Mx (fun v10 M11 => ∀ x12 : Int32, x12 = ((M11 35 2) - 1) → ∃ k, w_X5_settle_108 m Q k (zI ((3 * b + v : Nat) : Int)) (zI u) (zI f0) (zI (gLen S - sumF (lastG S) (f0 + u) (n - u))) (zI su) (zI (nxS w n u)) x12 M11) := by
    intro Mx h1 h2 h3 hs0
    refine e_layEnd (f := smf S f0) h2 (by omega) ⟨hs0, hle.1⟩ hnx (fun M11 k1 k2 x12 e12 => ⟨u + 1, ?_⟩)
    rw [k1 35 (by omega), h2, lz1, zI_sub] at e12
    subst e12
    have loop : ∀ (k j : Nat) (My : Mem), j ≤ u → j < k → (∀ k : Nat, k ≠ 38 → My k = Mx k) → (∀ i t s : Nat, j ≤ i → i ≤ u → (t : Int) ≤ su → s < 2 → My 38 (i * 274 + t * 2 + s) = zI (lc (smf S f0) u (nxS w n u) (u - i) s t)) → w_X5_settle_108 m Q k (zI ((3 * b + v : Nat) : Int)) (zI u) (zI f0) (zI (gLen S - sumF (lastG S) (f0 + u) (n - u))) (zI su) (zI (nxS w n u)) (zI ((j : Int) - 1)) My := by
      intro k
      induction k with
      | zero => intro j My g1 g2; omega
      | succ k ih =>
        intro j My hj hk g1 g2
        have hfx : ∀ i : Nat, i < u → My 37 i = zI (smf S f0 i) ∧ 0 ≤ smf S f0 i ∧ smf S f0 i ≤ 56 := fun i hi => ⟨by rw [g1 37 (by omega)]; exact h3 i hi, by have := hsm i (by omega); omega, by have := hsm i (by omega); omega⟩
        show wb_X5_settle_108 m Q (w_X5_settle_108 m Q k) _ _ _ _ _ _ _ My
        unfold wb_X5_settle_108
        have k0 : zI ((j : Int) - 1) < 0 ↔ j = 0 := by rw [lz0, zI_lt (by omega) (by omega) (by omega) (by omega)]; omega
        rw [k0]
        refine ⟨fun q => ?_, fun q => ?_⟩
        · subst q
          refine e_choose (f := smf S f0) (u := u) (nx := nxS w n u) (by omega) (by rw [g1 35 (by omega)]; exact h2) ⟨hs0, hle.1⟩ hfx (fun i t s q1 q2 q3 => g2 i t s (by omega) q1 q2 q3) (fun ok M' z1 z2 => ⟨Or.inr rfl, hok ok M' (fun k hk => ?_) ?_ z2⟩) (fun no => ⟨Or.inl rfl, hno no My (fun k hk => ?_)⟩)
          · rw [z1 k (by omega), g1 k (by omega), h1 k (by omega) (by omega)]
          · rw [z1 35 (by omega), g1 35 (by omega)]; exact h2
          · rw [g1 k (by omega), h1 k (by omega) (by omega)]
        · rw [show ((j : Int) - 1) = ((j - 1 : Nat) : Int) by omega]
          refine e_layItem (f := smf S f0) (u := u) (nx := nxS w n u) (i := j - 1) (by omega) (by omega) ⟨hs0, hle.1⟩ hfx (fun t s q1 q2 => ?_) (fun M' z1 z2 z3 x18 e18 => ?_)
          · rw [show j - 1 + 1 = j by omega]
            exact g2 j t s (Nat.le_refl _) hj q1 q2
          · have e18' : x18 = zI (((j - 1 : Nat) : Int) - 1) := by rw [e18, ln1, zI_add]; rfl
            subst e18'
            refine ih (j - 1) M' (by omega) (by omega) (fun k hk => by rw [z1 k hk, g1 k hk]) (fun i t s q1 q2 q3 q4 => ?_)
            by_cases g : i = j - 1
            · subst g; exact z3 t s q3 q4
            · rw [z2 _ (by omega)]
              exact g2 i t s (by omega) q2 q3 q4
    refine loop (u + 1) u M11 (Nat.le_refl _) (by omega) k1 (fun i t s q1 q2 q3 q4 => ?_)
    have : i = u := by omega
    subst this
    rw [Nat.sub_self]
    exact k2 t s q3 q4
  have key : ∀ (k i : Nat), i ≤ n - u → n - u - i < k → w_X5_settle_17 m Q k (zI ((3 * b + v : Nat) : Int)) (zI u) (zI f0) (zI (gLen S - sumF (lastG S) (f0 + u) i)) (zI ((u + i : Nat) : Int)) M := by
    intro k
    induction k with
    | zero => intro i g1 g2; omega
    | succ k ih =>
      intro i hi hk
      have sbi := sb i hi
      show wb_X5_settle_17 m Q (w_X5_settle_17 m Q k) _ _ _ _ _ M
      unfold wb_X5_settle_17
      rw [zI_in (by omega) (by omega), zI_tn (a := ((3 * b + v : Nat) : Int)) (by omega) (by omega), tn_nat, hs2, zI_le (by omega) (by omega) (by omega) (by omega)]
      refine ⟨by omega, fun q => ?_, fun q => ?_⟩
      · have hin : i = n - u := by omega
        subst hin
        refine e_load hT h hv hm (by omega) (by omega) (by omega) (fun M6 g1 g2 g3 => ?_)
        rw [hsu _ rfl]
        have k0 : (0 : Int32) ≤ zI su ↔ 0 ≤ su := by rw [lz0, zI_le (by omega) (by omega) (by omega) (by omega)]
        rw [k0, g1 (m + 3) (by omega) (by omega), g1 (m + 9) (by omega) (by omega), hs2]
        have k1 : zI (n : Int) ≤ zI (u : Int) ↔ n ≤ u := by rw [zI_le (by omega) (by omega) (by omega) (by omega)]; omega
        simp only [k1]
        rw [zI_add, zI_in (by omega) (by omega), zI_tn (by omega) (by omega), show ((f0 : Int) + (u : Int)).toNat = f0 + u by omega]
        refine ⟨fun q1 => ⟨by omega, ⟨fun _ => trivial, fun _ => ⟨by omega, trivial⟩⟩, fun z9 e9 => ?_⟩, fun q1 => hno (fun z => q1 z.1) M6 (fun k hk => g1 k (by omega) (by omega))⟩
        have : z9 = zI (nxS w n u) := by
          rw [e9]
          unfold nxS
          by_cases g : n ≤ u
          · rw [if_pos g, if_neg (by omega), ln1]
          · have e9' : M (m + 9) (f0 + u) = zI (gIt S (f0 + u) 5) := MW_at h (by omega) (a := 5) (by omega)
            rw [if_neg g, if_pos (by omega), e9', (hw u (Nat.le_refl _) (by omega)).1]
        subst this
        exact fin M6 g1 g2 g3 q1
      · have hgi := hgl (u + i) (by omega)
        rw [zI_add, show (f0 : Int) + ((u + i : Nat) : Int) = ((f0 + (u + i) : Nat) : Int) by omega]
        refine e_lasts hT h hv (by omega) (fun x22 e22 x23 e23 => ?_)
        have e22' : x22 = zI (gLen S - sumF (lastG S) (f0 + u) (i + 1)) := by
          rw [e22, zI_sub, sumF_s, Nat.add_assoc]
          congr 1
          omega
        have e23' : x23 = zI ((u + (i + 1) : Nat) : Int) := by rw [e23, lz1, zI_add]; rfl
        subst e22' e23'
        exact ih (i + 1) (by omega) (by omega)
  have := key (n - u + 1) 0 (by omega) (by omega)
  rw [show gLen S - sumF (lastG S) (f0 + u) 0 = gLen S by show gLen S - 0 = _; omega] at this
  exact this
end Settle2
