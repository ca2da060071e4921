section CanBe
variable {M : Mem} {S : Mus} {c r m : Nat} {row : Nat → Int} {Q : Int32 → Mem → Prop} {w : Nat → Int} {u n f0 o : Nat} {len : Int}
theorem x_lf {M' : Mem} {i : Nat} {s : Int} (hv : MV S) (hi : i < gNi S) (hs : s = 0 ∨ s = 1) (hQ : Q (zI (lf (sml S) i s)) M') : w_X7_lasts (zI (gIt S i 4)) (zI s) (zI (gIt S i 6)) M' Q := by
  obtain ⟨-, -, -, -, w4, -, w6, -⟩ := hv.2.2.2.2.2.1 i hi
  refine x_lasts w4 (by omega) w6 ?_
  have : lenI (gIt S i 4) s (gIt S i 6) = lf (sml S) i s := by
    unfold lf sml
    rcases hs with rfl | rfl
    · rw [if_pos rfl, lenI_large]
    · rw [if_neg (by omega)]
  rw [this]
  exact hQ
theorem x_canBe (ho : o < 2) (hM : ∀ i a : Nat, i < gNi S → a < 10 → M (58 + a) (600 * o + i) = zI (rat (gIt S i) a)) (hv : MV S) (hl : M 46 7 = zI len) (hlen : 1 ≤ len ∧ len ≤ 2048) (hn : 0 < n) (h40 : n ≤ 40) (hfn : f0 + n ≤ gNi S) (hw : ∀ j : Nat, j < n → M 70 j = zI (w j) ∧ -1 ≤ w j ∧ w j ≤ 1) (hok : (∀ j : Nat, j < n → ¬ rF (smf S f0) w n len j) → ∀ M' : Mem, (∀ k : Nat, k ≠ 69 → k ≠ 71 → M' k = M k) → (∀ j : Nat, j < n → M' 71 j = zI (rst (smf S f0) w n len (j + 1)).2) → Q 1 M') (hno : (∃ j : Nat, j < n ∧ rF (smf S f0) w n len j) → ∀ M' : Mem, (∀ k : Nat, k ≠ 69 → k ≠ 71 → M' k = M k) → Q 0 M') : w_X7_canBe (zI ((600 * o + f0 : Nat) : Int)) (zI n) M Q := by
  have hni := hv.2.2.2.1
  have hsm : ∀ j : Nat, j < n → 4 ≤ smf S f0 j ∧ smf S f0 j ≤ 56 := fun j hj => sml_pos hv (by omega)
  have hsl : ∀ (j : Nat) (s : Int), s = 0 ∨ s = 1 → lf (sml S) (f0 + j) s = lf (smf S f0) j s := fun _ _ _ => rfl
  have rb : ∀ (k : Nat) (s r : Int), k ≤ n → 0 ≤ rc (smf S f0) w n k s r ∧ rc (smf S f0) w n k s r ≤ 1000000 := fun k s r hk => by
    have := rc_bd (f := smf S f0) (w := w) (n := n) k s r (by omega)
    omega
  have e62 : ∀ j : Nat, j < n → M 62 (600 * o + f0 + j) = zI (gIt S (f0 + j) 4) := fun j hj => by
    have := hM (f0 + j) 4 (by omega) (by omega)
    rw [show 600 * o + f0 + j = 600 * o + (f0 + j) by omega]
    exact this
  have e64 : ∀ j : Nat, j < n → M 64 (600 * o + f0 + j) = zI (gIt S (f0 + j) 6) := fun j hj => by
    have := hM (f0 + j) 6 (by omega) (by omega)
    rw [show 600 * o + f0 + j = 600 * o + (f0 + j) by omega]
    exact this
  have lfb : ∀ (j : Nat) (s : Int), j < n → 0 ≤ lf (smf S f0) j s ∧ lf (smf S f0) j s ≤ 896 := fun j s hj => by
    have := hsm j hj
    unfold lf
    split <;> omega
  generalize hF : smf S f0 = F at *
  -- the walk forward
  have walk : ∀ (k j : Nat) (Mx : Mem), j ≤ n → n - j < k → (∀ k : Nat, k ≠ 69 → k ≠ 71 → Mx k = M k) → (∀ i s t : Nat, i < n → s < 2 → (t : Int) ≤ len → Mx 69 ((2 * i + s) * 2049 + t) = zI (rc F w n (n - i) s t)) → (∀ i : Nat, i < j → ¬ rF F w n len i) → (∀ i : Nat, i < j → Mx 71 i = zI (rst F w n len (i + 1)).2) → w_X7_canBe_233 Q k (zI ((600 * o + f0 : Nat) : Int)) (zI n) (zI (rst F w n len j).1) (zI (rst F w n len j).2) (zI j) Mx := by
    intro k
    induction k with
    | zero => intro j Mx g1 g2; omega
    | succ k ih =>
      intro j Mx hj hk h1 h2 h3 h4
      show wb_X7_canBe_233 Q (w_X7_canBe_233 Q k) _ _ _ _ _ Mx
      unfold wb_X7_canBe_233
      rw [zI_le (by omega) (by omega) (by omega) (by omega)]
      refine ⟨fun q => ?_, fun q => ?_⟩
      · have : j = n := by omega
        subst this
        exact hok h3 Mx h1 h4
      · have bd := rst_bd (f := F) (w := w) (n := n) (len := len) (fun j hj => by have := hsm j hj; omega) h40 (by omega) j hj h3
        have hl2 := rst_02 (f := F) (w := w) (n := n) (len := len) j
        have c0 := h2 j 0 (rst F w n len j).1.toNat (by omega) (by omega) (by omega)
        have c1 := h2 j 1 (rst F w n len j).1.toNat (by omega) (by omega) (by omega)
        rw [show (((rst F w n len j).1.toNat : Nat) : Int) = (rst F w n len j).1 by omega] at c0 c1
        have r0 := rb (n - j) 0 (rst F w n len j).1 (by omega)
        have r1 := rb (n - j) 1 (rst F w n len j).1 (by omega)
        rw [lz2, zI_mul, lz2049, zI_mul, zI_add, lz1, zI_add, zI_mul, zI_add, zI_in (by omega) (by omega), zI_in (by omega) (by omega), zI_tn (by omega) (by omega), zI_tn (by omega) (by omega), show (2 * (j : Int) * 2049 + (rst F w n len j).1).toNat = (2 * j + 0) * 2049 + (rst F w n len j).1.toNat by omega, show ((2 * (j : Int) + 1) * 2049 + (rst F w n len j).1).toNat = (2 * j + 1) * 2049 + (rst F w n len j).1.toNat by omega, c0, c1]
        have ob1 := one_bd (rst F w n len j).2 1
        have ob0 := one_bd (rst F w n len j).2 0
        refine ⟨by omega, fun z4 e4 x5 e5 => ⟨by omega, fun z7 e7 x8 e8 => ?_⟩⟩
        have o4 : z4 = zI (one (rst F w n len j).2 1) := by
          rw [e4]
          unfold one
          have : zI (rst F w n len j).2 = zI 1 ↔ (rst F w n len j).2 = 1 := by rw [zI_eq (by omega) (by omega) (by omega) (by omega)]
          simp only [this]
          by_cases g : (rst F w n len j).2 = 1
          · rw [if_pos g, if_pos g]
          · rw [if_neg g, if_neg g]; rfl
        have o7 : z7 = zI (one (rst F w n len j).2 0) := by
          rw [e7]
          unfold one
          have : zI (rst F w n len j).2 = 0 ↔ (rst F w n len j).2 = 0 := by rw [lz0, zI_eq (by omega) (by omega) (by omega) (by omega)]
          simp only [this]
          by_cases g : (rst F w n len j).2 = 0
          · rw [if_pos g, if_pos g]
          · rw [if_neg g, if_neg g]; rfl
        rw [o4, zI_add] at e5
        rw [o7, zI_add] at e8
        subst e5 e8
        have ea : rc F w n (n - j) ((0 : Nat) : Int) (rst F w n len j).1 = rc F w n (n - j) 0 (rst F w n len j).1 := rfl
        have eb : rc F w n (n - j) ((1 : Nat) : Int) (rst F w n len j).1 = rc F w n (n - j) 1 (rst F w n len j).1 := rfl
        rw [ea, eb, lz1000000, zI_lt (by omega) (by omega) (by omega) (by omega), zI_lt (by omega) (by omega) (by omega) (by omega)]
        have er : rst F w n len (j + 1) = if rc F w n (n - j) 1 (rst F w n len j).1 + one (rst F w n len j).2 0 < rc F w n (n - j) 0 (rst F w n len j).1 + one (rst F w n len j).2 1 then ((rst F w n len j).1 - lf F j 1, 1) else ((rst F w n len j).1 - lf F j 0, 0) := rfl
        have go : ¬ rF F w n len j → w_X7_canBe_314 Q (w_X7_canBe_233 Q k) (zI ((600 * o + f0 : Nat) : Int)) (zI n) (zI (rst F w n len j).1) (zI (rst F w n len j).2) (zI j) (zI (rc F w n (n - j) 0 (rst F w n len j).1 + one (rst F w n len j).2 1)) (zI (rc F w n (n - j) 1 (rst F w n len j).1 + one (rst F w n len j).2 0)) Mx := by
          intro hnf z9 e9
          have k3 : zI (rc F w n (n - j) 1 (rst F w n len j).1 + one (rst F w n len j).2 0) < zI (rc F w n (n - j) 0 (rst F w n len j).1 + one (rst F w n len j).2 1) ↔ rc F w n (n - j) 1 (rst F w n len j).1 + one (rst F w n len j).2 0 < rc F w n (n - j) 0 (rst F w n len j).1 + one (rst F w n len j).2 1 := by
            rw [zI_lt (by omega) (by omega) (by omega) (by omega)]
          simp only [k3] at e9
          have res : ∀ s : Int, (s = 0 ∨ s = 1) → z9 = zI s → rst F w n len (j + 1) = ((rst F w n len j).1 - lf F j s, s) → vp_in (zI (j : Int)) 40 ∧ (∀ M11 : Mem, M11 = (mset Mx 71 (Int32.toNatClampNeg (zI (j : Int))) z9) → (vp_in (zI ((600 * o + f0 : Nat) : Int) + zI (j : Int)) 1200) ∧ ((vp_in (zI ((600 * o + f0 : Nat) : Int) + zI (j : Int)) 1200) ∧ (w_X7_lasts (M11 62 (Int32.toNatClampNeg (zI ((600 * o + f0 : Nat) : Int) + zI (j : Int)))) z9 (M11 64 (Int32.toNatClampNeg (zI ((600 * o + f0 : Nat) : Int) + zI (j : Int)))) M11 (fun v14 M15 => ∀ x16 : Int32, x16 = (zI (rst F w n len j).1 - v14) → ∀ x17 : Int32, x17 = zI (j : Int) + 1 → w_X7_canBe_233 Q k (zI ((600 * o + f0 : Nat) : Int)) (zI n) x16 z9 x17 M15)))) := by
            intro s hs ez er2
            subst ez
            rw [zI_in (by omega) (by omega), zI_tn (by omega) (by omega), tn_nat, zI_add, zI_in (by omega) (by omega), zI_tn (by omega) (by omega), show (((600 * o + f0 : Nat) : Int) + (j : Int)).toNat = 600 * o + f0 + j by omega]
            refine ⟨by omega, fun M11 e11 => ⟨by omega, by omega, ?_⟩⟩
            have q62 : M11 62 (600 * o + f0 + j) = zI (gIt S (f0 + j) 4) := by rw [e11, mset_o (by omega), h1 62 (by omega) (by omega)]; exact e62 j (by omega)
            have q64 : M11 64 (600 * o + f0 + j) = zI (gIt S (f0 + j) 6) := by rw [e11, mset_o (by omega), h1 64 (by omega) (by omega)]; exact e64 j (by omega)
            rw [q62, q64]
            refine x_lf hv (by omega) hs (fun x16 e16 x17 e17 => ?_)
            have e17' : x17 = zI ((j + 1 : Nat) : Int) := by rw [e17, lz1, zI_add]; rfl
            have e16' : x16 = zI (rst F w n len (j + 1)).1 := by rw [e16, zI_sub, er2, ← hF]; rfl
            subst e17' e16'
            have e18 : zI s = zI (rst F w n len (j + 1)).2 := by rw [er2]
            rw [e18]
            refine ih (j + 1) M11 (by omega) (by omega) (fun k g1 g2 => by rw [e11, mset_o g2]; exact h1 k g1 g2) (fun i s t g1 g2 g3 => by rw [e11, mset_o (by omega)]; exact h2 i s t g1 g2 g3) (fun i hi => ?_) (fun i hi => ?_)
            · by_cases g : i = j
              · subst g; exact hnf
              · exact h3 i (by omega)
            · by_cases g : i = j
              · subst g; rw [e11, mset_at, e18]
              · rw [e11, mset_j g]; exact h4 i (by omega)
          by_cases g : rc F w n (n - j) 1 (rst F w n len j).1 + one (rst F w n len j).2 0 < rc F w n (n - j) 0 (rst F w n len j).1 + one (rst F w n len j).2 1
          · rw [if_pos g] at e9 er
            exact res 1 (Or.inr rfl) e9 er
          · rw [if_neg g] at e9 er
            exact res 0 (Or.inl rfl) e9 er
        refine ⟨fun q1 => go (fun z => by unfold rF at z; omega), fun q1 => ⟨fun q2 => go (fun z => by unfold rF at z; omega), fun q2 => hno ⟨j, by omega, ?_⟩ Mx h1⟩⟩
        unfold rF
        omega
  -- the costs backward
  have inner : ∀ (B10 : Int32 → Int32 → Int32 → Mem → Prop) (B17 : Int32 → Int32 → Int32 → Int32 → Mem → Prop) (i s : Nat), i < n → s < 2 → ∀ (k t : Nat) (Mx : Mem), (t : Int) ≤ len + 1 → (len + 1).toNat - t < k → (∀ k : Nat, k ≠ 69 → Mx k = M k) → (∀ i' s' t' : Nat, i' < n → s' < 2 → (t' : Int) ≤ len → (i < i' ∨ (i = i' ∧ (s' < s ∨ (s' = s ∧ t' < t)))) → Mx 69 ((2 * i' + s') * 2049 + t') = zI (rc F w n (n - i') s' t')) → (∀ My : Mem, (∀ k : Nat, k ≠ 69 → My k = M k) → (∀ i' s' t' : Nat, i' < n → s' < 2 → (t' : Int) ≤ len → (i < i' ∨ (i = i' ∧ s' < s + 1)) → My 69 ((2 * i' + s') * 2049 + t') = zI (rc F w n (n - i') s' t')) → B17 (zI ((600 * o + f0 : Nat) : Int)) (zI n) (zI i) (zI ((s + 1 : Nat) : Int)) My) → w_X7_canBe_49 Q B10 B17 k (zI ((600 * o + f0 : Nat) : Int)) (zI n) (zI i) (zI s) (zI (lf F i s)) (zI t) Mx := by
    intro B10 B17 i s hi hs k
    induction k with
    | zero => intro t Mx g1 g2; omega
    | succ k ih =>
      intro t Mx ht hk h1 h2 hB
      have hwi := hw i hi
      have hlf := lfb i s hi
      show wb_X7_canBe_49 Q B10 B17 (w_X7_canBe_49 Q B10 B17 k) _ _ _ _ _ _ Mx
      unfold wb_X7_canBe_49
      rw [h1 46 (by omega), hl, zI_lt (by omega) (by omega) (by omega) (by omega), zI_in (by omega) (by omega), zI_tn (by omega) (by omega), tn_nat, h1 70 (by omega), hwi.1, lz0, zI_lt (by omega) (by omega) (by omega) (by omega), zI_eq (by omega) (by omega) (by omega) (by omega)]
      refine ⟨fun q x26 e26 => ?_, fun q => ⟨by omega, ?_⟩⟩
      · have e26' : x26 = zI ((s + 1 : Nat) : Int) := by rw [e26, lz1, zI_add]; rfl
        subst e26'
        refine hB Mx h1 (fun i' s' t' g1 g2 g3 g4 => h2 i' s' t' g1 g2 g3 ?_)
        omega
      · have put : ∀ V : Int, V = rc F w n (n - i) s t → w_X7_canBe_184 Q B10 B17 (w_X7_canBe_49 Q B10 B17 k) (zI ((600 * o + f0 : Nat) : Int)) (zI n) (zI i) (zI s) (zI (lf F i s)) (zI t) (zI V) Mx := by
          intro V hV
          unfold w_X7_canBe_184
          rw [lz2, zI_mul, zI_add, lz2049, zI_mul, zI_add, zI_in (by omega) (by omega), zI_tn (by omega) (by omega), show ((2 * (i : Int) + (s : Int)) * 2049 + (t : Int)).toNat = (2 * i + s) * 2049 + t by omega]
          refine ⟨by omega, fun M38 e38 x39 e39 => ?_⟩
          have e39' : x39 = zI ((t + 1 : Nat) : Int) := by rw [e39, lz1, zI_add]; rfl
          subst e39'
          refine ih (t + 1) M38 (by omega) (by omega) (fun k g1 => by rw [e38, mset_o g1]; exact h1 k g1) (fun i' s' t' g1 g2 g3 g4 => ?_) hB
          by_cases g : i' = i ∧ s' = s ∧ t' = t
          · obtain ⟨z1, z2, z3⟩ := g
            subst z1 z2 z3
            rw [e38, mset_at, hV]
          · rw [e38, mset_j (by omega)]
            exact h2 i' s' t' g1 g2 g3 (by omega)
        have q1 : n - i = n - (i + 1) + 1 := by omega
        have q2 : n - (n - (i + 1) + 1) = i := by omega
        have er : rc F w n (n - i) s t = if (w i < 0 ∨ w i = s) ∧ lf F i s ≤ t then mn (rc F w n (n - (i + 1)) s (t - lf F i s)) (rc F w n (n - (i + 1)) (1 - s) (t - lf F i s) + 1) else 1000000 := by
          rw [q1]
          show (if (w (n - (n - (i + 1) + 1)) < 0 ∨ w (n - (n - (i + 1) + 1)) = s) ∧ lf F (n - (n - (i + 1) + 1)) s ≤ t then mn (rc F w n (n - (i + 1)) s (t - lf F (n - (n - (i + 1) + 1)) s)) (rc F w n (n - (i + 1)) (1 - s) (t - lf F (n - (n - (i + 1) + 1)) s) + 1) else 1000000) = _
          rw [q2]
        have b82 : (w i < 0 ∨ w i = s) → w_X7_canBe_82 Q B10 B17 (w_X7_canBe_49 Q B10 B17 k) (zI ((600 * o + f0 : Nat) : Int)) (zI n) (zI i) (zI s) (zI (lf F i s)) (zI t) 1000000 Mx := by
          intro hc
          unfold w_X7_canBe_82
          rw [zI_lt (by omega) (by omega) (by omega) (by omega), lz1, zI_sub, zI_eq (by omega) (by omega) (by omega) (by omega)]
          refine ⟨fun g => by rw [lz1000000]; exact put _ (by rw [er, if_neg (by omega)]), fun g => ⟨fun g2 => ?_, fun g2 z55 e55 => ?_⟩⟩
          · rw [lz2, zI_add, zI_mul, zI_add, lz2049, zI_mul, zI_add, zI_sub, zI_add, zI_sub, zI_mul, zI_add, zI_sub, zI_in (by omega) (by omega), zI_in (by omega) (by omega), zI_tn (by omega) (by omega), zI_tn (by omega) (by omega), show ((2 * ((i : Int) + 1) + (s : Int)) * 2049 + (t : Int) - lf F i s).toNat = (2 * (i + 1) + s) * 2049 + ((t : Int) - lf F i s).toNat by omega, show ((2 * ((i : Int) + 1) + 1 - (s : Int)) * 2049 + (t : Int) - lf F i s).toNat = (2 * (i + 1) + (1 - s)) * 2049 + ((t : Int) - lf F i s).toNat by omega, h2 (i + 1) s _ (by omega) hs (by omega) (by omega), h2 (i + 1) (1 - s) _ (by omega) (by omega) (by omega) (by omega), show ((((t : Int) - lf F i s).toNat : Nat) : Int) = (t : Int) - lf F i s by omega, show ((1 - s : Nat) : Int) = 1 - (s : Int) by omega]
            refine ⟨by omega, fun x50 e50 => ⟨by omega, fun x52 e52 z53 e53 => ?_⟩⟩
            have a1 := rb (n - (i + 1)) s ((t : Int) - lf F i s) (by omega)
            have a2 := rb (n - (i + 1)) (1 - s) ((t : Int) - lf F i s) (by omega)
            rw [zI_add] at e52
            subst e50 e52
            have k1 : zI (rc F w n (n - (i + 1)) (1 - s) (t - lf F i s) + 1) ≤ zI (rc F w n (n - (i + 1)) s (t - lf F i s)) ↔ rc F w n (n - (i + 1)) (1 - s) (t - lf F i s) + 1 ≤ rc F w n (n - (i + 1)) s (t - lf F i s) := by rw [zI_le (by omega) (by omega) (by omega) (by omega)]
            simp only [k1] at e53
            have : z53 = zI (mn (rc F w n (n - (i + 1)) s (t - lf F i s)) (rc F w n (n - (i + 1)) (1 - s) (t - lf F i s) + 1)) := by
              rw [e53]
              unfold mn
              by_cases g3 : rc F w n (n - (i + 1)) (1 - s) (t - lf F i s) + 1 ≤ rc F w n (n - (i + 1)) s (t - lf F i s)
              · rw [if_pos g3, if_pos g3]
              · rw [if_neg g3, if_neg g3]
            subst this
            exact put _ (by rw [er, if_pos ⟨hc, by omega⟩])
          · have k1 : zI (lf F i s) = zI (t : Int) ↔ lf F i s = t := by rw [zI_eq (by omega) (by omega) (by omega) (by omega)]
            simp only [k1] at e55
            have : z55 = zI (rc F w n (n - i) s t) := by
              rw [e55, er, if_pos (show (w i < 0 ∨ w i = s) ∧ lf F i s ≤ t from ⟨hc, by omega⟩), show n - (i + 1) = 0 by omega]
              show _ = zI (mn (if (t : Int) - lf F i s = 0 then 0 else 1000000) ((if (t : Int) - lf F i s = 0 then 0 else 1000000) + 1))
              by_cases g3 : lf F i s = t
              · rw [if_pos g3, if_pos (by omega)]; rfl
              · rw [if_neg g3, if_neg (by omega)]; rfl
            subst this
            exact put _ rfl
        refine ⟨fun g => b82 (Or.inl g), fun g => ⟨by omega, fun g2 => by rw [lz1000000]; exact put _ (by rw [er, if_neg (by omega)]), fun g2 => b82 (Or.inr g2)⟩⟩
  have mid : ∀ (B10 : Int32 → Int32 → Int32 → Mem → Prop) (i : Nat), i < n → ∀ (k s : Nat) (Mx : Mem), s ≤ 2 → 2 - s < k → (∀ k : Nat, k ≠ 69 → Mx k = M k) → (∀ i' s' t' : Nat, i' < n → s' < 2 → (t' : Int) ≤ len → (i < i' ∨ (i = i' ∧ s' < s)) → Mx 69 ((2 * i' + s') * 2049 + t') = zI (rc F w n (n - i') s' t')) → (∀ My : Mem, (∀ k : Nat, k ≠ 69 → My k = M k) → (∀ i' s' t' : Nat, i' < n → s' < 2 → (t' : Int) ≤ len → i ≤ i' → My 69 ((2 * i' + s') * 2049 + t') = zI (rc F w n (n - i') s' t')) → B10 (zI ((600 * o + f0 : Nat) : Int)) (zI n) (zI ((i : Int) - 1)) My) → w_X7_canBe_17 Q B10 k (zI ((600 * o + f0 : Nat) : Int)) (zI n) (zI i) (zI s) Mx := by
    intro B10 i hi k
    induction k with
    | zero => intro s Mx g1 g2; omega
    | succ k ih =>
      intro s Mx hs hk h1 h2 hB
      show wb_X7_canBe_17 Q B10 (w_X7_canBe_17 Q B10 k) _ _ _ _ Mx
      unfold wb_X7_canBe_17
      have k0 : (2 : Int32) ≤ zI (s : Int) ↔ s = 2 := by rw [lz2, zI_le (by omega) (by omega) (by omega) (by omega)]; omega
      rw [k0, zI_add, zI_in (by omega) (by omega), zI_tn (by omega) (by omega), show (((600 * o + f0 : Nat) : Int) + (i : Int)).toNat = 600 * o + f0 + i by omega, h1 62 (by omega), h1 64 (by omega), e62 i hi, e64 i hi]
      refine ⟨fun q x21 e21 => ?_, fun q => ⟨by omega, by omega, ?_⟩⟩
      · have e21' : x21 = zI ((i : Int) - 1) := by rw [e21, ln1, zI_add]; rfl
        subst e21'
        exact hB Mx h1 (fun i' s' t' g1 g2 g3 g4 => h2 i' s' t' g1 g2 g3 (by omega))
      · refine x_lf hv (by omega) (by omega) ⟨(len + 1).toNat + 1, ?_⟩
        rw [hsl i s (by omega)]
        exact inner B10 (w_X7_canBe_17 Q B10 k) i s hi (by omega) _ 0 Mx (by omega) (by omega) h1 (fun i' s' t' g1 g2 g3 g4 => h2 i' s' t' g1 g2 g3 (by omega)) (fun My g1 g2 => ih (s + 1) My (by omega) (by omega) g1 g2 hB)
  have outer : ∀ (k j : Nat) (Mx : Mem), j ≤ n → j < k → (∀ k : Nat, k ≠ 69 → Mx k = M k) → (∀ i' s' t' : Nat, i' < n → s' < 2 → (t' : Int) ≤ len → j ≤ i' → Mx 69 ((2 * i' + s') * 2049 + t') = zI (rc F w n (n - i') s' t')) → w_X7_canBe_10 Q k (zI ((600 * o + f0 : Nat) : Int)) (zI n) (zI ((j : Int) - 1)) Mx := by
    intro k
    induction k with
    | zero => intro j Mx g1 g2; omega
    | succ k ih =>
      intro j Mx hj hk h1 h2
      show wb_X7_canBe_10 Q (w_X7_canBe_10 Q k) _ _ _ Mx
      unfold wb_X7_canBe_10
      have k0 : zI ((j : Int) - 1) < 0 ↔ j = 0 := by rw [lz0, zI_lt (by omega) (by omega) (by omega) (by omega)]; omega
      rw [k0]
      refine ⟨fun q x2 e2 => ⟨n + 1, ?_⟩, fun q => ⟨3, ?_⟩⟩
      · subst q
        rw [h1 46 (by omega), hl] at e2
        subst e2
        rw [ln1]
        exact walk (n + 1) 0 Mx (by omega) (by omega) (fun k g1 _ => h1 k g1) (fun i s t g1 g2 g3 => h2 i s t g1 g2 g3 (by omega)) (fun i hi => by omega) (fun i hi => by omega)
      · rw [show ((j : Int) - 1) = ((j - 1 : Nat) : Int) by omega]
        exact mid (w_X7_canBe_10 Q k) (j - 1) (by omega) 3 0 Mx (by omega) (by omega) h1 (fun i' s' t' g1 g2 g3 g4 => h2 i' s' t' g1 g2 g3 (by omega)) (fun My g1 g2 => ih (j - 1) My (by omega) (by omega) g1 g2)
  have cn : zI (n : Int) = 0 ↔ n = 0 := by rw [lz0, zI_eq (by omega) (by omega) (by omega) (by omega)]; omega
  unfold w_X7_canBe
  rw [cn]
  refine ⟨fun _ x1 e1 => ⟨n + 1, ?_⟩, fun q => by omega⟩
  rw [lz1, zI_sub] at e1
  subst e1
  exact outer (n + 1) n M (Nat.le_refl _) (by omega) (fun _ _ => rfl) (fun i' s' t' g1 g2 g3 g4 => by omega)
end CanBe
