section Signed
variable {M : Mem} {S : Mus} {c r m : Nat} {row : Nat → Int} {Q : Int32 → Mem → Prop} {w : Nat → Int} {u n f0 o : Nat} {len : Int}
theorem exS_eq {x : Int} (h : 0 ≤ exS x) : x = 15 * exS x := by
  unfold exS at h ⊢
  split
  · next g => rw [if_pos g] at h; omega
  · omega
theorem x_canBe2 (ho : o < 2) (hM : ∀ i a : Nat, i < gNi S → a < 10 → M (58 + a) (600 * o + i) = zI (rat (gIt S i) a)) (hv : MV S) (hl : M 46 7 = zI len) (hlen : 1 ≤ len ∧ len ≤ 2048) (hn : 0 < n) (h40 : n ≤ 40) (hu : u ≤ n) (hfn : f0 + n ≤ gNi S) (hw : ∀ j : Nat, j < n → M 70 j = zI (w j)) (hw0 : ∀ j : Nat, j < u → w j = -1) (hw1 : ∀ j : Nat, u ≤ j → j < n → w j = 0 ∨ w j = 1) (hok : okS (smf S f0) u (nxS w n u) (exS (len - bsS (smf S f0) w n u u)) → ∀ M' : Mem, (∀ k : Nat, k ≠ 69 → k ≠ 71 → M' k = M k) → (∀ j : Nat, j < u → M' 71 j = zI (cst (smf S f0) u (nxS w n u) (exS (len - bsS (smf S f0) w n u u)) (j + 1)).2) → (∀ j : Nat, u ≤ j → j < n → M' 71 j = zI (w j)) → Q 1 M') (hno : ¬ okS (smf S f0) u (nxS w n u) (exS (len - bsS (smf S f0) w n u u)) → ∀ M' : Mem, (∀ k : Nat, k ≠ 69 → k ≠ 71 → M' k = M k) → Q 0 M') : w_X7_canBe (zI ((600 * o + f0 : Nat) : Int)) (zI n) M Q := by
  have hsm : ∀ j : Nat, j < n → 0 ≤ smf S f0 j := fun j hj => by have : 4 ≤ smf S f0 j ∧ smf S f0 j ≤ 56 := sml_pos hv (by omega); omega
  have h0 : ∀ j : Nat, j < u → w j < 0 := fun j hj => by rw [hw0 j hj]; omega
  refine x_canBe ho hM hv hl hlen hn h40 hfn (w := w) (fun j hj => ⟨hw j hj, ?_⟩) (fun nf M' g1 g2 => ?_) (fun ⟨j, j1, j2⟩ M' g1 => ?_)
  · rcases Nat.lt_or_ge j u with g | g
    · rw [hw0 j g]; omega
    · have := hw1 j g hj; omega
  · rcases Classical.em (okS (smf S f0) u (nxS w n u) (exS (len - bsS (smf S f0) w n u u))) with ok | no
    · have := walk_ok (f := smf S f0) (w := w) (n := n) (u := u) (su := exS (len - bsS (smf S f0) w n u u)) (len := len) hsm hu h40 h0 hw1 (by have := exS_eq ok.1; omega) ok
      exact hok ok M' g1 (fun j hj => by rw [g2 j (by omega), this.2.1 j hj]) (fun j k1 k2 => by rw [g2 j k2, this.2.2 j k1 k2])
    · exact absurd (walk_no (f := smf S f0) (w := w) (n := n) (u := u) (len := len) hsm hu h40 h0 hw1 no) (nf 0 hn)
  · rcases Classical.em (okS (smf S f0) u (nxS w n u) (exS (len - bsS (smf S f0) w n u u))) with ok | no
    · have := walk_ok (f := smf S f0) (w := w) (n := n) (u := u) (su := exS (len - bsS (smf S f0) w n u u)) (len := len) hsm hu h40 h0 hw1 (by have := exS_eq ok.1; omega) ok
      exact absurd j2 (this.1 j j1)
    · exact hno no M' g1
def wN : Nat → Int := fun _ => -1
def lone (S : Mus) (s : Nat) : Prop := gSz S s = 1 ∧ gIt S (gFo S s) 2 = 0 ∧ gIt S (gFo S s) 4 = 0 ∧ gIt S (gFo S s) 6 = 0
def suN (S : Mus) (s : Nat) : Int := exS (gLen S - bsS (smf S (gFo S s)) wN (gSz S s) (gSz S s) (gSz S s))
def okN (S : Mus) (s : Nat) : Prop := okS (smf S (gFo S s)) (gSz S s) (nxS wN (gSz S s) (gSz S s)) (suN S s)
def szN (S : Mus) (s j : Nat) : Int := (cst (smf S (gFo S s)) (gSz S s) (nxS wN (gSz S s) (gSz S s)) (suN S s) (j + 1)).2
/-- a voice needs its signs -/
def sgn (S : Mus) (s : Nat) : Prop := (lone S s ∧ ¬ gIt S (gFo S s) 5 = 2) ∨ (¬ lone S s ∧ ¬ (okN S s ∧ ∀ j : Nat, j < gSz S s → szN S s j = gIt S (gFo S s + j) 5))
def sgz (S : Mus) (s : Nat) (z : Int32) : Prop := (sgn S s ∧ z = 1) ∨ (¬ sgn S s ∧ z = 0)
theorem sgz_uni {s : Nat} {z z' : Int32} (h : sgz S s z) (h' : sgz S s z') : z' = z := by
  rcases h with h | h <;> rcases h' with h' | h'
  · rw [h.2, h'.2]
  · exact absurd h.1 h'.1
  · exact absurd h'.1 h.1
  · rw [h.2, h'.2]
theorem szN_01 (s j : Nat) : szN S s j = 0 ∨ szN S s j = 1 := cst_01 j
theorem e_needsSigns {b v : Nat} (hT : TB M) (h : MW M m S) (hv : MV S) (hm : 5 ≤ m ∧ m ≤ 20) (hb : b < gNb S) (hvv : v < gVo S b) (h1 : sgn S (3 * b + v) → ∀ M' : Mem, (∀ k : Nat, (k < 35 ∨ 38 < k) → M' k = M k) → Q 1 M') (h0 : ¬ sgn S (3 * b + v) → ∀ M' : Mem, (∀ k : Nat, (k < 35 ∨ 38 < k) → M' k = M k) → Q 0 M') : w_X5_needsSigns m (zI ((3 * b + v : Nat) : Int)) M Q := by
  obtain ⟨hs1, hs2⟩ := h.2.2.2.2.2.1 b v hb hvv
  obtain ⟨hr1, hr2, hr3⟩ := hv.2.2.2.2.2.2.1 b v hb hvv
  have hb3 := hv.2.2.2.2.1 b hb
  have hnb := hv.2.2.1
  have hni := hv.2.2.2.1
  unfold w_X5_needsSigns
  rw [zI_in (by omega) (by omega), zI_tn (by omega) (by omega), tn_nat, hs1]
  refine ⟨by omega, fun x2 e2 => e_isLone h hv hb hvv (fun g => ⟨fun z => absurd z (by decide), fun _ => ?_⟩) (fun g => ⟨fun _ => ⟨by omega, ?_⟩, fun z => absurd rfl z⟩)⟩
  · subst e2
    have hi : gFo S (3 * b + v) < gNi S := by have := g.1; omega
    have e9 : M (m + 9) (gFo S (3 * b + v)) = zI (gIt S (gFo S (3 * b + v)) 5) := MW_at h hi (a := 5) (by omega)
    obtain ⟨-, -, -, -, -, w5, -⟩ := hv.2.2.2.2.2.1 _ hi
    rw [zI_in (by omega) (by omega), zI_tn (by omega) (by omega), tn_nat, e9]
    refine ⟨by omega, fun z12 e12 => ?_⟩
    have k1 : zI (gIt S (gFo S (3 * b + v)) 5) = 2 ↔ gIt S (gFo S (3 * b + v)) 5 = 2 := by rw [lz2, zI_eq (by omega) (by omega) (by omega) (by omega)]
    simp only [k1] at e12
    by_cases g2 : gIt S (gFo S (3 * b + v)) 5 = 2
    · rw [if_pos g2] at e12
      subst e12
      refine ⟨Or.inl rfl, h0 ?_ M (fun _ _ => rfl)⟩
      rintro (z | z)
      · exact z.2 g2
      · exact z.1 g
    · rw [if_neg g2] at e12
      subst e12
      exact ⟨Or.inr rfl, h1 (Or.inl ⟨g, g2⟩) M (fun _ _ => rfl)⟩
  · subst e2
    rw [hs2]
    refine e_settle (w := wN) hT h hv hm hb hvv rfl rfl (Nat.le_refl _) (fun j q1 q2 => by omega) (fun ok M7 f7 c7 v7 => ⟨fun _ => ⟨gSz S (3 * b + v) + 1, ?_⟩, fun z => absurd z (by decide)⟩) (fun no M7 f7 => ⟨fun z => absurd rfl z, fun _ => h1 (Or.inr ⟨g, fun z => no z.1⟩) M7 f7⟩)
    have key : ∀ (k j : Nat), j ≤ gSz S (3 * b + v) → gSz S (3 * b + v) - j < k → (∀ i : Nat, i < j → szN S (3 * b + v) i = gIt S (gFo S (3 * b + v) + i) 5) → w_X5_needsSigns_51 m Q k (zI ((3 * b + v : Nat) : Int)) (zI (gFo S (3 * b + v))) (zI j) M7 := by
      intro k
      induction k with
      | zero => intro j g1 g2; omega
      | succ k ih =>
        intro j hj hk hall
        show wb_X5_needsSigns_51 m Q (w_X5_needsSigns_51 m Q k) _ _ _ M7
        unfold wb_X5_needsSigns_51
        rw [c7, zI_le (by omega) (by omega) (by omega) (by omega)]
        refine ⟨fun q => ?_, fun q => ?_⟩
        · refine h0 ?_ M7 f7
          rintro (z | z)
          · exact g z.1
          · exact z.2 ⟨ok, fun i hi => hall i (by omega)⟩
        · have hi : gFo S (3 * b + v) + j < gNi S := by omega
          have e9 : M (m + 9) (gFo S (3 * b + v) + j) = zI (gIt S (gFo S (3 * b + v) + j) 5) := MW_at h hi (a := 5) (by omega)
          obtain ⟨-, -, -, -, -, w5, -⟩ := hv.2.2.2.2.2.1 _ hi
          have c01 := szN_01 (S := S) (3 * b + v) j
          have v7j : M7 36 j = zI (szN S (3 * b + v) j) := v7 j (by omega)
          rw [zI_in (by omega) (by omega), zI_tn (by omega) (by omega), tn_nat, zI_add, zI_in (by omega) (by omega), zI_tn (by omega) (by omega), show ((gFo S (3 * b + v) : Int) + (j : Int)).toNat = gFo S (3 * b + v) + j by omega, f7 (m + 9) (by omega), e9, v7j, zI_eq (by omega) (by omega) (by omega) (by omega)]
          refine ⟨by omega, by omega, fun q1 x10 e10 => ?_, fun q1 => h1 (Or.inr ⟨g, fun z => q1 (z.2 j (by omega))⟩) M7 f7⟩
          have e10' : x10 = zI ((j + 1 : Nat) : Int) := by rw [e10, lz1, zI_add]; rfl
          subst e10'
          refine ih (j + 1) (by omega) (by omega) (fun i hi2 => ?_)
          by_cases g3 : i = j
          · subst g3; exact q1
          · exact hall i (by omega)
    exact key _ 0 (by omega) (by omega) (fun i hi => by omega)
theorem size2_lone {b v : Nat} (hv : MV S) (hg : GV S) (hb : b < gNb S) (hvv : v < gVo S b) (hs : 0 < gSz S (3 * b + v)) (h2 : gIt S (gFo S (3 * b + v)) 5 = 2) : lone S (3 * b + v) := by
  obtain ⟨hr1, hr2, hr3⟩ := hv.2.2.2.2.2.2.1 b v hb hvv
  have hle := hg.1 b v hb hvv
  have hit := hg.2.2.1 (gFo S (3 * b + v)) (by omega)
  have h3 := hit.2.1 h2
  refine ⟨?_, h3.1, h3.2.1, h3.2.2⟩
  rcases Nat.lt_or_ge 1 (gSz S (3 * b + v)) with g | g
  · have e : slotL S (3 * b + v) = lastG S (gFo S (3 * b + v)) + sumF (lastG S) (gFo S (3 * b + v) + 1) (gSz S (3 * b + v) - 1) := by
      have := sumF_front (lastG S) (gFo S (3 * b + v)) (gSz S (3 * b + v) - 1)
      rw [show gSz S (3 * b + v) - 1 + 1 = gSz S (3 * b + v) by omega] at this
      exact this
    have e2 : lastG S (gFo S (3 * b + v)) = gLen S := if_pos h2
    have := sumF_le (f := lastG S) (a := gFo S (3 * b + v) + 1) (lo := 1) (hi := 2048) (gSz S (3 * b + v) - 1) (fun j hj => lastG_pos hv (by omega))
    omega
  · omega
theorem x_isSigned {b v : Nat} (hM : RM M 0 S) (hl : M 46 7 = zI (gLen S)) (hv : MV S) (hg : GV S) (hb : b < gNb S) (hvv : v < gVo S b) (hs : 0 < gSz S (3 * b + v)) (h1 : sgn S (3 * b + v) → ∀ M' : Mem, (∀ k : Nat, (k < 69 ∨ 71 < k) → M' k = M k) → Q 1 M') (h0 : ¬ sgn S (3 * b + v) → ∀ M' : Mem, (∀ k : Nat, (k < 69 ∨ 71 < k) → M' k = M k) → Q 0 M') : w_X7_isSigned (zI b) (zI v) M Q := by
  obtain ⟨hr1, hr2, hr3⟩ := hv.2.2.2.2.2.2.1 b v hb hvv
  have hni := hv.2.2.2.1
  unfold w_X7_isSigned
  rw [lz0]
  refine x_voiceFirst (o := 0) (by omega) hM hv hb hvv (x_voiceSize (o := 0) (by omega) hM hv hb hvv ?_)
  rw [if_neg (by omega), show ((600 * 0 + gFo S (3 * b + v) : Nat) : Int) = (gFo S (3 * b + v) : Int) by omega]
  have hi : gFo S (3 * b + v) < gNi S := by omega
  have e2 : M 60 (gFo S (3 * b + v)) = zI (rp (gIt S (gFo S (3 * b + v)) 2)) := RM0_at hM hi (a := 2) (by omega)
  have e4 : M 62 (gFo S (3 * b + v)) = zI (gIt S (gFo S (3 * b + v)) 4) := RM0_at hM hi (a := 4) (by omega)
  have e5 : M 63 (gFo S (3 * b + v)) = zI (gIt S (gFo S (3 * b + v)) 5) := RM0_at hM hi (a := 5) (by omega)
  have e6 : M 64 (gFo S (3 * b + v)) = zI (gIt S (gFo S (3 * b + v)) 6) := RM0_at hM hi (a := 6) (by omega)
  obtain ⟨-, -, w2, -, w4, w5, w6, -⟩ := hv.2.2.2.2.2.1 _ hi
  have hrp : -1 ≤ rp (gIt S (gFo S (3 * b + v)) 2) ∧ rp (gIt S (gFo S (3 * b + v)) 2) ≤ 55 ∧ (0 ≤ rp (gIt S (gFo S (3 * b + v)) 2) ↔ ¬ gIt S (gFo S (3 * b + v)) 2 = 0) := by
    unfold rp
    split <;> omega
  have main : ¬ lone S (3 * b + v) → ∃ k, w_X7_isSigned_67 Q k (zI b) (zI v) (zI (gFo S (3 * b + v))) (zI (gSz S (3 * b + v))) (zI 0) M := by
    intro g
    refine ⟨gSz S (3 * b + v) + 1, ?_⟩
    have wish : ∀ (k j : Nat) (Mx : Mem), j ≤ gSz S (3 * b + v) → gSz S (3 * b + v) - j < k → (∀ k : Nat, k ≠ 70 → Mx k = M k) → (∀ i : Nat, i < j → Mx 70 i = zI (-1)) → w_X7_isSigned_67 Q k (zI b) (zI v) (zI (gFo S (3 * b + v))) (zI (gSz S (3 * b + v))) (zI j) Mx := by
      intro k
      induction k with
      | zero => intro j Mx g1 g2; omega
      | succ k ih =>
        intro j Mx hj hk f1 f2
        show wb_X7_isSigned_67 Q (w_X7_isSigned_67 Q k) _ _ _ _ _ Mx
        unfold wb_X7_isSigned_67
        rw [zI_le (by omega) (by omega) (by omega) (by omega), zI_in (by omega) (by omega), zI_tn (by omega) (by omega), tn_nat]
        refine ⟨fun q => ?_, fun q => ⟨by omega, fun M20 e20 x21 e21 => ?_⟩⟩
        · have hj2 : j = gSz S (3 * b + v) := by omega
          subst hj2
          have hM2 : RM Mx 0 S := ⟨by rw [f1 _ (by omega)]; exact hM.1, by rw [f1 _ (by omega)]; exact hM.2.1, by rw [f1 _ (by omega)]; exact hM.2.2.1, fun b hb => by rw [f1 _ (by omega), f1 _ (by omega)]; exact hM.2.2.2.1 b hb, fun i a hi ha => by rw [f1 _ (by omega)]; exact hM.2.2.2.2.1 i a hi ha, fun i k hi hk => by rw [f1 _ (by omega)]; exact hM.2.2.2.2.2 i k hi hk⟩
          have cmp : ∀ (Mz : Mem), (∀ k : Nat, (k < 69 ∨ 71 < k) → Mz k = M k) → (∀ j : Nat, j < gSz S (3 * b + v) → Mz 71 j = zI (szN S (3 * b + v) j)) → okN S (3 * b + v) → ∀ (k j : Nat) (same : Int), j ≤ gSz S (3 * b + v) → gSz S (3 * b + v) - j < k → (same = 1 ∧ (∀ i : Nat, i < j → szN S (3 * b + v) i = gIt S (gFo S (3 * b + v) + i) 5)) ∨ (same = 0 ∧ ∃ i : Nat, i < gSz S (3 * b + v) ∧ ¬ szN S (3 * b + v) i = gIt S (gFo S (3 * b + v) + i) 5) → w_X7_isSigned_100 Q k (zI b) (zI v) (zI (gFo S (3 * b + v))) (zI (gSz S (3 * b + v))) (zI same) (zI j) Mz := by
            intro Mz z1 z2 ok k
            induction k with
            | zero => intro j same g1 g2; omega
            | succ k ih2 =>
              intro j same hj hk hd
              show wb_X7_isSigned_100 Q (w_X7_isSigned_100 Q k) _ _ _ _ _ _ Mz
              unfold wb_X7_isSigned_100
              have ks : zI same = 0 ↔ same = 0 := by rw [lz0, zI_eq (by omega) (by omega) (by omega) (by omega)]
              rw [zI_le (by omega) (by omega) (by omega) (by omega)]
              simp only [ks]
              have fin0 : same = 0 → Q 1 Mz := fun g0 => by
                rcases hd with hd | hd
                · omega
                · obtain ⟨-, i, i1, i2⟩ := hd
                  exact h1 (Or.inr ⟨g, fun z => i2 (z.2 i i1)⟩) Mz z1
              refine ⟨fun q z8 e8 => ?_, fun q => ⟨fun q1 z11 e11 => ?_, fun q1 => ?_⟩⟩
              · by_cases g0 : same = 0
                · rw [if_pos g0] at e8
                  subst e8
                  exact ⟨Or.inr rfl, fin0 g0⟩
                · rw [if_neg g0] at e8
                  subst e8
                  refine ⟨Or.inl rfl, h0 ?_ Mz z1⟩
                  rcases hd with hd | hd
                  · rintro (z | z)
                    · exact g z.1
                    · exact z.2 ⟨ok, fun i hi => hd.2 i (by omega)⟩
                  · omega
              · rw [if_pos q1] at e11
                subst e11
                exact ⟨Or.inr rfl, fin0 q1⟩
              · have hi2 : gFo S (3 * b + v) + j < gNi S := by omega
                have e5j : M 63 (gFo S (3 * b + v) + j) = zI (gIt S (gFo S (3 * b + v) + j) 5) := RM0_at hM hi2 (a := 5) (by omega)
                obtain ⟨-, -, -, -, -, w5j, -⟩ := hv.2.2.2.2.2.1 _ hi2
                have c01 := szN_01 (S := S) (3 * b + v) j
                rw [zI_in (by omega) (by omega), zI_tn (by omega) (by omega), tn_nat, zI_add, zI_in (by omega) (by omega), zI_tn (by omega) (by omega), show ((gFo S (3 * b + v) : Int) + (j : Int)).toNat = gFo S (3 * b + v) + j by omega, z1 63 (by omega), e5j, z2 j (by omega)]
                refine ⟨by omega, by omega, fun z16 e16 x17 e17 => ?_⟩
                have e17' : x17 = zI ((j + 1 : Nat) : Int) := by rw [e17, lz1, zI_add]; rfl
                subst e17'
                have k5 : zI (szN S (3 * b + v) j) = zI (gIt S (gFo S (3 * b + v) + j) 5) ↔ szN S (3 * b + v) j = gIt S (gFo S (3 * b + v) + j) 5 := by rw [zI_eq (by omega) (by omega) (by omega) (by omega)]
                simp only [k5] at e16
                by_cases g5 : szN S (3 * b + v) j = gIt S (gFo S (3 * b + v) + j) 5
                · rw [if_pos g5] at e16
                  subst e16
                  rw [lz1]
                  refine ih2 (j + 1) 1 (by omega) (by omega) (Or.inl ⟨rfl, fun i hi3 => ?_⟩)
                  rcases hd with hd | hd
                  · by_cases g6 : i = j
                    · subst g6; exact g5
                    · exact hd.2 i (by omega)
                  · omega
                · rw [if_neg g5] at e16
                  subst e16
                  rw [lz0]
                  exact ih2 (j + 1) 0 (by omega) (by omega) (Or.inr ⟨rfl, j, by omega, g5⟩)
          have hl2 : Mx 46 7 = zI (gLen S) := by rw [f1 46 (by omega)]; exact hl
          have := x_canBe2 (M := Mx) (o := 0) (S := S) (f0 := gFo S (3 * b + v)) (n := gSz S (3 * b + v)) (u := gSz S (3 * b + v)) (w := wN) (len := gLen S) (Q := fun v6 M7 => ∃ k, w_X7_isSigned_100 Q k (zI b) (zI v) (zI (gFo S (3 * b + v))) (zI (gSz S (3 * b + v))) v6 0 M7) (by omega) hM2.2.2.2.2.1 hv hl2 hv.1 hs hr2 (Nat.le_refl _) hr1 (fun j hj => f2 j hj) (fun _ _ => rfl) (fun j k1 k2 => by omega) (fun ok M' g1 g2 g3 => ⟨gSz S (3 * b + v) + 1, ?_⟩) (fun no M' g1 => ⟨1, ?_⟩)
          · rw [show 600 * 0 + gFo S (3 * b + v) = gFo S (3 * b + v) by omega] at this
            exact this
          · rw [lz1, lz0]
            exact cmp M' (fun k hk => by rw [g1 k (by omega) (by omega), f1 k (by omega)]) (fun j hj => g2 j hj) ok _ 0 1 (by omega) (by omega) (Or.inl ⟨rfl, fun i hi => by omega⟩)
          · show wb_X7_isSigned_100 Q (w_X7_isSigned_100 Q 0) _ _ _ _ _ _ M'
            unfold wb_X7_isSigned_100
            rw [lz0, zI_le (by omega) (by omega) (by omega) (by omega)]
            refine ⟨fun q => by omega, fun q => ⟨fun _ z11 e11 => ?_, fun z => absurd rfl z⟩⟩
            rw [if_pos rfl] at e11
            subst e11
            exact ⟨Or.inr rfl, h1 (Or.inr ⟨g, fun z => no z.1⟩) M' (fun k hk => by rw [g1 k (by omega) (by omega), f1 k (by omega)])⟩
        · have e21' : x21 = zI ((j + 1 : Nat) : Int) := by rw [e21, lz1, zI_add]; rfl
          subst e21'
          refine ih (j + 1) M20 (by omega) (by omega) (fun k g1 => by rw [e20, mset_o g1]; exact f1 k g1) (fun i hi => ?_)
          by_cases g2 : i = j
          · subst g2; rw [e20, mset_at, ln1]
          · rw [e20, mset_j g2]; exact f2 i (by omega)
    exact wish _ 0 M (by omega) (by omega) (fun _ _ => rfl) (fun i hi => by omega)
  have kn : zI (gSz S (3 * b + v) : Int) = 1 ↔ gSz S (3 * b + v) = 1 := by rw [lz1, zI_eq (by omega) (by omega) (by omega) (by omega)]; omega
  rw [zI_in (by omega) (by omega), zI_tn (by omega) (by omega), tn_nat, e5, e2, e4, e6, lz2, zI_eq (by omega) (by omega) (by omega) (by omega), kn, zI_le (by omega) (by omega) (by omega) (by omega), hrp.2.2, zI_eq (by omega) (by omega) (by omega) (by omega), zI_eq (by omega) (by omega) (by omega) (by omega)]
  refine ⟨by omega, fun q => ⟨fun q1 => main (fun z => q1 z.1), fun q1 => ⟨by omega, fun q2 => main (fun z => q2 z.2.1), fun q2 => ⟨by omega, fun q3 => main (fun z => q3 z.2.2.1), fun q3 => ⟨by omega, fun q4 => main (fun z => q4 z.2.2.2), fun q4 => ?_⟩⟩⟩⟩, fun q => ?_⟩
  · have q2' : gIt S (gFo S (3 * b + v)) 2 = 0 := by omega
    exact h1 (Or.inl ⟨⟨q1, q2', q3, q4⟩, q⟩) M (fun _ _ => rfl)
  · refine h0 ?_ M (fun _ _ => rfl)
    rintro (z | z)
    · exact z.2 q
    · exact z.1 (size2_lone hv hg hb hvv hs q)
theorem x_signed {p1 p2 : Int32} (h : RS M S c row) (hg : GV S) (h1 : ∀ b v : Nat, p1 = zI b → p2 = zI v → b < gNb S → v < gVo S b → slotL S (3 * b + v) = gLen S → ∀ z : Int32, sgz S (3 * b + v) z → ∀ M' : Mem, fr M M' → Q z M') (hS : ∀ b v : Nat, p1 = zI b → p2 = zI v → b < gNb S → v < gVo S b → ¬ slotL S (3 * b + v) = gLen S → Q (-3) M) (h0 : (∀ b v : Nat, p1 = zI b → p2 = zI v → b < gNb S → v < gVo S b → False) → Q (-1) M) : w_X7_signed p1 p2 M Q := by
  have hM := h.2.2.2.2.1
  have hv := h.2.2.2.2.2.2
  have hL := h.2.2.1
  unfold w_X7_signed
  refine x_isVoice hM hv (fun b v ep1 ep2 hb hvv => ⟨fun _ => ?_, fun q => absurd q (by decide)⟩) (fun q => ⟨fun z => absurd rfl z, fun _ => h0 q⟩)
  have hQ := h1 b v ep1 ep2 hb hvv
  have hQS := hS b v ep1 ep2 hb hvv
  subst ep1 ep2
  have hnb := hv.2.2.1
  have hb3 := hv.2.2.2.2.1 b hb
  have hsb := slotL_bd hv hb hvv
  have hlen := hv.1
  rw [lz0]
  refine x_voiceLasts (o := 0) (by omega) hM hL hv (by omega) (by omega) ?_
  rw [sel_sum hv hb hvv, show sumF (lastG S) (gFo S (3 * b + v)) (gSz S (3 * b + v)) = slotL S (3 * b + v) from rfl, hL, zI_eq (by omega) (by omega) (by omega) (by omega)]
  refine ⟨fun q => ?_, fun q => hQS q⟩
  have hs : 0 < gSz S (3 * b + v) := by
    rcases Nat.eq_zero_or_pos (gSz S (3 * b + v)) with e | e
    · unfold slotL at q
      rw [e] at q
      have : (0 : Int) = gLen S := q
      omega
    · exact e
  refine x_isSigned hM hL hv hg hb hvv hs (fun g M' f' z7 e7 => hQ q z7 ?_ M' (fun k hk => f' k (by omega))) (fun g M' f' z7 e7 => hQ q z7 ?_ M' (fun k hk => f' k (by omega)))
  · exact Or.inl ⟨g, e7⟩
  · exact Or.inr ⟨g, e7⟩
theorem op_signed {K : Int32 → Int32 → Mem → Prop} {R : Int32 → Mem → Prop} (h : ST M S c row r m) (p1 p2 : Int32) (hR : ∀ v M1, fz M M1 → w_X7_signed p1 p2 M1 (K v) → R v M1) (hK : ∀ v M2, INV M2 → ke M M2 → K v v M2) : w_X6_signed m p1 p2 M R := by
  have same : INV M := ⟨S, c, row, r, m, h⟩
  have hv := h.2.1.2.2.2.2.2.2
  have h5 := h.1.2.2.2.2.1
  have hT := h.1.2.2.2.2.2.2.1
  have hW := h.1.2.2.2.2.2.2.2.2.2.2.1
  have hm : 5 ≤ m ∧ m ≤ 20 := by rcases h.1.2.1 with rfl | rfl <;> omega
  refine ⟨h5, e_slotOf hW hv (fun b v e1 e2 hb hvv => ?_) (fun no => ?_)⟩
  · have hb3 := hv.2.2.2.2.1 b hb
    have hnb := hv.2.2.1
    have uni : ∀ b' v' : Nat, p1 = zI b' → p2 = zI v' → b' < gNb S → v' < gVo S b' → b' = b ∧ v' = v := fun b' v' e1' e2' hb' hvv' => by
      have hb3' := hv.2.2.2.2.1 b' hb'
      constructor
      · rw [e1, zI_eq (by omega) (by omega) (by omega) (by omega)] at e1'
        omega
      · rw [e2, zI_eq (by omega) (by omega) (by omega) (by omega)] at e2'
        omega
    rw [lz0, zI_le (by omega) (by omega) (by omega) (by omega)]
    refine ⟨fun _ => ⟨h5, e_isWhole hT hW hv hb hvv ?_⟩, fun q => by omega⟩
    by_cases g : slotL S (3 * b + v) = gLen S
    · rw [if_pos g]
      refine ⟨fun _ => ⟨h5, ?_⟩, fun z => absurd z (by decide +kernel)⟩
      have fin : ∀ (z : Int32) (M1 : Mem), sgz S (3 * b + v) z → (∀ k : Nat, (k < 35 ∨ 38 < k) → M1 k = M k) → R z M1 := by
        intro z M1 ez f1
        have f2 : fs M M1 := fun k hk => f1 k (by omega)
        refine hR _ _ (fz_fs f2) (x_signed (RS_fz h.2.1 (fz_fs f2)) h.2.2 (fun b' v' e1' e2' hb' hvv' gw z' ez' M2 f3 => ?_) (fun b' v' e1' e2' hb' hvv' gw => ?_) (fun no => (no b v e1 e2 hb hvv).elim))
        · obtain ⟨rfl, rfl⟩ := uni b' v' e1' e2' hb' hvv'
          have := sgz_uni ez ez'
          subst this
          exact hK _ _ (inv_of (CS_fs h.1 f2) (fl_fr f3) (RS_fr (RS_fz h.2.1 (fz_fs f2)) f3) h.2.2) (ke_of (fz_fs f2) (fl_fr f3))
        · obtain ⟨rfl, rfl⟩ := uni b' v' e1' e2' hb' hvv'
          exact absurd g gw
      refine e_needsSigns hT hW hv hm hb hvv (fun s M1 f1 z10 e10 => fin z10 M1 ?_ f1) (fun s M1 f1 z10 e10 => fin z10 M1 ?_ f1)
      · exact Or.inl ⟨s, e10⟩
      · exact Or.inr ⟨s, e10⟩
    · rw [if_neg g]
      refine ⟨fun z => absurd (by decide +kernel) z, fun _ => hR _ _ fz_rf (x_signed h.2.1 h.2.2 (fun b' v' e1' e2' hb' hvv' gw => ?_) (fun b' v' e1' e2' hb' hvv' gw => hK _ _ same ke_rf) (fun no => (no b v e1 e2 hb hvv).elim))⟩
      obtain ⟨rfl, rfl⟩ := uni b' v' e1' e2' hb' hvv'
      exact absurd gw g
  · refine ⟨fun q => absurd q (by decide), fun _ => hR _ _ fz_rf (x_signed h.2.1 h.2.2 (fun b v e1 e2 hb hvv => (no b v e1 e2 hb hvv).elim) (fun b v e1 e2 hb hvv => (no b v e1 e2 hb hvv).elim) (fun _ => hK _ _ same ke_rf))⟩
end Signed
