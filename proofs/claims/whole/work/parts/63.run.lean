section Run
variable {M0 M : Mem} {S : Mus} {r m : Nat} {mk sg : Nat → Int} {L : List Int} {st : Option Int} {Q : Int32 → Mem → Prop}
theorem bk_iff (i : Nat) : bkB S i = true ↔ (1 < gIt S (i + 1) 0 - gIt S i 0 ∨ (gIt S (i + 1) 0 = gIt S i 0 ∧ ¬ gIt S (i + 1) 1 = gIt S i 1)) := by
  unfold bkB
  exact decide_eq_true_iff
theorem brk_of {a i : Nat} : ∀ n : Nat, i < n → bkB S (a + i) = true → brk S a n = true
  | 0, h, _ => by omega
  | n + 1, h, hb => by
    show (brk S a n || bkB S (a + n)) = true
    rw [Bool.or_eq_true]
    by_cases g : i = n
    · subst g; exact Or.inr hb
    · exact Or.inl (brk_of n (by omega) hb)
theorem brk_no {a : Nat} : ∀ n : Nat, (∀ i : Nat, i < n → ¬ bkB S (a + i) = true) → ¬ brk S a n = true
  | 0, _ => by show ¬ false = true; decide
  | n + 1, h => by
    show ¬ (brk S a n || bkB S (a + n)) = true
    rw [Bool.or_eq_true]
    rintro (z | z)
    · exact brk_no n (fun i hi => h i (by omega)) z
    · exact h n (by omega) z
theorem e_isBroken {a b : Nat} (h5 : M 42 5 = nI m) (h : MW M m S) (hv : MV S) (hab : a ≤ b) (hb : b < gNi S) (h1 : brk S a (b - a) = true → Q 1 M) (h0 : ¬ brk S a (b - a) = true → Q 0 M) : w_X4_isBroken r m (zI a) (zI b) M Q := by
  have hni := hv.2.2.2.1
  have hnb := hv.2.2.1
  refine ⟨b - a + 1, ?_⟩
  have key : ∀ (k j : Nat), a ≤ j → j ≤ b → b - j < k → (∀ i : Nat, i < j - a → ¬ bkB S (a + i) = true) → w_X4_isBroken_2 r m Q k (zI a) (zI b) (zI j) M := by
    intro k
    induction k with
    | zero => intro j g0 g1 g2; omega
    | succ k ih =>
      intro j hj0 hj hk hno
      show wb_X4_isBroken_2 r m Q (w_X4_isBroken_2 r m Q k) _ _ _ M
      unfold wb_X4_isBroken_2
      rw [zI_le (by omega) (by omega) (by omega) (by omega)]
      refine ⟨fun q => h0 (brk_no _ (fun i hi => hno i (by omega))), fun q => ?_⟩
      have i0 : j < gNi S := by omega
      have i1 : j + 1 < gNi S := by omega
      have a0 : M (m + 4) j = zI (gIt S j 0) := MW_at h i0 (a := 0) (by omega)
      have a1 : M (m + 4) (j + 1) = zI (gIt S (j + 1) 0) := MW_at h i1 (a := 0) (by omega)
      have b0 : M (m + 5) j = zI (gIt S j 1) := MW_at h i0 (a := 1) (by omega)
      have b1 : M (m + 5) (j + 1) = zI (gIt S (j + 1) 1) := MW_at h i1 (a := 1) (by omega)
      obtain ⟨w0, w1, -⟩ := hv.2.2.2.2.2.1 _ i0
      obtain ⟨w0', w1', -⟩ := hv.2.2.2.2.2.1 _ i1
      have g3 : gVo S (gIt S j 0).toNat ≤ 3 := hv.2.2.2.2.1 _ (by omega)
      have g3' : gVo S (gIt S (j + 1) 0).toNat ≤ 3 := hv.2.2.2.2.1 _ (by omega)
      have nx : zI (j : Int) + 1 = zI ((j + 1 : Nat) : Int) := by rw [lz1, zI_add]; rfl
      have hB := bk_iff (S := S) j
      have go : ¬ bkB S j = true → w_X4_isBroken_2 r m Q k (zI a) (zI b) (zI ((j + 1 : Nat) : Int)) M := fun hn => ih (j + 1) (by omega) (by omega) (by omega) (fun i hi => by
        by_cases g : i = j - a
        · subst g; rw [show a + (j - a) = j by omega]; exact hn
        · exact hno i (by omega))
      have stop : bkB S j = true → Q 1 M := fun hn => h1 (brk_of (i := j - a) _ (by omega) (by rw [show a + (j - a) = j by omega]; exact hn))
      rw [nx, zI_in (by omega) (by omega), zI_in (by omega) (by omega), zI_tn (by omega) (by omega), zI_tn (by omega) (by omega), tn_nat, tn_nat, a0, a1, b0, b1, zI_sub, zI_eq (by omega) (by omega) (by omega) (by omega)]
      refine ⟨h5, by omega, h5, by omega, fun x5 e5 => ?_⟩
      subst e5
      have k1 : (1 : Int32) < zI (gIt S (j + 1) 0 - gIt S j 0) ↔ 1 < gIt S (j + 1) 0 - gIt S j 0 := by rw [lz1, zI_lt (by omega) (by omega) (by omega) (by omega)]
      have k2 : zI (gIt S (j + 1) 0 - gIt S j 0) = 0 ↔ gIt S (j + 1) 0 = gIt S j 0 := by rw [lz0, zI_eq (by omega) (by omega) (by omega) (by omega)]; omega
      rw [k1, k2]
      refine ⟨fun g => stop (hB.mpr (Or.inl g)), fun g => ⟨fun g2 x6 e6 => ?_, fun g2 => ⟨h5, by omega, h5, by omega, fun g4 x11 e11 => ?_, fun g4 => stop (hB.mpr (Or.inr ⟨g2, g4⟩))⟩⟩⟩
      · subst e6
        exact go (fun z => by rcases hB.mp z with z | z; exact g z; exact g2 z.1)
      · subst e11
        exact go (fun z => by rcases hB.mp z with z | z; exact g z; exact z.2 g4)
  exact key _ a (Nat.le_refl _) hab (by omega) (fun i hi => by omega)
theorem e_markRow {a b : Nat} (h5 : M 42 5 = nI m) (h : MW M m S) (hv : MV S) (hab : a ≤ b) (hb : b < gNi S) (hN : (b - a < 4 ∨ brk S a (b - a) = true) → Q 0 M) (hY : ¬ (b - a < 4 ∨ brk S a (b - a) = true) → ∀ M' : Mem, (∀ k : Nat, k ≠ 44 → M' k = M k) → (∀ j : Nat, M' 44 j = if j = b then zI 3 else if j = a then zI 2 else if a ≤ j ∧ j < b then zI 0 else M 44 j) → Q 0 M') : w_X4_markRow r m (zI a) (zI b) M Q := by
  have hni := hv.2.2.2.1
  unfold w_X4_markRow
  rw [zI_sub, lz1, zI_add, lz5, zI_lt (by omega) (by omega) (by omega) (by omega)]
  refine ⟨fun q => hN (Or.inl (by omega)), fun q => e_isBroken h5 h hv hab hb (fun g => ⟨fun z => absurd z (by decide), fun _ => hN (Or.inr g)⟩) (fun g => ⟨fun _ => ⟨b - a + 1, ?_⟩, fun z => absurd rfl z⟩)⟩
  have key : ∀ (k j : Nat) (Mx : Mem), a ≤ j → j ≤ b → b - j < k → (∀ k : Nat, k ≠ 44 → Mx k = M k) → (∀ i : Nat, Mx 44 i = if a ≤ i ∧ i < j then zI 0 else M 44 i) → w_X4_markRow_21 r m Q k (zI a) (zI b) (zI j) Mx := by
    intro k
    induction k with
    | zero => intro j Mx g0 g1 g2; omega
    | succ k ih =>
      intro j Mx hj0 hj hk f1 f2
      show wb_X4_markRow_21 r m Q (w_X4_markRow_21 r m Q k) _ _ _ Mx
      unfold wb_X4_markRow_21
      rw [zI_le (by omega) (by omega) (by omega) (by omega), zI_in (by omega) (by omega), zI_in (by omega) (by omega), zI_in (by omega) (by omega), zI_tn (by omega) (by omega), zI_tn (by omega) (by omega), zI_tn (by omega) (by omega), tn_nat, tn_nat, tn_nat]
      refine ⟨fun q2 => ⟨by omega, fun M4 e4 => ⟨by omega, fun M6 e6 => ?_⟩⟩, fun q2 => ⟨by omega, fun M8 e8 x9 e9 => ?_⟩⟩
      · refine hY (fun z => by rcases z with z | z; omega; exact g z) M6 (fun k hk => by rw [e6, mset_o hk, e4, mset_o hk]; exact f1 k hk) (fun i => ?_)
        by_cases g1 : i = b
        · subst g1; rw [if_pos rfl, e6, mset_at]; rfl
        · rw [if_neg g1, e6, mset_j g1]
          by_cases g2 : i = a
          · subst g2; rw [if_pos rfl, e4, mset_at]; rfl
          · rw [if_neg g2, e4, mset_j g2, f2 i]
            have : j = b := by omega
            rw [this]
      · have e9' : x9 = zI ((j + 1 : Nat) : Int) := by rw [e9, lz1, zI_add]; rfl
        subst e9'
        refine ih (j + 1) M8 (by omega) (by omega) (by omega) (fun k hk => by rw [e8, mset_o hk]; exact f1 k hk) (fun i => ?_)
        by_cases g1 : i = j
        · subst g1; rw [e8, mset_at, if_pos (by omega)]; rfl
        · rw [e8, mset_j g1, f2 i]
          by_cases g2 : a ≤ i ∧ i < j
          · rw [if_pos g2, if_pos (by omega)]
          · rw [if_neg g2, if_neg (by omega)]
  exact key _ a M (Nat.le_refl _) hab (by omega) (fun _ _ => rfl) (fun i => by rw [if_neg (by omega)])
theorem e_markSlurs (hm : 5 ≤ m ∧ m ≤ 20) (h5 : M 42 5 = nI m) (h : MW M m S) (hv : MV S) (hQ : ∀ M' : Mem, (∀ k : Nat, k ≠ 44 → M' k = M k) → (∀ j : Nat, j < gNi S → M' 44 j = zI ((msS S (gNi S)).2 j)) → Q 0 M') : w_X4_markSlurs r m M Q := by
  have hni := hv.2.2.2.1
  refine ⟨gNi S + 1, ?_⟩
  have key : ∀ (k i : Nat) (Mx : Mem), i ≤ gNi S → gNi S - i < k → (∀ k : Nat, k ≠ 44 → Mx k = M k) → (∀ j : Nat, j < i → Mx 44 j = zI ((msS S i).2 j)) → w_X4_markSlurs_4 r m Q k (zI ((msS S i).1 : Nat)) (zI i) Mx := by
    intro k
    induction k with
    | zero => intro i Mx g1 g2; omega
    | succ k ih =>
      intro i Mx hi hk f1 f2
      have hW : MW Mx m S := MW_far h (fun k g1 g2 => f1 k (by omega))
      have h5x : Mx 42 5 = nI m := by rw [f1 42 (by omega)]; exact h5
      show wb_X4_markSlurs_4 r m Q (w_X4_markSlurs_4 r m Q k) _ _ Mx
      unfold wb_X4_markSlurs_4
      rw [hW.2.2.2.1, zI_le (by omega) (by omega) (by omega) (by omega)]
      refine ⟨h5x, fun q => ?_, fun q => ⟨h5x, ?_⟩⟩
      · have : i = gNi S := by omega
        subst this
        exact hQ Mx f1 f2
      · have hi2 : i < gNi S := by omega
        obtain ⟨-, -, -, -, -, -, -, -, w8, -⟩ := hv.2.2.2.2.2.1 i hi2
        have e12 : Mx (m + 12) i = zI (gIt S i 8) := MW_at hW hi2 (a := 8) (by omega)
        have hle := ms_le S i
        rw [zI_in (by omega) (by omega), zI_tn (by omega) (by omega), tn_nat, e12]
        have k1 : zI (gIt S i 8) = 1 ↔ gIt S i 8 = 1 := by rw [lz1, zI_eq (by omega) (by omega) (by omega) (by omega)]
        have k0 : zI (gIt S i 8) = 0 ↔ gIt S i 8 = 0 := by rw [lz0, zI_eq (by omega) (by omega) (by omega) (by omega)]
        simp only [k1]
        refine ⟨by omega, fun z4 e4 => ⟨by omega, fun M6 e6 => ?_⟩⟩
        have f6 : ∀ k : Nat, k ≠ 44 → M6 k = M k := fun k hk => by rw [e6, mset_o hk]; exact f1 k hk
        have h6 : M6 (m + 12) i = zI (gIt S i 8) := by rw [e6, mset_o (by omega)]; exact e12
        have h56 : M6 42 5 = nI m := by rw [f6 42 (by omega)]; exact h5
        rw [h6, k0]
        have nx : zI (i : Int) + 1 = zI ((i + 1 : Nat) : Int) := by rw [lz1, zI_add]; rfl
        have em : msS S (i + 1) = if gIt S i 8 = 0 then (i + 1, if i - (msS S i).1 < 4 ∨ brk S (msS S i).1 (i - (msS S i).1) = true then (fun j => if j = i then 0 else (msS S i).2 j) else (fun j => if j = i then 3 else if j = (msS S i).1 then 2 else if (msS S i).1 ≤ j ∧ j < i then 0 else (msS S i).2 j)) else ((msS S i).1, fun j => if j = i then 1 else (msS S i).2 j) := rfl
        refine ⟨h56, by omega, fun g x9 e9 => ?_, fun g => ?_⟩
        · rw [e9, nx]
          rw [if_neg g] at em
          rw [if_pos (by omega)] at e4
          have := ih (i + 1) M6 (by omega) (by omega) f6 (fun j hj => by
            rw [em]
            show M6 44 j = zI (if j = i then 1 else (msS S i).2 j)
            by_cases g2 : j = i
            · subst g2; rw [if_pos rfl, e6, mset_at, e4]; rfl
            · rw [if_neg g2, e6, mset_j g2]; exact f2 j (by omega))
          rw [em] at this
          exact this
        · rw [if_pos g] at em
          rw [if_neg (by omega)] at e4
          have v6 : ∀ j : Nat, j < i + 1 → M6 44 j = zI (if j = i then 0 else (msS S i).2 j) := fun j hj => by
            by_cases g2 : j = i
            · subst g2; rw [if_pos rfl, e6, mset_at, e4]; rfl
            · rw [if_neg g2, e6, mset_j g2]; exact f2 j (by omega)
          refine e_markRow h56 (MW_far h (fun k g1 g2 => f6 k (by omega))) hv hle hi2 (fun g2 x12 e12' x13 e13 => ?_) (fun g2 M11 q1 q2 x12 e12' x13 e13 => ?_)
          · rw [e12', e13, nx]
            rw [if_pos g2] at em
            have := ih (i + 1) M6 (by omega) (by omega) f6 (fun j hj => by rw [em]; exact v6 j hj)
            rw [em] at this
            exact this
          · rw [e12', e13, nx]
            rw [if_neg g2] at em
            have := ih (i + 1) M11 (by omega) (by omega) (fun k hk => by rw [q1 k hk]; exact f6 k hk) (fun j hj => by
              rw [em, q2 j]
              show _ = zI (if j = i then 3 else if j = (msS S i).1 then 2 else if (msS S i).1 ≤ j ∧ j < i then 0 else (msS S i).2 j)
              by_cases c1 : j = i
              · rw [if_pos c1, if_pos c1]
              · rw [if_neg c1, if_neg c1]
                by_cases c2 : j = (msS S i).1
                · rw [if_pos c2, if_pos c2]
                · rw [if_neg c2, if_neg c2]
                  by_cases c3 : (msS S i).1 ≤ j ∧ j < i
                  · rw [if_pos c3, if_pos c3]
                  · rw [if_neg c3, if_neg c3, v6 j hj, if_neg c1])
            rw [em] at this
            exact this
  exact key _ 0 M (by omega) (by omega) (fun _ _ => rfl) (fun j hj => by omega)
def SG (S : Mus) (sg : Nat → Int) : Prop := ∀ s : Nat, (sgn S s ∧ sg s = 1) ∨ (¬ sgn S s ∧ sg s = 0)
theorem SG_ex (S : Mus) : ∃ sg : Nat → Int, SG S sg := ⟨fun s => @ite _ (sgn S s) (Classical.propDecidable _) 1 0, fun s => by
  rcases Classical.em (sgn S s) with g | g
  · exact Or.inl ⟨g, if_pos g⟩
  · exact Or.inr ⟨g, if_neg g⟩⟩
theorem e_markSigns (hG : SG S sg) (hm : 5 ≤ m ∧ m ≤ 20) (h5 : M 42 5 = nI m) (hT : TB M) (h : MW M m S) (hv : MV S) (hQ : ∀ M' : Mem, (∀ k : Nat, k ≠ 45 → (k < 35 ∨ 38 < k) → M' k = M k) → (∀ b v : Nat, b < gNb S → v < gVo S b → M' 45 (3 * b + v) = zI (sg (3 * b + v))) → Q 0 M') : w_X4_markSigns r m M Q := by
  have hnb := hv.2.2.1
  refine ⟨gNb S + 1, ?_⟩
  have inner : ∀ (B2 : Int32 → Mem → Prop) (b : Nat), b < gNb S → ∀ (k v : Nat) (Mx : Mem), v ≤ gVo S b → gVo S b - v < k → (∀ k : Nat, k ≠ 45 → (k < 35 ∨ 38 < k) → Mx k = M k) → (∀ b' v' : Nat, b' ≤ b → v' < gVo S b' → (b' < b ∨ v' < v) → Mx 45 (3 * b' + v') = zI (sg (3 * b' + v'))) → (∀ My : Mem, (∀ k : Nat, k ≠ 45 → (k < 35 ∨ 38 < k) → My k = M k) → (∀ b' v' : Nat, b' ≤ b → v' < gVo S b' → My 45 (3 * b' + v') = zI (sg (3 * b' + v'))) → B2 (zI ((b + 1 : Nat) : Int)) My) → w_X4_markSigns_15 r m Q B2 k (zI b) (zI v) Mx := by
    intro B2 b hb k
    have hb3 := hv.2.2.2.2.1 b hb
    induction k with
    | zero => intro v Mx g1 g2; omega
    | succ k ih =>
      intro v Mx hv2 hk f1 f2 hB
      have hW : MW Mx m S := MW_far h (fun k g1 g2 => f1 k (by omega) (by omega))
      have h5x : Mx 42 5 = nI m := by rw [f1 42 (by omega) (by omega)]; exact h5
      have hTx : TB Mx := TB_of hT (fun k hk => f1 k (by omega) (by omega))
      have e1 : Mx (m + 1) b = zI (gVo S b) := hW.2.2.2.2.1 b hb
      show wb_X4_markSigns_15 r m Q B2 (w_X4_markSigns_15 r m Q B2 k) _ _ Mx
      unfold wb_X4_markSigns_15
      rw [zI_in (by omega) (by omega), zI_tn (by omega) (by omega), tn_nat, e1, zI_le (by omega) (by omega) (by omega) (by omega)]
      refine ⟨h5x, by omega, fun q x4 e4 => ?_, fun q x5 e5 => ⟨h5x, ?_⟩⟩
      · have e4' : x4 = zI ((b + 1 : Nat) : Int) := by rw [e4, lz1, zI_add]; rfl
        subst e4'
        exact hB Mx f1 (fun b' v' g1 g2 => f2 b' v' g1 g2 (by
          rcases Nat.lt_or_ge b' b with z | z
          · exact Or.inl z
          · have : b' = b := by omega
            subst this
            exact Or.inr (by omega)))
      · have e5' : x5 = zI ((3 * b + v : Nat) : Int) := by rw [e5, lz3, zI_mul, zI_add]; congr 1; omega
        subst e5'
        rw [zI_in (by omega) (by omega), zI_tn (by omega) (by omega), tn_nat]
        have fin : ∀ (z : Int32) (My : Mem), (z = 0 ∨ z = 1) → z = zI (sg (3 * b + v)) → (∀ k : Nat, (k < 35 ∨ 38 < k) → My k = Mx k) → (0 ≤ ((3 * b + v : Nat) : Int) ∧ ((3 * b + v : Nat) : Int) < ((180 : Nat) : Int)) ∧ ((z = 0 ∨ z = 1) ∧ (∀ M11 : Mem, M11 = (mset My 45 (3 * b + v) z) → ∀ x12 : Int32, x12 = zI (v : Int) + 1 → w_X4_markSigns_15 r m Q B2 k (zI b) x12 M11)) := by
          intro z My hz ez fy
          refine ⟨by omega, hz, fun M11 e11 x12 e12 => ?_⟩
          have e12' : x12 = zI ((v + 1 : Nat) : Int) := by rw [e12, lz1, zI_add]; rfl
          subst e12'
          refine ih (v + 1) M11 (by omega) (by omega) (fun k g1 g2 => by rw [e11, mset_o g1, fy k g2]; exact f1 k g1 g2) (fun b' v' g1 g2 g3 => ?_) hB
          have hb3' := hv.2.2.2.2.1 b' (by omega)
          by_cases g : 3 * b' + v' = 3 * b + v
          · rw [g, e11, mset_at, ez]
          · rw [e11, mset_j g, fy 45 (by omega)]
            exact f2 b' v' g1 g2 (by omega)
        refine e_needsSigns hTx hW hv hm hb (by omega) (fun g My fy => fin 1 My (Or.inr rfl) ?_ fy) (fun g My fy => fin 0 My (Or.inl rfl) ?_ fy)
        · rcases hG (3 * b + v) with z | z
          · rw [z.2, lz1]
          · exact absurd g z.1
        · rcases hG (3 * b + v) with z | z
          · exact absurd z.1 g
          · rw [z.2, lz0]
  have key : ∀ (k b : Nat) (Mx : Mem), b ≤ gNb S → gNb S - b < k → (∀ k : Nat, k ≠ 45 → (k < 35 ∨ 38 < k) → Mx k = M k) → (∀ b' v' : Nat, b' < b → v' < gVo S b' → Mx 45 (3 * b' + v') = zI (sg (3 * b' + v'))) → w_X4_markSigns_2 r m Q k (zI b) Mx := by
    intro k
    induction k with
    | zero => intro b Mx g1 g2; omega
    | succ k ih =>
      intro b Mx hb hk f1 f2
      have hW : MW Mx m S := MW_far h (fun k g1 g2 => f1 k (by omega) (by omega))
      have h5x : Mx 42 5 = nI m := by rw [f1 42 (by omega) (by omega)]; exact h5
      show wb_X4_markSigns_2 r m Q (w_X4_markSigns_2 r m Q k) _ Mx
      unfold wb_X4_markSigns_2
      rw [hW.2.2.1, zI_le (by omega) (by omega) (by omega) (by omega)]
      refine ⟨h5x, fun q => hQ Mx f1 (fun b' v' g1 g2 => f2 b' v' (by omega) g2), fun q => ⟨gVo S b + 1, ?_⟩⟩
      exact inner (w_X4_markSigns_2 r m Q k) b (by omega) _ 0 Mx (by omega) (by omega) f1 (fun b' v' g1 g2 g3 => f2 b' v' (by omega) g2) (fun My q1 q2 => ih (b + 1) My (by omega) (by omega) q1 (fun b' v' g1 g2 => q2 b' v' (by omega) g2))
  exact key _ 0 M (by omega) (by omega) (fun _ _ _ => rfl) (fun b' v' g => by omega)
end Run
