section Ref6
variable {M : Mem} {S : Mus} {c : Nat} {row : Nat → Int} {Q : Int32 → Mem → Prop}
/-- what a made or read music keeps to: no voice lasts too long, all but the last are whole; sizes; rests; order -/
def GV (S : Mus) : Prop :=
  (∀ b v : Nat, b < gNb S → v < gVo S b → slotL S (3 * b + v) ≤ gLen S) ∧
  (∀ b v : Nat, b < gNb S → v < gVo S b → ¬ (b = gNb S - 1 ∧ v = gVo S (gNb S - 1) - 1) → slotL S (3 * b + v) = gLen S) ∧
  (∀ i : Nat, i < gNi S → 0 ≤ gIt S i 5 ∧ (gIt S i 5 = 2 → gIt S i 2 = 0 ∧ gIt S i 4 = 0 ∧ gIt S i 6 = 0) ∧ (gIt S i 2 = 0 → gIt S i 7 = 0 ∧ gIt S i 9 = 0)) ∧
  ∀ i j : Nat, i < j → j < gNi S → gIt S i 0 < gIt S j 0 ∨ (gIt S i 0 = gIt S j 0 ∧ gIt S i 1 ≤ gIt S j 1)
theorem x_hand {a : Int} (h : RS M S c row) (ba : -2147483648 ≤ a ∧ a < 2147483648) (hg : GV S) (hR : (a < 0 ∨ 2 < a) → Q (-2) M) (hS : 0 ≤ a → a ≤ 2 → ¬ okHand S a → Q (-3) M) (hQ : 0 ≤ a → a ≤ 2 → okHand S a → ∀ M' : Mem, RS M' (sHd S a) c row → fl M M' → Q (zI (gHd S)) M') : w_X7_hand (zI a) M Q := by
  have hM := h.2.2.2.2.1
  have hv := h.2.2.2.2.2.2
  have hni := hv.2.2.2.1
  unfold w_X7_hand
  have c0 : zI a < 0 ↔ a < 0 := by rw [lz0, zI_lt (by omega) (by omega) (by omega) (by omega)]
  have c2 : zI a ≤ 2 ↔ a ≤ 2 := by rw [lz2, zI_le (by omega) (by omega) (by omega) (by omega)]
  rw [c0, c2]
  refine ⟨fun q => hR (Or.inl q), fun q1 => ⟨fun q2 => ⟨gNi S + 1, ?_⟩, fun q2 => hR (Or.inr (by omega))⟩⟩
  have ca : zI a = 2 ↔ a = 2 := by rw [lz2, zI_eq (by omega) (by omega) (by omega) (by omega)]
  have outer : ∀ (k i : Nat), i ≤ gNi S → gNi S - i < k → (∀ i2 k2 : Nat, i2 < i → (k2 : Int) < gIt S i2 9 → 7 ≤ (if a = 2 then gIt S i2 2 + gIt S i2 (10 + k2) % 16 - 1 else gIt S i2 2 - gIt S i2 (10 + k2) % 16 + 1) ∧ (if a = 2 then gIt S i2 2 + gIt S i2 (10 + k2) % 16 - 1 else gIt S i2 2 - gIt S i2 (10 + k2) % 16 + 1) ≤ 55) → w_X7_hand_14 Q k (zI a) (zI i) M := by
    intro k
    induction k with
    | zero => intro i g1 g2; omega
    | succ k ih =>
      intro i hi hk hdone
      show wb_X7_hand_14 Q (w_X7_hand_14 Q k) _ _ M
      unfold wb_X7_hand_14
      rw [tc0, hM.2.1, hM.2.2.1, zI_le (by omega) (by omega) (by omega) (by omega)]
      refine ⟨vi0, fun q => ⟨vi0, fun x3 e3 => ⟨vi0, fun M5 e5 => ?_⟩⟩, fun q => ?_⟩
      · subst e3 e5
        have far : ∀ k : Nat, k ≠ 55 → mset M 55 0 (zI a) k = M k := fun k g => mset_o g
        have hR2 : RM (mset M 55 0 (zI a)) 0 (sHd S a) := ⟨by rw [far _ (by omega)]; exact hM.1, by rw [far _ (by omega)]; exact hM.2.1, by rw [mset_at]; rfl, fun b hb => by rw [far _ (by omega), far _ (by omega)]; exact hM.2.2.2.1 b hb, fun i a hi ha => by rw [far _ (by omega)]; exact hM.2.2.2.2.1 i a hi ha, fun i k hi hk => by rw [far _ (by omega)]; exact hM.2.2.2.2.2 i k hi hk⟩
        obtain ⟨k1, k2⟩ := RS_mus h (fun k hk => far k (by omega)) hR2 rfl (MV_hd hv (by omega))
        exact hQ (by omega) q2 (fun i2 k2 g1 g2 => hdone i2 k2 (by omega) g2) _ k1 k2
      · have hi2 : i < gNi S := by omega
        have hw := hv.2.2.2.2.2.1 i hi2
        have hm4 := hw.2.2.2.2.2.2.2.2.2.1
        have hp := hw.2.2.1
        have e67 : M 67 i = zI (gIt S i 9) := RM0_at hM hi2 (a := 9) (by omega)
        have e60 : M 60 i = zI (rp (gIt S i 2)) := RM0_at hM hi2 (a := 2) (by omega)
        refine ⟨(gIt S i 9).toNat + 1, ?_⟩
        have inner : ∀ (q j : Nat), (j : Int) ≤ gIt S i 9 → (gIt S i 9).toNat - j < q → (∀ k2 : Nat, k2 < j → 7 ≤ (if a = 2 then gIt S i 2 + gIt S i (10 + k2) % 16 - 1 else gIt S i 2 - gIt S i (10 + k2) % 16 + 1) ∧ (if a = 2 then gIt S i 2 + gIt S i (10 + k2) % 16 - 1 else gIt S i 2 - gIt S i (10 + k2) % 16 + 1) ≤ 55) → w_X7_hand_26 Q (w_X7_hand_14 Q k) q (zI a) (zI i) (zI j) M := by
          intro q
          induction q with
          | zero => intro j g1 g2; omega
          | succ q ih2 =>
            intro j hj hq hd2
            show wb_X7_hand_26 Q (w_X7_hand_14 Q k) (w_X7_hand_26 Q (w_X7_hand_14 Q k) q) _ _ _ M
            unfold wb_X7_hand_26
            rw [zI_in (by omega) (by omega), zI_tn (a := (i : Int)) (by omega) (by omega), tn_nat, e67, e60, zI_le (by omega) (by omega) (by omega) (by omega), lz4, zI_mul, zI_add, zI_in (by omega) (by omega), zI_tn (a := 4 * (i : Int) + (j : Int)) (by omega) (by omega), show (4 * (i : Int) + (j : Int)).toNat = 4 * i + j by omega]
            simp only [ca]
            refine ⟨by omega, fun c2' x7 e7 => ?_, fun c2' => ⟨by omega, fun x9 e9 => ⟨⟨fun _ => ⟨by omega, trivial⟩, fun _ => ⟨by omega, trivial⟩⟩, fun z hz => ?_⟩⟩⟩
            · have e7' : x7 = zI ((i + 1 : Nat) : Int) := by rw [e7, lz1, zI_add]; congr 1
              subst e7'
              refine ih (i + 1) (by omega) (by omega) (fun i2 k2 g1 g2 => ?_)
              by_cases g : i2 = i
              · subst g; exact hd2 k2 (by omega)
              · exact hdone i2 k2 (by omega) g2
            · obtain ⟨n, s, en, n1, n2, s1, s2⟩ := hw.2.2.2.2.2.2.2.2.2.2 j (by omega)
              have hnote : ¬ gIt S i 2 = 0 := fun k0 => by
                have := ((hg.2.2.1 i hi2).2.2 k0).2
                omega
              have er : rp (gIt S i 2) = gIt S i 2 := if_neg hnote
              have e68 := hM.2.2.2.2.2 i j hi2 (by omega)
              rw [show 4 * (600 * 0 + i) + j = 4 * i + j by omega] at e68
              have hmod : gIt S i (10 + j) % 16 = n := by rw [en]; omega
              have ex9 : x9 = zI (n - 1) := by
                rw [e9, e68, lz16, lz1, zI_div (by omega) (by omega) (by omega) (by omega), zI_mul, zI_sub, zI_sub]
                congr 1
                omega
              rw [er, ex9, zI_add, zI_sub] at hz
              have ez : z = zI (if a = 2 then gIt S i 2 + n - 1 else gIt S i 2 - n + 1) := by
                rw [hz]
                by_cases g : a = 2
                · rw [if_pos g, if_pos g]; congr 1; omega
                · rw [if_neg g, if_neg g]; congr 1; omega
              have hp2 : -1000 ≤ (if a = 2 then gIt S i 2 + n - 1 else gIt S i 2 - n + 1) ∧ (if a = 2 then gIt S i 2 + n - 1 else gIt S i 2 - n + 1) ≤ 1000 := by
                by_cases g : a = 2
                · rw [if_pos g]; omega
                · rw [if_neg g]; omega
              have back : okHand S a → 7 ≤ (if a = 2 then gIt S i 2 + n - 1 else gIt S i 2 - n + 1) ∧ (if a = 2 then gIt S i 2 + n - 1 else gIt S i 2 - n + 1) ≤ 55 := fun ko => by
                have := ko i j hi2 (by omega)
                rw [hmod] at this
                exact this
              have fwd : 7 ≤ (if a = 2 then gIt S i 2 + n - 1 else gIt S i 2 - n + 1) ∧ (if a = 2 then gIt S i 2 + n - 1 else gIt S i 2 - n + 1) ≤ 55 → 7 ≤ (if a = 2 then gIt S i 2 + gIt S i (10 + j) % 16 - 1 else gIt S i 2 - gIt S i (10 + j) % 16 + 1) ∧ (if a = 2 then gIt S i 2 + gIt S i (10 + j) % 16 - 1 else gIt S i 2 - gIt S i (10 + j) % 16 + 1) ≤ 55 := fun kk => by rw [hmod]; exact kk
              generalize (if a = 2 then gIt S i 2 + n - 1 else gIt S i 2 - n + 1) = pp at ez hp2 back fwd
              subst ez
              have c7 : zI pp < 7 ↔ pp < 7 := by rw [lz7, zI_lt (by omega) (by omega) (by omega) (by omega)]
              have c5 : zI pp ≤ 55 ↔ pp ≤ 55 := by rw [lz55, zI_le (by omega) (by omega) (by omega) (by omega)]
              rw [c7, c5]
              refine ⟨fun q3 => hS (by omega) q2 (fun ko => by have := back ko; omega), fun q3 => ⟨fun q4 x13 e13 => ?_, fun q4 => hS (by omega) q2 (fun ko => by have := back ko; omega)⟩⟩
              have e13' : x13 = zI ((j + 1 : Nat) : Int) := by rw [e13, lz1, zI_add]; congr 1
              subst e13'
              refine ih2 (j + 1) (by omega) (by omega) (fun k2 g1 => ?_)
              by_cases g : k2 = j
              · subst g; exact fwd (by omega)
              · exact hd2 k2 (by omega)
        rw [lz0]
        exact inner _ 0 (by omega) (by omega) (fun k2 g => by omega)
  rw [lz0]
  exact outer _ 0 (by omega) (by omega) (fun i2 k2 g => by omega)
/-- items of a bar, out of all items -/
def barF (S : Mus) (b : Int) (i : Nat) : Int := if gIt S i 0 = b then 1 else 0
theorem barF_bd (a : Int) (i : Nat) : 0 ≤ barF S a i ∧ barF S a i ≤ 1 := by
  unfold barF
  by_cases g : gIt S i 0 = a
  · rw [if_pos g]; omega
  · rw [if_neg g]; omega
theorem sumF_addF (f g : Nat → Int) (a : Nat) : ∀ n : Nat, sumF (fun i => f i + g i) a n = sumF f a n + sumF g a n
  | 0 => rfl
  | n + 1 => by
    unfold sumF
    rw [sumF_addF f g a n]
    omega
theorem sumF_sumF (f : Nat → Nat → Int) (a : Nat) (n : Nat) : ∀ m : Nat, sumF (fun i => sumF (fun v => f v i) 0 m) a n = sumF (fun v => sumF (f v) a n) 0 m
  | 0 => sumF_zero n (fun _ _ => rfl)
  | m + 1 => by
    have := sumF_addF (fun i => sumF (fun v => f v i) 0 m) (fun i => f (0 + m) i) a n
    show sumF (fun i => sumF (fun v => f v i) 0 m + f (0 + m) i) a n = sumF (fun v => sumF (f v) a n) 0 m + sumF (f (0 + m)) a n
    rw [this, sumF_sumF f a n m]
theorem ind_sum {w : Int} : ∀ n : Nat, 0 ≤ w → sumF (fun v => if w = (v : Int) then (1 : Int) else 0) 0 n = if w < n then 1 else 0
  | 0, h => by
    rw [if_neg (by omega)]; rfl
  | n + 1, h => by
    show sumF _ 0 n + (if w = ((0 + n : Nat) : Int) then (1 : Int) else 0) = _
    rw [ind_sum n h, Nat.zero_add]
    by_cases g : w < (n : Int)
    · rw [if_pos g, if_neg (by omega), if_pos (by omega)]; rfl
    · rw [if_neg g]
      by_cases g2 : w = (n : Int)
      · rw [if_pos g2, if_pos (by omega)]; rfl
      · rw [if_neg g2, if_neg (by omega)]; rfl
theorem bar_sum {b : Nat} (hv : MV S) (hb : b < gNb S) : sumF (barF S b) 0 (gNi S) = barN S b := by
  have e : sumF (barF S b) 0 (gNi S) = sumF (fun i => sumF (fun v => selF S b v (fun _ => 1) i) 0 (gVo S b)) 0 (gNi S) := by
    refine sumF_congr _ (fun i hi => ?_)
    rw [Nat.zero_add]
    obtain ⟨w0, w1, -⟩ := hv.2.2.2.2.2.1 i hi
    unfold barF
    by_cases g : gIt S i 0 = b
    · have hb2 : (gIt S i 0).toNat = b := by omega
      rw [hb2] at w1
      rw [if_pos g]
      have : sumF (fun v => selF S b v (fun _ => 1) i) 0 (gVo S b) = sumF (fun v => if gIt S i 1 = (v : Int) then (1 : Int) else 0) 0 (gVo S b) := by
        refine sumF_congr _ (fun v hv2 => ?_)
        rw [Nat.zero_add]
        unfold selF
        by_cases g2 : gIt S i 1 = (v : Int)
        · rw [if_pos ⟨g, g2⟩, if_pos g2]
        · rw [if_neg (fun k => g2 k.2), if_neg g2]
      rw [this, ind_sum _ w1.1, if_pos w1.2]
    · rw [if_neg g]
      refine (sumF_zero _ (fun v hv2 => ?_)).symm
      unfold selF
      rw [if_neg (fun k => g k.1)]
  rw [e, sumF_sumF]
  unfold barN
  refine sumF_congr _ (fun v hv2 => ?_)
  rw [Nat.zero_add, sel_sum hv hb hv2, sumF_one]
theorem x_barOf (p2 : Int32) {a : Int} (h : RS M S c row) (hg : GV S) (ba : -2147483648 ≤ a ∧ a < 2147483648) (hN : (a < 0 ∨ (gNb S : Int) ≤ a) → Q (-1) M) (hR : 0 ≤ a → a < gNb S → ¬ p2 = 0 → ¬ p2 = 1 → ¬ p2 = 2 → Q (-2) M) (hQ0 : 0 ≤ a → a < gNb S → p2 = 0 → Q (zI (gVo S a.toNat)) M) (hQ1 : 0 ≤ a → a < gNb S → p2 = 1 → Q (if barN S a.toNat = 0 then -1 else zI (gFo S (3 * a.toNat))) M) (hQ2 : 0 ≤ a → a < gNb S → p2 = 2 → Q (zI (barN S a.toNat)) M) : w_X7_barOf (zI a) p2 M Q := by
  obtain ⟨w, rfl, w1, w2⟩ := zI_ex p2
  have hM := h.2.2.2.2.1
  have hv := h.2.2.2.2.2.2
  have hnb := hv.2.2.1
  have hni := hv.2.2.2.1
  have hlen := hv.1
  have ce : ∀ t : Int, 0 ≤ t → t ≤ 10 → (zI w = zI t ↔ w = t) := fun t _ _ => zI_eq (by omega) (by omega) (by omega) (by omega)
  have e0 : zI w = 0 ↔ w = 0 := by rw [lz0]; exact ce 0 (by omega) (by omega)
  have e1 : zI w = 1 ↔ w = 1 := by rw [lz1]; exact ce 1 (by omega) (by omega)
  have e2 : zI w = 2 ↔ w = 2 := by rw [lz2]; exact ce 2 (by omega) (by omega)
  rw [e0, e1, e2] at hR
  rw [e0] at hQ0
  rw [e1] at hQ1
  rw [e2] at hQ2
  unfold w_X7_barOf
  have c0 : zI a < 0 ↔ a < 0 := by rw [lz0, zI_lt (by omega) (by omega) (by omega) (by omega)]
  have d0 : zI w < 0 ↔ w < 0 := by rw [lz0, zI_lt (by omega) (by omega) (by omega) (by omega)]
  have d2 : zI w ≤ 2 ↔ w ≤ 2 := by rw [lz2, zI_le (by omega) (by omega) (by omega) (by omega)]
  rw [c0, tc0, hM.1, hM.2.1, zI_lt (by omega) (by omega) (by omega) (by omega), d0, d2]
  refine ⟨fun q => hN (Or.inl q), fun q1 => ⟨vi0, fun q2 => ⟨fun q3 => hR (by omega) q2 (by omega) (by omega) (by omega), fun q3 => ⟨fun q4 => ⟨vi0, fun x3 e3 => ?_⟩, fun q4 => hR (by omega) q2 (by omega) (by omega) (by omega)⟩⟩, fun q2 => hN (Or.inr (by omega))⟩⟩
  have hb : a.toNat < gNb S := by omega
  have hvo := hv.2.2.2.2.1 a.toNat hb
  have ea : ((a.toNat : Nat) : Int) = a := by omega
  have hsum := bar_sum hv hb
  rw [ea] at hsum
  -- counting down from place p: how many from p on, and the first of them
  have cntb : ∀ p n : Nat, p + n = gNi S → 0 ≤ sumF (barF S a) p n ∧ sumF (barF S a) p n ≤ n := fun p n _ => by
    have := sumF_le (f := barF S a) (a := p) (lo := 0) (hi := 1) n (fun j hj => by
      unfold barF
      by_cases g : gIt S (p + j) 0 = a
      · rw [if_pos g]; omega
      · rw [if_neg g]; omega)
    omega
  refine ⟨gNi S + 1, ?_⟩
  have key : ∀ (k p : Nat) (f : Int), p ≤ gNi S → p < k → (f = -1 ∧ (∀ i : Nat, p ≤ i → i < gNi S → ¬ gIt S i 0 = a) ∨ (∃ n : Nat, f = n ∧ p ≤ n ∧ n < gNi S ∧ gIt S n 0 = a ∧ ∀ i : Nat, p ≤ i → i < n → ¬ gIt S i 0 = a)) → w_X7_barOf_43 Q k (zI a) (zI w) (zI (sumF (barF S a) p (gNi S - p))) (zI f) (zI ((p : Int) - 1)) M := by
    intro k
    induction k with
    | zero => intro p f g1 g2; omega
    | succ k ih =>
      intro p f hp hk hf
      show wb_X7_barOf_43 Q (w_X7_barOf_43 Q k) _ _ _ _ _ M
      unfold wb_X7_barOf_43
      have cp : zI ((p : Int) - 1) < 0 ↔ p = 0 := by rw [lz0, zI_lt (by omega) (by omega) (by omega) (by omega)]; omega
      rw [cp]
      refine ⟨fun q => ?_, fun q => ?_⟩
      · subst q
        have hb57 := (hM.2.2.2.1 a.toNat hb).1
        rw [Nat.mul_zero, Nat.zero_add] at hb57
        rw [zI_in (by omega) (by omega), zI_tn (by omega) (by omega), hb57]
        simp only [e0, e1]
        refine ⟨⟨fun _ => ⟨fun _ => trivial, fun _ => trivial⟩, fun _ => ⟨by omega, trivial⟩⟩, fun z hz => ?_⟩
        rw [Nat.sub_zero, hsum] at hz
        by_cases k0 : w = 0
        · rw [if_pos k0] at hz; subst hz; exact hQ0 (by omega) q2 k0
        · rw [if_neg k0] at hz
          by_cases k1 : w = 1
          · rw [if_pos k1] at hz
            subst hz
            have := hQ1 (by omega) q2 k1
            rcases hf with ⟨rfl, hf⟩ | ⟨n, rfl, n1, n2, n3, n4⟩
            · have z0 : barN S a.toNat = 0 := by
                rw [← hsum]
                exact sumF_zero _ (fun j hj => if_neg (hf (0 + j) (by omega) (by omega)))
              rw [if_pos z0, lz1, zI_neg] at this
              exact this
            · have hne : ¬ barN S a.toNat = 0 := by
                intro z0
                rw [← hsum] at z0
                have e : gNi S = n + (1 + (gNi S - n - 1)) := by omega
                rw [e, sumF_add, sumF_add] at z0
                have p1 := sumF_le (f := barF S a) (a := 0) (lo := 0) (hi := 1) n (fun j hj => barF_bd a _)
                have p2 := sumF_le (f := barF S a) (a := 0 + n + 1) (lo := 0) (hi := 1) (gNi S - n - 1) (fun j hj => barF_bd a _)
                have p3 : sumF (barF S a) (0 + n) 1 = 1 := by
                  show 0 + barF S a (0 + n + 0) = 1
                  unfold barF
                  rw [show 0 + n + 0 = n by omega, if_pos n3]
                  rfl
                omega
              rw [if_neg hne] at this
              have hfirst : n = gFo S (3 * a.toNat) := by
                obtain ⟨wn0, wn1, -⟩ := hv.2.2.2.2.2.1 n n2
                have hbn : (gIt S n 0).toNat = a.toNat := by omega
                rw [hbn] at wn1
                have hv0 : 0 < gVo S a.toNat := by omega
                obtain ⟨r1, r2, r3⟩ := hv.2.2.2.2.2.2.1 a.toNat 0 hb hv0
                rw [Nat.add_zero] at r1 r2 r3
                by_cases g0 : gIt S n 1 = 0
                · have hin := (r3 n n2).mp ⟨by omega, by omega⟩
                  rcases Nat.lt_or_ge (gFo S (3 * a.toNat)) n with hlt | hge
                  · have := (r3 (gFo S (3 * a.toNat)) (by omega)).mpr ⟨Nat.le_refl _, by omega⟩
                    exact absurd (by omega) (n4 (gFo S (3 * a.toNat)) (by omega) hlt)
                  · omega
                · -- voice 0 is whole, so it has items, and they come first
                  have hnl : ¬ (a.toNat = gNb S - 1 ∧ 0 = gVo S (gNb S - 1) - 1) := by
                    intro k
                    rw [k.1] at wn1
                    omega
                  have hwh := hg.2.1 a.toNat 0 hb hv0 hnl
                  rw [Nat.add_zero] at hwh
                  have hsz : 0 < gSz S (3 * a.toNat) := by
                    rcases Nat.eq_zero_or_pos (gSz S (3 * a.toNat)) with e | e
                    · unfold slotL at hwh; rw [e] at hwh
                      have : sumF (lastG S) (gFo S (3 * a.toNat)) 0 = 0 := rfl
                      omega
                    · exact e
                  have hin := (r3 (gFo S (3 * a.toNat)) (by omega)).mpr ⟨Nat.le_refl _, by omega⟩
                  rcases Nat.lt_trichotomy (gFo S (3 * a.toNat)) n with hlt | heq | hgt
                  · exact absurd (by omega) (n4 (gFo S (3 * a.toNat)) (by omega) hlt)
                  · exact heq.symm
                  · have := hg.2.2.2 n (gFo S (3 * a.toNat)) hgt (by omega)
                    omega
              rw [← hfirst] at this
              exact this
          · rw [if_neg k1] at hz
            subst hz
            exact hQ2 (by omega) q2 (by omega)
      · have hi2 : p - 1 < gNi S := by omega
        obtain ⟨w0, -⟩ := hv.2.2.2.2.2.1 (p - 1) hi2
        have e58 : M 58 (p - 1) = zI (gIt S (p - 1) 0) := RM0_at hM hi2 (a := 0) (by omega)
        rw [zI_in (by omega) (by omega), zI_tn (by omega) (by omega), show ((p : Int) - 1).toNat = p - 1 by omega, e58, zI_eq (by omega) (by omega) (by omega) (by omega)]
        have step : sumF (barF S a) (p - 1) (gNi S - (p - 1)) = barF S a (p - 1) + sumF (barF S a) p (gNi S - p) := by
          rw [show gNi S - (p - 1) = 1 + (gNi S - p) by omega, sumF_add]
          have : sumF (barF S a) (p - 1) 1 = barF S a (p - 1) := by show 0 + barF S a (p - 1 + 0) = _; rw [Nat.add_zero]; omega
          rw [this, show p - 1 + 1 = p by omega]
        refine ⟨by omega, fun q5 x11 e11 => ?_, fun q5 x12 e12 x13 e13 => ?_⟩
        · have e11' : x11 = zI (((p - 1 : Nat) : Int) - 1) := by rw [e11, lz1, zI_neg, zI_add]; congr 1; omega
          subst e11'
          have z0 : barF S a (p - 1) = 0 := if_neg q5
          rw [z0, Int.zero_add] at step
          rw [← step]
          refine ih (p - 1) f (by omega) (by omega) ?_
          rcases hf with ⟨rfl, hf⟩ | ⟨n, rfl, n1, n2, n3, n4⟩
          · refine Or.inl ⟨rfl, fun i g1 g2 => ?_⟩
            by_cases gi : i = p - 1
            · rw [gi]; exact q5
            · exact hf i (by omega) g2
          · refine Or.inr ⟨n, rfl, by omega, n2, n3, fun i g1 g2 => ?_⟩
            by_cases gi : i = p - 1
            · rw [gi]; exact q5
            · exact n4 i (by omega) g2
        · have e13' : x13 = zI (((p - 1 : Nat) : Int) - 1) := by rw [e13, lz1, zI_neg, zI_add]; congr 1; omega
          have z1 : barF S a (p - 1) = 1 := if_pos q5
          have e12' : x12 = zI (sumF (barF S a) (p - 1) (gNi S - (p - 1))) := by rw [e12, lz1, zI_add, step, z1]; congr 1; omega
          subst e12' e13'
          rw [show (p : Int) - 1 = ((p - 1 : Nat) : Int) by omega]
          exact ih (p - 1) ((p - 1 : Nat) : Int) (by omega) (by omega) (Or.inr ⟨p - 1, rfl, by omega, hi2, q5, fun i g1 g2 => by omega⟩)
  have := key (gNi S + 1) (gNi S) (-1) (by omega) (by omega) (Or.inl ⟨rfl, fun i g1 g2 => by omega⟩)
  rw [Nat.sub_self] at this
  have s0 : sumF (barF S a) (gNi S) 0 = 0 := rfl
  rw [s0] at this
  rw [e3, lz0, lz1, zI_neg, zI_sub]
  exact this
end Ref6
