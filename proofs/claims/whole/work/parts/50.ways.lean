/-- the class's own scratch places -/
def fs (M M' : Mem) : Prop := ∀ k : Nat, (k < 35 ∨ 45 < k) → M' k = M k
theorem fs_rf {M : Mem} : fs M M := fun _ _ => rfl
theorem fs_tr {M M1 M2 : Mem} (h1 : fs M M1) (h2 : fs M1 M2) : fs M M2 := fun k hk => (h2 k hk).trans (h1 k hk)
theorem fz_fs {M M1 : Mem} (h1 : fs M M1) : fz M M1 := fun k hk => h1 k (by omega)
/-- the reference's own scratch places -/
def fr (M M' : Mem) : Prop := ∀ k : Nat, (k < 69 ∨ 77 < k) → M' k = M k
theorem fr_rf {M : Mem} : fr M M := fun _ _ => rfl
theorem fr_tr {M M1 M2 : Mem} (h1 : fr M M1) (h2 : fr M1 M2) : fr M M2 := fun k hk => (h2 k hk).trans (h1 k hk)
theorem fl_fr {M M1 : Mem} (h1 : fr M M1) : fl M M1 := fun k hk => h1 k (by omega)
section Ways
variable {M : Mem} {S : Mus} {c r m : Nat} {row : Nat → Int} {Q : Int32 → Mem → Prop}
theorem CS_fs {M' : Mem} (h : CS M S c row r m) (hf : fs M M') : CS M' S c row r m := by
  obtain ⟨h1, h2, h3, h4, h5, h6, h7, h8, h9, h10, h11, h12⟩ := h
  have m5 : 5 ≤ m ∧ m ≤ 20 := by rcases h2 with rfl | rfl <;> omega
  have r4 : r ≤ 3 ∧ 1 ≤ r := by rcases h1 with rfl | rfl <;> omega
  have e0 := hf 0 (by omega)
  exact ⟨h1, h2, by rw [e0]; exact h3, by rw [e0]; exact h4, by rw [e0]; exact h5, by rw [e0]; exact h6, TB_of h7 (fun k hk => hf k (by omega)), by rw [hf r (by omega)]; exact h8, h9, fun j hj => by rw [hf (r + 1) (by omega)]; exact h10 j hj, MW_far h11 (fun k g1 g2 => hf k (by omega)), h12⟩
theorem RS_fr {M' : Mem} (h : RS M S c row) (hf : fr M M') : RS M' S c row := by
  obtain ⟨k1, k2, k3, k4, k5, k6, k7⟩ := h
  refine ⟨by rw [hf 46 (by omega)]; exact k1, k2, by rw [hf 46 (by omega)]; exact k3, fun j hj => by rw [hf 52 (by omega)]; exact k4 j hj, ⟨by rw [hf _ (by omega)]; exact k5.1, by rw [hf _ (by omega)]; exact k5.2.1, by rw [hf _ (by omega)]; exact k5.2.2.1, fun b hb => by rw [hf _ (by omega), hf _ (by omega)]; exact k5.2.2.2.1 b hb, fun i a hi ha => by rw [hf _ (by omega)]; exact k5.2.2.2.2.1 i a hi ha, fun i k hi hk => by rw [hf _ (by omega)]; exact k5.2.2.2.2.2 i k hi hk⟩, ?_, k7⟩
  unfold RT at k6 ⊢
  rw [hf 47 (by omega), hf 48 (by omega), hf 49 (by omega), hf 50 (by omega), hf 51 (by omega)]
  exact k6
/-- an item's length if it is small -/
def sml (S : Mus) (i : Nat) : Int := lenI (gIt S i 4) 1 (gIt S i 6)
theorem sml_pos {i : Nat} (hv : MV S) (hi : i < gNi S) : 4 ≤ sml S i ∧ sml S i ≤ 56 := by
  obtain ⟨-, -, -, -, w4, -, w6, -⟩ := hv.2.2.2.2.2.1 i hi
  unfold sml lenI
  have hk : gIt S i 4 = 0 ∨ gIt S i 4 = 1 ∨ gIt S i 4 = 2 ∨ gIt S i 4 = 3 := by omega
  have hd : gIt S i 6 = 0 ∨ gIt S i 6 = 1 ∨ gIt S i 6 = 2 := by omega
  rcases hk with e | e | e | e <;> rcases hd with g | g | g <;> rw [e, g] <;> decide
theorem lenI_large (k d : Int) : lenI k 0 d = 16 * lenI k 1 d := by
  unfold lenI
  rw [if_pos rfl, if_neg (by omega)]
  omega
/-- ways to reach t -/
def cw (f : Nat → Int) : Nat → Int → Int
  | 0, t => if t = 0 then 1 else 0
  | n + 1, t => cw f n t + cw f n (t - f n)
def rw' (f : Nat → Int) : Nat → Int → Int
  | 0, t => if t = 0 then 1 else 0
  | n + 1, t => rw' f n (t - 16 * f n) + rw' f n (t - f n)
def m2 (x : Int) : Int := if x < 2 then x else 2
theorem m2_add {a b : Int} (ha : 0 ≤ a) (hb : 0 ≤ b) : m2 (m2 a + m2 b) = m2 (a + b) := by
  unfold m2
  repeat' split
  all_goals omega
theorem m2_bd {a : Int} (ha : 0 ≤ a) : 0 ≤ m2 a ∧ m2 a ≤ 2 := by
  unfold m2
  split <;> omega
theorem cw_nn (f : Nat → Int) : ∀ (n : Nat) (t : Int), 0 ≤ cw f n t
  | 0, t => by unfold cw; split <;> omega
  | n + 1, t => by
    have h1 := cw_nn f n t
    have h2 := cw_nn f n (t - f n)
    unfold cw
    omega
theorem rw_nn (f : Nat → Int) : ∀ (n : Nat) (t : Int), 0 ≤ rw' f n t
  | 0, t => by unfold rw'; split <;> omega
  | n + 1, t => by
    have h1 := rw_nn f n (t - 16 * f n)
    have h2 := rw_nn f n (t - f n)
    unfold rw'
    omega
theorem cw_neg {f : Nat → Int} : ∀ (n : Nat) (t : Int), (∀ j : Nat, j < n → 0 ≤ f j) → t < 0 → cw f n t = 0
  | 0, t, _, ht => by unfold cw; rw [if_neg (by omega)]
  | n + 1, t, hf, ht => by
    have := hf n (by omega)
    unfold cw
    rw [cw_neg n t (fun j hj => hf j (by omega)) ht, cw_neg n _ (fun j hj => hf j (by omega)) (by omega)]
    rfl
theorem rw_neg {f : Nat → Int} : ∀ (n : Nat) (t : Int), (∀ j : Nat, j < n → 0 ≤ f j) → t < 0 → rw' f n t = 0
  | 0, t, _, ht => by unfold rw'; rw [if_neg (by omega)]
  | n + 1, t, hf, ht => by
    have := hf n (by omega)
    unfold rw'
    rw [rw_neg n _ (fun j hj => hf j (by omega)) (by omega), rw_neg n _ (fun j hj => hf j (by omega)) (by omega)]
    rfl
theorem rw_cw (f : Nat → Int) : ∀ (n : Nat) (t : Int), rw' f n (sumF f 0 n + 15 * t) = cw f n t
  | 0, t => by
    unfold rw' cw sumF
    by_cases h : t = 0
    · rw [if_pos h, if_pos (by omega)]
    · rw [if_neg h, if_neg (by omega)]
  | n + 1, t => by
    unfold rw' cw sumF
    rw [← rw_cw f n t, ← rw_cw f n (t - f n), Nat.zero_add, show sumF f 0 n + f n + 15 * t - 16 * f n = sumF f 0 n + 15 * (t - f n) by omega, show sumF f 0 n + f n + 15 * t - f n = sumF f 0 n + 15 * t by omega]
    omega
theorem rw_zero (f : Nat → Int) : ∀ (n : Nat) (k : Int), ¬ (k - sumF f 0 n) % 15 = 0 → rw' f n k = 0
  | 0, k, h => by
    unfold rw'
    unfold sumF at h
    rw [if_neg (by omega)]
  | n + 1, k, h => by
    unfold rw'
    unfold sumF at h
    rw [Nat.zero_add] at h
    rw [rw_zero f n _ (by omega), rw_zero f n _ (by omega)]
    rfl
theorem sumF_shift (f : Nat → Int) (a : Nat) : ∀ n : Nat, sumF (fun j => f (a + j)) 0 n = sumF f a n
  | 0 => rfl
  | n + 1 => by
    unfold sumF
    rw [sumF_shift f a n, Nat.zero_add]
theorem sumF_s (f : Nat → Int) (a n : Nat) : sumF f a (n + 1) = sumF f a n + f (a + n) := rfl
/-- what must be added, by fifteens -/
def exS (x : Int) : Int := if x < 0 ∨ ¬ x % 15 = 0 then -1 else x / 15
theorem e_load {f0 n : Nat} {len : Int} (hT : TB M) (h : MW M m S) (hv : MV S) (hm : 5 ≤ m ∧ m ≤ 20) (hn : n ≤ 40) (hf : f0 + n ≤ gNi S) (hl : -200000 ≤ len ∧ len ≤ 2048) (hQ : ∀ M' : Mem, (∀ k : Nat, k ≠ 35 → k ≠ 37 → M' k = M k) → M' 35 2 = zI n → (∀ j : Nat, j < n → M' 37 j = zI (sml S (f0 + j))) → Q (zI (exS (len - sumF (sml S) f0 n))) M') : w_X5_load m (zI f0) (zI n) (zI len) M Q := by
  have hni := hv.2.2.2.1
  have sb : ∀ j : Nat, j ≤ n → 0 ≤ sumF (sml S) f0 j ∧ sumF (sml S) f0 j ≤ 56 * j := fun j hj => by
    have := sumF_le (f := sml S) (a := f0) (lo := 0) (hi := 56) j (fun i hi => by have := sml_pos hv (i := f0 + i) (by omega); omega)
    omega
  unfold w_X5_load
  intro M1 e1
  have e2 : (if (40 : Int32) < zI n then (40 : Int32) else zI n) = zI n := by
    rw [if_neg]
    rw [lz40, zI_lt (by omega) (by omega) (by omega) (by omega)]
    omega
  rw [e2] at e1
  refine ⟨n + 1, ?_⟩
  have key : ∀ (k j : Nat) (M1 : Mem), j ≤ n → n - j < k → (∀ k : Nat, k ≠ 35 → k ≠ 37 → M1 k = M k) → M1 35 2 = zI n → (∀ i : Nat, i < j → M1 37 i = zI (sml S (f0 + i))) → w_X5_load_17 m Q k (zI f0) (zI n) (zI len) (zI (len - sumF (sml S) f0 j)) (zI j) M1 := by
    intro k
    induction k with
    | zero => intro j M1 g1 g2; omega
    | succ k ih =>
      intro j M1 hj hk hfr hc hs
      have sbj := sb j hj
      show wb_X5_load_17 m Q (w_X5_load_17 m Q k) _ _ _ _ _ M1
      unfold wb_X5_load_17
      rw [hc, zI_le (by omega) (by omega) (by omega) (by omega)]
      refine ⟨fun q => ?_, fun q => ?_⟩
      · have : j = n := by omega
        subst this
        intro z2 ez2 z3 ez3
        have := hQ M1 hfr hc hs
        have hx : -300000 ≤ len - sumF (sml S) f0 j ∧ len - sumF (sml S) f0 j ≤ 2048 := by omega
        generalize len - sumF (sml S) f0 j = x at *
        have c1 : zI x < 0 ↔ x < 0 := by rw [lz0, zI_lt (by omega) (by omega) (by omega) (by omega)]
        by_cases g : x < 0
        · rw [if_pos (c1.mpr g)] at ez2
          rw [ez2, if_pos rfl] at ez3
          unfold exS at this
          rw [if_pos (Or.inl g), ← ln1] at this
          rw [ez3]
          exact this
        · rw [if_neg (fun q => g (c1.mp q)), lz15, zI_div (by omega) (by omega) (by omega) (by omega), zI_mul, zI_sub] at ez2
          have c2 : zI (x - x / 15 * 15) = 0 ↔ x % 15 = 0 := by rw [lz0, zI_eq (by omega) (by omega) (by omega) (by omega)]; omega
          have c3 : ¬ (137 : Int32) ≤ zI (x / 15) := by rw [lz137, zI_le (by omega) (by omega) (by omega) (by omega)]; omega
          rw [if_neg c3] at ez2
          rw [lz15, zI_div (by omega) (by omega) (by omega) (by omega)] at ez3
          unfold exS at this
          by_cases g2 : x % 15 = 0
          · rw [if_pos (c2.mpr g2)] at ez2
            rw [ez2, if_neg (by decide)] at ez3
            rw [if_neg (by omega)] at this
            rw [ez3]
            exact this
          · rw [if_neg (fun q => g2 (c2.mp q))] at ez2
            rw [ez2, if_pos rfl] at ez3
            rw [if_pos (Or.inr g2), ← ln1] at this
            rw [ez3]
            exact this
      · have hi : f0 + j < gNi S := by omega
        obtain ⟨-, -, -, -, w4, -, w6, -⟩ := hv.2.2.2.2.2.1 _ hi
        have e8 : M (m + 8) (f0 + j) = zI (gIt S (f0 + j) 4) := MW_at h hi (a := 4) (by omega)
        have e10 : M (m + 10) (f0 + j) = zI (gIt S (f0 + j) 6) := MW_at h hi (a := 6) (by omega)
        have sp := sml_pos hv hi
        rw [zI_add, zI_in (by omega) (by omega), zI_tn (by omega) (by omega), show ((f0 : Int) + (j : Int)).toNat = f0 + j by omega, hfr (m + 8) (by omega) (by omega), hfr (m + 10) (by omega) (by omega), e8, e10, zI_in (by omega) (by omega), zI_tn (by omega) (by omega), tn_nat]
        refine ⟨by omega, by omega, ?_⟩
        rw [lz1]
        refine e_len (TB_of hT (fun k hk => hfr k (by omega) (by omega))) w4 (by omega) w6 ⟨by omega, fun M11 e11 => ⟨by omega, fun x13 e13 x14 e14 => ?_⟩⟩
        have hs1 : M11 37 j = zI (sml S (f0 + j)) := by rw [e11, mset_at]; rfl
        rw [hs1, zI_sub] at e13
        have e14' : x14 = zI ((j + 1 : Nat) : Int) := by rw [e14, zI_add]; rfl
        have e13' : x13 = zI (len - sumF (sml S) f0 (j + 1)) := by
          rw [e13]
          congr 1
          rw [sumF_s]
          omega
        subst e13' e14'
        refine ih (j + 1) M11 (by omega) (by omega) (fun k g1 g2 => by rw [e11, mset_o g2]; exact hfr k g1 g2) (by rw [e11, mset_o (by omega)]; exact hc) (fun i hi2 => ?_)
        by_cases g : i = j
        · subst g; exact hs1
        · rw [e11, mset_j g]; exact hs i (by omega)
  have := key (n + 1) 0 M1 (by omega) (by omega) (fun k g1 g2 => by rw [e1, mset_o g1]) (by rw [e1, mset_at]) (fun i hi => by omega)
  rw [show len - sumF (sml S) f0 0 = len by unfold sumF; omega] at this
  exact this
theorem exS_bd {x : Int} (hx : x ≤ 2048) : -1 ≤ exS x ∧ exS x ≤ 136 := by
  unfold exS
  split <;> omega
/-- how many ways, 2 for more -/
def waysV (S : Mus) (s : Nat) : Int := if 0 < gSz S s ∧ gIt S (gFo S s) 5 = 2 then 1 else m2 (rw' (fun j => sml S (gFo S s + j)) (gSz S s) (gLen S))
theorem waysV_exS {s : Nat} (hf : ∀ j : Nat, j < gSz S s → 0 ≤ sml S (gFo S s + j)) : rw' (fun j => sml S (gFo S s + j)) (gSz S s) (gLen S) = if exS (gLen S - sumF (sml S) (gFo S s) (gSz S s)) < 0 then 0 else cw (fun j => sml S (gFo S s + j)) (gSz S s) (exS (gLen S - sumF (sml S) (gFo S s) (gSz S s))) := by
  have e := sumF_shift (sml S) (gFo S s) (gSz S s)
  rw [← e]
  generalize hx : gLen S - sumF (fun j => sml S (gFo S s + j)) 0 (gSz S s) = x
  unfold exS
  by_cases g : x < 0 ∨ ¬ x % 15 = 0
  · rw [if_pos g, if_pos (by omega)]
    by_cases g2 : x % 15 = 0
    · have := rw_cw (fun j => sml S (gFo S s + j)) (gSz S s) (x / 15)
      rw [show sumF (fun j => sml S (gFo S s + j)) 0 (gSz S s) + 15 * (x / 15) = gLen S by omega] at this
      rw [this]
      exact cw_neg _ _ hf (by omega)
    · exact rw_zero _ _ _ (by rw [hx]; exact g2)
  · rw [if_neg g, if_neg (by omega)]
    have := rw_cw (fun j => sml S (gFo S s + j)) (gSz S s) (x / 15)
    rw [show sumF (fun j => sml S (gFo S s + j)) 0 (gSz S s) + 15 * (x / 15) = gLen S by omega] at this
    exact this
theorem e_countWays {b v : Nat} (h : CS M S c row r m) (hb : b < gNb S) (hvv : v < gVo S b) (hQ : ∀ M' : Mem, fs M M' → Q (zI (waysV S (3 * b + v))) M') : w_X5_countWays m (zI ((3 * b + v : Nat) : Int)) M Q := by
  have hv := h.2.2.2.2.2.2.2.2.2.2.2
  have hW := h.2.2.2.2.2.2.2.2.2.2.1
  have hT := h.2.2.2.2.2.2.1
  have hm : 5 ≤ m ∧ m ≤ 20 := by rcases h.2.1 with rfl | rfl <;> omega
  obtain ⟨hs1, hs2⟩ := hW.2.2.2.2.2.1 b v hb hvv
  obtain ⟨hr1, hr2, hr3⟩ := hv.2.2.2.2.2.2.1 b v hb hvv
  have hb3 := hv.2.2.2.2.1 b hb
  have hnb := hv.2.2.1
  have hni := hv.2.2.2.1
  have hlen := hv.1
  have hf : ∀ j : Nat, j < gSz S (3 * b + v) → 4 ≤ sml S (gFo S (3 * b + v) + j) ∧ sml S (gFo S (3 * b + v) + j) ≤ 56 := fun j hj => sml_pos hv (by omega)
  have hex := waysV_exS (S := S) (s := 3 * b + v) (fun j hj => by have := hf j hj; omega)
  have hW0 : waysV S (3 * b + v) = if 0 < gSz S (3 * b + v) ∧ gIt S (gFo S (3 * b + v)) 5 = 2 then 1 else m2 (rw' (fun j => sml S (gFo S (3 * b + v) + j)) (gSz S (3 * b + v)) (gLen S)) := rfl
  rw [hW0, hex] at hQ
  unfold w_X5_countWays
  rw [zI_in (by omega) (by omega), zI_tn (by omega) (by omega), tn_nat, hs1, hs2]
  generalize gFo S (3 * b + v) = f0 at *
  generalize gSz S (3 * b + v) = n at *
  generalize hsu : exS (gLen S - sumF (sml S) f0 n) = su at *
  have hsb : -1 ≤ su ∧ su ≤ 136 := by
    rw [← hsu]
    refine exS_bd ?_
    have := sumF_le (f := sml S) (a := f0) (lo := 0) (hi := 56) n (fun i hi => by have := hf i hi; omega)
    omega
  have main : ¬ (0 < n ∧ gIt S f0 5 = 2) → w_X5_countWays_32 m Q (zI ((3 * b + v : Nat) : Int)) (zI f0) (zI n) M := by
    intro hno
    rw [if_neg hno] at hQ
    unfold w_X5_countWays_32
    rw [hW.1]
    refine e_load hT hW hv hm hr2 hr1 (by omega) (fun M1 hfr hc hs => ?_)
    rw [hsu]
    have c0 : (0 : Int32) ≤ zI su ↔ 0 ≤ su := by rw [lz0, zI_le (by omega) (by omega) (by omega) (by omega)]
    rw [c0]
    refine ⟨fun q => ?_, fun q => ?_⟩
    · have hn0 : n = 0 → cw (fun j => sml S (f0 + j)) n su = cw (fun j => sml S (f0 + j)) n su := fun _ => rfl
      rw [if_neg (by omega)] at hQ
      have inner : ∀ (k i s : Nat) (Mx : Mem) (B : Int32 → Int32 → Int32 → Int32 → Int32 → Mem → Prop), i < n → (s : Int) - 1 ≤ su → s < k → (∀ k : Nat, k ≠ 35 → k ≠ 37 → k ≠ 39 → Mx k = M k) → Mx 35 2 = zI n → (∀ j : Nat, j < n → Mx 37 j = zI (sml S (f0 + j))) → (∀ t : Nat, (t : Int) ≤ su → Mx 39 t = zI (m2 (cw (fun j => sml S (f0 + j)) (if t < s then i else i + 1) t))) → (∀ My : Mem, (∀ k : Nat, k ≠ 35 → k ≠ 37 → k ≠ 39 → My k = M k) → My 35 2 = zI n → (∀ j : Nat, j < n → My 37 j = zI (sml S (f0 + j))) → (∀ t : Nat, (t : Int) ≤ su → My 39 t = zI (m2 (cw (fun j => sml S (f0 + j)) (i + 1) t))) → B (zI ((3 * b + v : Nat) : Int)) (zI f0) (zI n) (zI su) (zI ((i + 1 : Nat) : Int)) My) → w_X5_countWays_102 m Q B k (zI ((3 * b + v : Nat) : Int)) (zI f0) (zI n) (zI su) (zI i) (zI ((s : Int) - 1)) Mx := by
        intro k
        induction k with
        | zero => intro i s Mx B g1 g2 g3; omega
        | succ k ih =>
          intro i s Mx B hi hsu2 hk f1 f2 f3 f4 hB
          have hfi := hf i hi
          have cd : ∀ t : Nat, (t : Int) ≤ su → m2 (cw (fun j => sml S (f0 + j)) (if t < s then i else i + 1) t) = m2 (cw (fun j => sml S (f0 + j)) (if t < s then i else i + 1) t) := fun _ _ => rfl
          show wb_X5_countWays_102 m Q B (w_X5_countWays_102 m Q B k) _ _ _ _ _ _ Mx
          unfold wb_X5_countWays_102
          rw [zI_in (by omega) (by omega), zI_tn (a := (i : Int)) (by omega) (by omega), tn_nat, f3 i hi, zI_lt (by omega) (by omega) (by omega) (by omega)]
          refine ⟨by omega, fun q1 x9 e9 => ?_, fun q1 => ?_⟩
          · have e9' : x9 = zI ((i + 1 : Nat) : Int) := by rw [e9, lz1, zI_add]; rfl
            subst e9'
            refine hB Mx f1 f2 f3 (fun t ht => ?_)
            rw [f4 t ht]
            by_cases g : t < s
            · rw [if_pos g]
              congr 2
              show _ = cw (fun j => sml S (f0 + j)) i t + cw (fun j => sml S (f0 + j)) i (t - sml S (f0 + i))
              rw [cw_neg i ((t : Int) - sml S (f0 + i)) (fun j hj => by have := hf j (by omega); show 0 ≤ sml S (f0 + j); omega) (by omega)]
              omega
            · rw [if_neg g]
          · have hs1 : 1 ≤ s := by omega
            rw [zI_sub, zI_in (by omega) (by omega), zI_tn (a := (s : Int) - 1) (by omega) (by omega), zI_in (by omega) (by omega), zI_tn (by omega) (by omega)]
            refine ⟨by omega, by omega, by omega, by omega, fun M14 e14 x15 e15 => ?_⟩
            have t1 : ((s : Int) - 1).toNat = s - 1 := by omega
            have t2 : ((s : Int) - 1 - sml S (f0 + i)).toNat < s - 1 := by omega
            have t3 : ((((s : Int) - 1 - sml S (f0 + i)).toNat : Nat) : Int) = (s : Int) - 1 - sml S (f0 + i) := by omega
            have v1 := f4 (s - 1) (by omega)
            have v2 := f4 ((s : Int) - 1 - sml S (f0 + i)).toNat (by omega)
            rw [if_pos (by omega)] at v1
            rw [if_pos (by omega), t3] at v2
            have e15' : x15 = zI (((s - 1 : Nat) : Int) - 1) := by rw [e15, ln1, zI_add]; congr 1; omega
            rw [t1, v1, v2] at e14
            have b1 := m2_bd (cw_nn (fun j => sml S (f0 + j)) i ((s - 1 : Nat) : Int))
            have b2 := m2_bd (cw_nn (fun j => sml S (f0 + j)) i ((s : Int) - 1 - sml S (f0 + i)))
            have e16 : (if zI (m2 (cw (fun j => sml S (f0 + j)) i ((s - 1 : Nat) : Int))) + zI (m2 (cw (fun j => sml S (f0 + j)) i ((s : Int) - 1 - sml S (f0 + i)))) < 2 then zI (m2 (cw (fun j => sml S (f0 + j)) i ((s - 1 : Nat) : Int))) + zI (m2 (cw (fun j => sml S (f0 + j)) i ((s : Int) - 1 - sml S (f0 + i)))) else 2) = zI (m2 (cw (fun j => sml S (f0 + j)) (i + 1) ((s - 1 : Nat) : Int))) := by
              rw [zI_add, show cw (fun j => sml S (f0 + j)) (i + 1) ((s - 1 : Nat) : Int) = cw (fun j => sml S (f0 + j)) i ((s - 1 : Nat) : Int) + cw (fun j => sml S (f0 + j)) i (((s - 1 : Nat) : Int) - sml S (f0 + i)) from rfl, ← m2_add (cw_nn _ _ _) (cw_nn _ _ _), show (((s - 1 : Nat) : Int) - sml S (f0 + i)) = (s : Int) - 1 - sml S (f0 + i) by omega]
              generalize m2 (cw (fun j => sml S (f0 + j)) i ((s - 1 : Nat) : Int)) = a1 at *
              generalize m2 (cw (fun j => sml S (f0 + j)) i ((s : Int) - 1 - sml S (f0 + i))) = a2 at *
              have c1 : zI (a1 + a2) < 2 ↔ a1 + a2 < 2 := by rw [lz2, zI_lt (by omega) (by omega) (by omega) (by omega)]
              simp only [c1]
              unfold m2
              by_cases g : a1 + a2 < 2
              · rw [if_pos g, if_pos g]
              · rw [if_neg g, if_neg g]; rfl
            rw [e16] at e14
            subst e15'
            refine ih i (s - 1) M14 B hi (by omega) (by omega) (fun k g1 g2 g3 => by rw [e14, mset_o g3]; exact f1 k g1 g2 g3) (by rw [e14, mset_o (by omega)]; exact f2) (fun j hj => by rw [e14, mset_o (by omega)]; exact f3 j hj) (fun t ht => ?_) hB
            by_cases g : t = s - 1
            · subst g
              rw [e14, mset_at, if_neg (by omega)]
            · rw [e14, mset_j g, f4 t ht]
              by_cases g2 : t < s
              · rw [if_pos g2, if_pos (by omega)]
              · rw [if_neg g2, if_neg (by omega)]
      have outer : ∀ (k i : Nat) (Mx : Mem), i ≤ n → n - i < k → (∀ k : Nat, k ≠ 35 → k ≠ 37 → k ≠ 39 → Mx k = M k) → Mx 35 2 = zI n → (∀ j : Nat, j < n → Mx 37 j = zI (sml S (f0 + j))) → (∀ t : Nat, (t : Int) ≤ su → Mx 39 t = zI (m2 (cw (fun j => sml S (f0 + j)) i t))) → w_X5_countWays_89 m Q k (zI ((3 * b + v : Nat) : Int)) (zI f0) (zI n) (zI su) (zI i) Mx := by
        intro k
        induction k with
        | zero => intro i Mx g1 g2; omega
        | succ k ih =>
          intro i Mx hi hk f1 f2 f3 f4
          show wb_X5_countWays_89 m Q (w_X5_countWays_89 m Q k) _ _ _ _ _ Mx
          unfold wb_X5_countWays_89
          rw [f2, zI_le (by omega) (by omega) (by omega) (by omega), zI_in (by omega) (by omega), zI_tn (by omega) (by omega), f4 su.toNat (by omega)]
          refine ⟨fun q1 => ⟨by omega, ?_⟩, fun q1 => ⟨(su + 1).toNat + 1, ?_⟩⟩
          · have : i = n := by omega
            subst this
            rw [show ((su.toNat : Nat) : Int) = su by omega]
            exact hQ Mx (fun k hk => f1 k (by omega) (by omega) (by omega))
          · have := inner ((su + 1).toNat + 1) i (su + 1).toNat Mx (w_X5_countWays_89 m Q k) (by omega) (by omega) (by omega) f1 f2 f3 (fun t ht => by rw [f4 t ht, if_pos (by omega)]) (fun My g1 g2 g3 g4 => ih (i + 1) My (by omega) (by omega) g1 g2 g3 g4)
            rw [show (((su + 1).toNat : Nat) : Int) - 1 = su by omega] at this
            exact this
      have start : ∀ (k s : Nat) (Mx : Mem), (s : Int) ≤ su + 1 → (su + 1).toNat - s < k → (∀ k : Nat, k ≠ 35 → k ≠ 37 → k ≠ 39 → Mx k = M k) → Mx 35 2 = zI n → (∀ j : Nat, j < n → Mx 37 j = zI (sml S (f0 + j))) → (∀ t : Nat, t < s → Mx 39 t = zI (m2 (cw (fun j => sml S (f0 + j)) 0 t))) → w_X5_countWays_56 m Q k (zI ((3 * b + v : Nat) : Int)) (zI f0) (zI n) (zI su) (zI s) Mx := by
        intro k
        induction k with
        | zero => intro s Mx g1 g2; omega
        | succ k ih =>
          intro s Mx hs2 hk f1 f2 f3 f4
          show wb_X5_countWays_56 m Q (w_X5_countWays_56 m Q k) _ _ _ _ _ Mx
          unfold wb_X5_countWays_56
          rw [zI_lt (by omega) (by omega) (by omega) (by omega), zI_in (by omega) (by omega), zI_tn (by omega) (by omega), tn_nat]
          refine ⟨fun q1 => ⟨n + 1, ?_⟩, fun q1 z16 e16 => ⟨by omega, fun M18 e18 x19 e19 => ?_⟩⟩
          · exact outer (n + 1) 0 Mx (by omega) (by omega) f1 f2 f3 (fun t ht => f4 t (by omega))
          · have e19' : x19 = zI ((s + 1 : Nat) : Int) := by rw [e19, lz1, zI_add]; rfl
            subst e19'
            have e16' : z16 = zI (m2 (cw (fun j => sml S (f0 + j)) 0 s)) := by
              rw [e16]
              have c1 : zI (s : Int) = 0 ↔ (s : Int) = 0 := by rw [lz0, zI_eq (by omega) (by omega) (by omega) (by omega)]
              unfold cw
              by_cases g : (s : Int) = 0
              · rw [if_pos (c1.mpr g), if_pos g]; rfl
              · rw [if_neg (fun q => g (c1.mp q)), if_neg g]; rfl
            rw [e16'] at e18
            refine ih (s + 1) M18 (by omega) (by omega) (fun k g1 g2 g3 => by rw [e18, mset_o g3]; exact f1 k g1 g2 g3) (by rw [e18, mset_o (by omega)]; exact f2) (fun j hj => by rw [e18, mset_o (by omega)]; exact f3 j hj) (fun t ht => ?_)
            by_cases g : t = s
            · subst g; rw [e18, mset_at]
            · rw [e18, mset_j g]; exact f4 t (by omega)
      exact ⟨(su + 1).toNat + 1, start _ 0 M1 (by omega) (by omega) (fun k g1 g2 _ => hfr k g1 g2) hc hs (fun t ht => by omega)⟩
    · rw [if_pos (by omega)] at hQ
      exact hQ M1 (fun k hk => hfr k (by omega) (by omega))
  have cn : zI (n : Int) ≤ 0 ↔ n = 0 := by rw [lz0, zI_le (by omega) (by omega) (by omega) (by omega)]; omega
  refine ⟨by omega, fun x2 e2 => ⟨by omega, fun x4 e4 => ?_⟩⟩
  subst e2 e4
  rw [cn]
  refine ⟨fun q => main (by omega), fun q => ?_⟩
  have hi : f0 < gNi S := by omega
  have e9 : M (m + 9) f0 = zI (gIt S f0 5) := MW_at hW hi (a := 5) (by omega)
  obtain ⟨-, -, -, -, -, w5, -⟩ := hv.2.2.2.2.2.1 f0 hi
  rw [zI_in (by omega) (by omega), zI_tn (by omega) (by omega), tn_nat, e9, lz2, zI_eq (by omega) (by omega) (by omega) (by omega)]
  refine ⟨by omega, fun q2 => main (fun z => q2 z.2), fun q2 => ?_⟩
  rw [if_pos ⟨by omega, q2⟩] at hQ
  exact hQ M fs_rf
end Ways
