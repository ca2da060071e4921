/-! THE REFERENCE: bank o (0 the music, 1 what is being read) holds S -/
def rp (x : Int) : Int := if x = 0 then -1 else x
def rat (f : Nat → Int) (a : Nat) : Int := if a = 2 then rp (f 2) else f a
def RM (M : Mem) (o : Nat) (S : Mus) : Prop :=
  M 53 o = zI (gNb S) ∧ M 54 o = zI (gNi S) ∧ M 55 o = zI (gHd S) ∧ (∀ b : Nat, b < gNb S → M 57 (60 * o + b) = zI (gVo S b) ∧ M 56 (60 * o + b) = zI (if gVo S b = 0 then 1 else 0)) ∧
  (∀ i a : Nat, i < gNi S → a < 10 → M (58 + a) (600 * o + i) = zI (rat (gIt S i) a)) ∧ ∀ i k : Nat, i < gNi S → (k : Int) < gIt S i 9 → M 68 (4 * (600 * o + i) + k) = zI (gIt S i (10 + k))
/-- the reference's own tables -/
def RT (M : Mem) : Prop := (∀ j : Nat, j < 7 → M 47 j = zI ([25, 17, 11, 27, 19, 10, 26].getD j 0)) ∧ (∀ j : Nat, j < 4 → M 48 j = zI ([36, 4, 32, 0].getD j 0)) ∧ (∀ j : Nat, j < 4 → M 49 j = zI ([13, 37, 39, 45].getD j 0)) ∧ (∀ j : Nat, j < 7 → M 50 j = zI ([8, 24, 56, 16, 40, 48, 32].getD j 0)) ∧ ∀ j : Nat, j < 7 → M 51 j = zI ([12, 44, 60, 20, 52, 18, 36].getD j 0)
def RS (M : Mem) (S : Mus) (c : Nat) (row : Nat → Int) : Prop := M 46 6 = zI c ∧ c ≤ 4000 ∧ M 46 7 = zI (gLen S) ∧ (∀ j : Nat, j < c → M 52 j = zI (row j)) ∧ RM M 0 S ∧ RT M ∧ MV S
/-- only the reference's places change -/
def fl (M M' : Mem) : Prop := ∀ k : Nat, (k < 46 ∨ 78 ≤ k) → M' k = M k
theorem RS_fz {M M' : Mem} {S : Mus} {c : Nat} {row : Nat → Int} (h : RS M S c row) (hf : fz M M') : RS M' S c row := by
  unfold RS RM RT at h ⊢
  have e : ∀ k : Nat, 46 ≤ k → M' k = M k := hf
  simp only [e 46 (by omega), e 47 (by omega), e 48 (by omega), e 49 (by omega), e 50 (by omega), e 51 (by omega), e 52 (by omega), e 53 (by omega), e 54 (by omega), e 55 (by omega), e 56 (by omega), e 57 (by omega), e 68 (by omega)]
  refine ⟨h.1, h.2.1, h.2.2.1, h.2.2.2.1, ⟨h.2.2.2.2.1.1, h.2.2.2.2.1.2.1, h.2.2.2.2.1.2.2.1, h.2.2.2.2.1.2.2.2.1, fun i a hi ha => by rw [e _ (by omega)]; exact h.2.2.2.2.1.2.2.2.2.1 i a hi ha, h.2.2.2.2.1.2.2.2.2.2⟩, h.2.2.2.2.2⟩
theorem CS_fl {M M' : Mem} {S : Mus} {c r m : Nat} {row : Nat → Int} (h : CS M S c row r m) (hf : fl M M') : CS M' S c row r m := by
  obtain ⟨h1, h2, h3, h4, h5, h6, h7, h8, h9, h10, h11, h12⟩ := h
  have m5 : 5 ≤ m ∧ m ≤ 20 := by rcases h2 with rfl | rfl <;> omega
  have r4 : r ≤ 3 ∧ 1 ≤ r := by rcases h1 with rfl | rfl <;> omega
  have e0 := hf 0 (by omega)
  exact ⟨h1, h2, by rw [e0]; exact h3, by rw [e0]; exact h4, by rw [e0]; exact h5, by rw [e0]; exact h6, TB_of h7 (fun k hk => hf k (by omega)), by rw [hf r (by omega)]; exact h8, h9, fun j hj => by rw [hf (r + 1) (by omega)]; exact h10 j hj, MW_far h11 (fun k g1 g2 => hf k (by omega)), h12⟩
theorem tc0 : Int32.toNatClampNeg 0 = 0 := rfl
theorem tc1 : Int32.toNatClampNeg 1 = 1 := rfl
theorem vi0 : vp_in 0 2 := vin rfl
theorem vi1 : vp_in 1 2 := vin rfl
section Ref
variable {M : Mem} {S : Mus} {c : Nat} {row : Nat → Int} {Q : Int32 → Mem → Prop}
theorem RM_at {o i a : Nat} (h : RM M o S) (hi : i < gNi S) (ha : a < 10) : M (58 + a) (600 * o + i) = zI (rat (gIt S i) a) := h.2.2.2.2.1 i a hi ha
theorem x_lasts {k s d : Int} (hk : 0 ≤ k ∧ k ≤ 3) (hs : -1000 ≤ s ∧ s ≤ 1000) (hd : 0 ≤ d ∧ d ≤ 2) (hQ : Q (zI (lenI k s d)) M) : w_X7_lasts (zI k) (zI s) (zI d) M Q := by
  unfold w_X7_lasts
  intro z1 e1 z2 e2 z3 e3
  have cs : zI s = 0 ↔ s = 0 := by rw [lz0, zI_eq (by omega) (by omega) (by omega) (by omega)]
  simp only [cs] at e1
  have hk4 : k = 0 ∨ k = 1 ∨ k = 2 ∨ k = 3 := by omega
  have hd3 : d = 0 ∨ d = 1 ∨ d = 2 := by omega
  have key : z1 + z2 + z3 = zI (lenI k s d) := by
    by_cases g : s = 0
    · rw [if_pos g] at e1
      subst g
      rcases hk4 with rfl | rfl | rfl | rfl <;> rcases hd3 with rfl | rfl | rfl <;> (rw [e3, e2, e1]; decide +kernel)
    · rw [if_neg g] at e1
      have hl : lenI k s d = lenI k 1 d := by unfold lenI; rw [if_neg g, if_neg (by omega)]
      rw [hl]
      rcases hk4 with rfl | rfl | rfl | rfl <;> rcases hd3 with rfl | rfl | rfl <;> (rw [e3, e2, e1]; decide +kernel)
  rw [key]
  exact hQ
theorem x_lastsOf {o i : Nat} (ho : o < 2) (h : RM M o S) (hl : M 46 7 = zI (gLen S)) (hv : MV S) (hi : i < gNi S) (hQ : Q (zI (lastG S i)) M) : w_X7_lastsOf (zI ((600 * o + i : Nat) : Int)) M Q := by
  have hw := hv.2.2.2.2.2.1 i hi
  have hn := hv.2.2.2.1
  have e4 : M 62 (600 * o + i) = zI (gIt S i 4) := RM_at h hi (a := 4) (by omega)
  have e5 : M 63 (600 * o + i) = zI (gIt S i 5) := RM_at h hi (a := 5) (by omega)
  have e6 : M 64 (600 * o + i) = zI (gIt S i 6) := RM_at h hi (a := 6) (by omega)
  obtain ⟨-, -, -, -, w4, w5, w6, -⟩ := hw
  unfold w_X7_lastsOf
  rw [zI_in (by omega) (by omega), zI_tn (by omega) (by omega), tn_nat, e4, e5, e6, hl, lz2, zI_eq (by omega) (by omega) (by omega) (by omega)]
  unfold lastG at hQ
  refine ⟨by omega, fun q => ⟨by omega, by omega, by omega, x_lasts w4 (by omega) w6 ?_⟩, fun q => ?_⟩
  · rw [if_neg q] at hQ; exact hQ
  · rw [if_pos q] at hQ; exact hQ
/-- a sum over the items of one voice, out of all items -/
def selF (S : Mus) (b v : Int) (f : Nat → Int) (i : Nat) : Int := if gIt S i 0 = b ∧ gIt S i 1 = v then f i else 0
theorem sumF_add (f : Nat → Int) (a p : Nat) : ∀ q : Nat, sumF f a (p + q) = sumF f a p + sumF f (a + p) q
  | 0 => by simp [sumF]
  | q + 1 => by
    show sumF f a (p + q) + f (a + (p + q)) = sumF f a p + (sumF f (a + p) q + f (a + p + q))
    rw [sumF_add f a p q, Nat.add_assoc a p q]
    omega
theorem sumF_congr {f g : Nat → Int} {a : Nat} : ∀ n : Nat, (∀ j : Nat, j < n → f (a + j) = g (a + j)) → sumF f a n = sumF g a n
  | 0, _ => rfl
  | n + 1, h => by
    unfold sumF
    rw [sumF_congr n (fun j hj => h j (by omega)), h n (by omega)]
theorem sumF_zero {f : Nat → Int} {a : Nat} : ∀ n : Nat, (∀ j : Nat, j < n → f (a + j) = 0) → sumF f a n = 0
  | 0, _ => rfl
  | n + 1, h => by
    unfold sumF
    rw [sumF_zero n (fun j hj => h j (by omega)), h n (by omega)]
    rfl
theorem sel_sum {b v : Nat} (hv : MV S) (hb : b < gNb S) (hvv : v < gVo S b) (f : Nat → Int) : sumF (selF S b v f) 0 (gNi S) = sumF f (gFo S (3 * b + v)) (gSz S (3 * b + v)) := by
  obtain ⟨r1, r2, r3⟩ := hv.2.2.2.2.2.2.1 b v hb hvv
  have e : gNi S = gFo S (3 * b + v) + (gSz S (3 * b + v) + (gNi S - gFo S (3 * b + v) - gSz S (3 * b + v))) := by omega
  rw [e, sumF_add, sumF_add]
  have z1 : sumF (selF S b v f) 0 (gFo S (3 * b + v)) = 0 := sumF_zero _ (fun j hj => by
    unfold selF
    rw [if_neg]
    rw [Nat.zero_add, r3 j (by omega)]
    omega)
  have z2 : sumF (selF S b v f) (0 + gFo S (3 * b + v)) (gSz S (3 * b + v)) = sumF f (gFo S (3 * b + v)) (gSz S (3 * b + v)) := by
    rw [Nat.zero_add]
    refine sumF_congr _ (fun j hj => ?_)
    unfold selF
    rw [if_pos]
    rw [r3 _ (by omega)]
    omega
  have z3 : sumF (selF S b v f) (0 + gFo S (3 * b + v) + gSz S (3 * b + v)) (gNi S - gFo S (3 * b + v) - gSz S (3 * b + v)) = 0 := sumF_zero _ (fun j hj => by
    unfold selF
    rw [if_neg]
    rw [r3 _ (by omega)]
    omega)
  rw [z1, z2, z3]
  omega
theorem x_voiceLasts {o : Nat} {b v : Int} (ho : o < 2) (h : RM M o S) (hl : M 46 7 = zI (gLen S)) (hv : MV S) (hb : -1000 ≤ b ∧ b ≤ 1000) (hvv : -1000 ≤ v ∧ v ≤ 1000) (hQ : Q (zI (sumF (selF S b v (lastG S)) 0 (gNi S))) M) : w_X7_voiceLasts (zI o) (zI b) (zI v) M Q := by
  have hn := hv.2.2.2.1
  unfold w_X7_voiceLasts
  intro x1 e1
  rw [lz600, zI_mul] at e1
  refine ⟨gNi S + 1, ?_⟩
  have key : ∀ (k i : Nat), i ≤ gNi S → gNi S - i < k → w_X7_voiceLasts_10 Q k (zI o) (zI b) (zI v) (zI (sumF (selF S b v (lastG S)) 0 i)) (zI ((600 * o + i : Nat) : Int)) M := by
    intro k
    induction k with
    | zero => intro i g1 g2; omega
    | succ k ih =>
      intro i hi hk
      show wb_X7_voiceLasts_10 Q (w_X7_voiceLasts_10 Q k) _ _ _ _ _ M
      unfold wb_X7_voiceLasts_10
      rw [lz600, zI_mul, zI_tn (a := (o : Int)) (by omega) (by omega), tn_nat, h.2.1, zI_add, zI_in (by omega) (by omega), zI_le (by omega) (by omega) (by omega) (by omega), zI_in (by omega) (by omega), zI_tn (by omega) (by omega), tn_nat]
      have next : ∀ (x y : Int32) (t : Int), x = zI t → sumF (selF S b v (lastG S)) 0 (i + 1) = t → y = zI ((600 * o + i : Nat) : Int) + 1 → i < gNi S → w_X7_voiceLasts_10 Q k (zI o) (zI b) (zI v) x y M := by
        intro x y t ex et ey hi2
        have ey' : y = zI ((600 * o + (i + 1) : Nat) : Int) := by rw [ey, lz1, zI_add]; congr 1
        subst ex ey'
        rw [← et]
        exact ih (i + 1) (by omega) (by omega)
      refine ⟨by omega, fun q => ?_, fun q => ⟨by omega, ?_⟩⟩
      · have : i = gNi S := by omega
        subst this
        exact hQ
      · have hi2 : i < gNi S := by omega
        obtain ⟨w0, w1, -⟩ := hv.2.2.2.2.2.1 i hi2
        have hnb := hv.2.2.1
        have hv3 : gVo S (gIt S i 0).toNat ≤ 3 := hv.2.2.2.2.1 _ (by omega)
        have e8 : M 58 (600 * o + i) = zI (gIt S i 0) := RM_at h hi2 (a := 0) (by omega)
        have e9 : M 59 (600 * o + i) = zI (gIt S i 1) := RM_at h hi2 (a := 1) (by omega)
        rw [e8, e9, zI_eq (by omega) (by omega) (by omega) (by omega), zI_eq (by omega) (by omega) (by omega) (by omega)]
        have es : ∀ t : Int, selF S b v (lastG S) i = t → sumF (selF S b v (lastG S)) 0 (i + 1) = sumF (selF S b v (lastG S)) 0 i + t := by
          intro t ht
          show sumF (selF S b v (lastG S)) 0 i + selF S b v (lastG S) (0 + i) = _
          rw [Nat.zero_add, ht]
        refine ⟨fun q1 x4 e4 x5 e5 => next x4 x5 _ (by rw [e4, lz0, zI_add]) (es 0 (if_neg (fun z => q1 z.1))) e5 hi2, fun q1 => ⟨by omega, fun q2 x7 e7 x8 e8' => next x7 x8 _ (by rw [e7, lz0, zI_add]) (es 0 (if_neg (fun z => q2 z.2))) e8' hi2, fun q2 => ?_⟩⟩
        refine x_lastsOf ho h hl hv hi2 (fun x11 e11 x12 e12 => next x11 x12 _ (by rw [e11, zI_add]) (es _ (if_pos ⟨q1, q2⟩)) e12 hi2)
  have := key (gNi S + 1) 0 (by omega) (by omega)
  rw [e1, show ((o : Int) * 600) = ((600 * o + 0 : Nat) : Int) by omega]
  exact this
end Ref
