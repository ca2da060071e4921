section Write
variable {M0 M : Mem} {S : Mus} {c r m : Nat} {row : Nat → Int} {sg : Nat → Int} {Q : Int32 → Mem → Prop} {wd : Int}
theorem x_write {a : Int} (hG : SG S sg) (h : RS M S c row) (hg : GV S) (ba : -2147483648 ≤ a ∧ a < 2147483648) (hR : (a < 12 ∨ 200 < a) → Q (-2) M) (hS : 12 ≤ a → a ≤ 200 → (gNb S = 0 ∨ ¬ endsW S) → Q (-3) M) (hF : 12 ≤ a → a ≤ 200 → ¬ gNb S = 0 → endsW S → ∀ (b : Nat) (L : List Int) (ln : Int) (st : Option Int), b < gNb S → rnS S (mkS S) sg a b = some (L, ln, st) → rnS S (mkS S) sg a (b + 1) = none → ∀ M' : Mem, RS M' S c row → fl M M' → Q (zI (-10 - b)) M') (hO : 12 ≤ a → a ≤ 200 → ¬ gNb S = 0 → endsW S → ∀ (L : List Int) (ln : Int) (st : Option Int), rnS S (mkS S) sg a (gNb S) = some (L, ln, st) → 4000 < L.length → ∀ M' : Mem, RS M' S c row → fl M M' → Q (-4) M') (hD : 12 ≤ a → a ≤ 200 → ¬ gNb S = 0 → endsW S → ∀ (L : List Int) (ln : Int) (st : Option Int), rnS S (mkS S) sg a (gNb S) = some (L, ln, st) → L.length ≤ 4000 → ∀ M' : Mem, RS M' S L.length (fun j => L.getD j 0) → fl M M' → Q (zI (L.length : Int)) M') : w_X7_write (zI a) M Q := by
  have hM := h.2.2.2.2.1
  have hv := h.2.2.2.2.2.2
  have hL := h.2.2.1
  have hnb := hv.2.2.1
  unfold w_X7_write
  have k12 : zI a < 12 ↔ a < 12 := by rw [lz12, zI_lt (by omega) (by omega) (by omega) (by omega)]
  have k200 : zI a ≤ 200 ↔ a ≤ 200 := by rw [lz200, zI_le (by omega) (by omega) (by omega) (by omega)]
  have e53 : M 53 (Int32.toNatClampNeg 0) = zI (gNb S) := hM.1
  have kn : zI (gNb S : Int) = 0 ↔ gNb S = 0 := by rw [lz0, zI_eq (by omega) (by omega) (by omega) (by omega)]; omega
  rw [k12, k200, e53, kn]
  refine ⟨fun q => hR (Or.inl q), fun q1 => ⟨fun q2 => ⟨vi0, fun q3 => hS (by omega) q2 (Or.inl q3), fun q3 => ?_⟩, fun q2 => hR (Or.inr (by omega))⟩⟩
  refine x_lacks hM hL hv (fun hE => ⟨fun _ => ?_, fun z => absurd rfl z⟩) (fun hE => ⟨fun z => absurd z (by decide), fun _ => hS (by omega) q2 (Or.inr hE)⟩)
  have hF := hF (by omega) q2 q3 hE
  have hO := hO (by omega) q2 q3 hE
  have hD := hD (by omega) q2 q3 hE
  have hall := whole_all hv hg hE
  have hpos : ∀ b v : Nat, b < gNb S → v < gVo S b → 0 < gSz S (3 * b + v) := fun b v hb hvv => by
    have := hall b v hb hvv
    rcases Nat.eq_zero_or_pos (gSz S (3 * b + v)) with e | e
    · unfold slotL at this
      rw [e] at this
      have hl := hv.1
      have : (0 : Int) = gLen S := this
      omega
    · exact e
  refine x_slurs hM hv (fun M5 f5 v5 => ⟨gNb S + 1, ?_⟩)
  -- behind the signs
  have after : ∀ Mx : Mem, (∀ k : Nat, (k < 69 ∨ 75 < k) → Mx k = M k) → (∀ j : Nat, j < gNi S → MKR Mx (mkS S) j) → (∀ b v : Nat, b < gNb S → v < gVo S b → Mx 75 (3 * b + v) = zI (sg (3 * b + v))) → (vp_in 0 2) ∧ ((((Mx 55 (Int32.toNatClampNeg 0)) ≤ 0) → (w_X7_write_147 Q (zI a) 0 0 Mx)) ∧ (¬ ((Mx 55 (Int32.toNatClampNeg 0)) ≤ 0) → ((vp_in 0 2) ∧ (∀ z41 : Int32, z41 = (if (Mx 55 (Int32.toNatClampNeg 0)) = 1 then 40 else 56) → (vp_in 0 4000) ∧ (∀ M43 : Mem, M43 = (mset Mx 77 (Int32.toNatClampNeg 0) z41) → (vp_in 1 4000) ∧ (∀ M45 : Mem, M45 = (mset M43 77 (Int32.toNatClampNeg 1) 28) → w_X7_write_147 Q (zI a) 2 2 M45)))))) := by
    intro Mx f1 v1 v2
    have hd := hv.2.1
    have e55 : Mx 55 (Int32.toNatClampNeg 0) = zI (gHd S) := by rw [f1 55 (by omega)]; exact hM.2.2.1
    have hRx : RS Mx S c row := RS_fr h (fun k hk => f1 k (by omega))
    have hB : PB Mx S (mkS S) sg := ⟨hRx.2.2.2.2.1, hRx.2.2.2.2.2.1, hv, hg, v1, fun b v hb hvv => ⟨v2 b v hb hvv, by rcases hG (3 * b + v) with z | z; exact Or.inr z.2; exact Or.inl z.2⟩⟩
    have go : ∀ My : Mem, (∀ k : Nat, k ≠ 77 → My k = Mx k) → WR My (hdC S) (hdC S).length → w_X7_write_147 Q (zI a) (zI ((hdC S).length : Nat)) (zI ((hdC S).length : Nat)) My := by
      intro My y1 y2 M8 e8 M9 e9
      refine ⟨gNb S + 1, ?_⟩
      have z1 : ∀ k : Nat, k ≠ 46 → M9 k = My k := fun k g => by rw [e9, mset_o g, e8, mset_o g]
      have z2 : ∀ j : Nat, j ≠ 27 → j ≠ 28 → M9 46 j = My 46 j := fun j g1 g2 => by rw [e9, mset_j g2, e8, mset_j g1]
      have t1 : ∀ k : Nat, k ≠ 46 → k ≠ 76 → k ≠ 77 → M9 k = Mx k := fun k g1 _ g3 => by rw [z1 k g1, y1 k g3]
      have t2 : ∀ j : Nat, j ≠ 27 → j ≠ 28 → j ≠ 37 → M9 46 j = Mx 46 j := fun j g1 g2 _ => by rw [z2 j g1 g2, y1 46 (by omega)]
      have frame : ∀ M' : Mem, (∀ k : Nat, k ≠ 46 → k ≠ 76 → k ≠ 77 → M' k = Mx k) → fl M M' := fun M' g k hk => by rw [g k (by omega) (by omega) (by omega), f1 k (by omega)]
      have := x_loop (Q := Q) (wd := a) hB ⟨by omega, q2⟩ (fun b L ln st g1 g2 g3 M' g4 g5 => hF b L ln st g1 g2 g3 M' (RS_46 hRx (fun k k1 k2 => g4 k k1 (by omega) (by omega)) (g5 6 (by omega) (by omega) (by omega)) (g5 7 (by omega) (by omega) (by omega))) (frame M' g4)) (fun L ln st g1 g2 M' g4 g5 => hO L ln st g1 g2 M' (RS_46 hRx (fun k k1 k2 => g4 k k1 (by omega) (by omega)) (g5 6 (by omega) (by omega) (by omega)) (g5 7 (by omega) (by omega) (by omega))) (frame M' g4)) (fun L ln st g1 g2 M' g4 g5 g6 g7 => hD L ln st g1 g2 M' ?_ (fun k hk => by rw [g4 k (by omega) (by omega) (by omega) (by omega), f1 k (by omega)])) (gNb S + 1) 0 (hdC S) ((hdC S).length : Int) none M9 (by omega) (by omega) rfl t1 t2 (by show RWT M9 none; show M9 46 27 = 1; rw [e9, mset_j (by omega), e8, mset_at]) (fun j j1 j2 => by rw [z1 77 (by omega)]; exact y2 j j1 j2)
      · exact this
      · -- the reference's new row
        have hR2 : RS Mx S c row := hRx
        obtain ⟨k1, k2, k3, k4, k5, k6, k7⟩ := hR2
        refine ⟨g6, g2, by rw [g5 7 (by omega) (by omega) (by omega) (by omega)]; exact k3, fun j hj => g7 j hj, ⟨by rw [g4 _ (by omega) (by omega) (by omega) (by omega)]; exact k5.1, by rw [g4 _ (by omega) (by omega) (by omega) (by omega)]; exact k5.2.1, by rw [g4 _ (by omega) (by omega) (by omega) (by omega)]; exact k5.2.2.1, fun b hb => by rw [g4 _ (by omega) (by omega) (by omega) (by omega), g4 _ (by omega) (by omega) (by omega) (by omega)]; exact k5.2.2.2.1 b hb, fun i a hi ha => by rw [g4 _ (by omega) (by omega) (by omega) (by omega)]; exact k5.2.2.2.2.1 i a hi ha, fun i k hi hk => by rw [g4 _ (by omega) (by omega) (by omega) (by omega)]; exact k5.2.2.2.2.2 i k hi hk⟩, ?_, k7⟩
        unfold RT at k6 ⊢
        rw [g4 47 (by omega) (by omega) (by omega) (by omega), g4 48 (by omega) (by omega) (by omega) (by omega), g4 49 (by omega) (by omega) (by omega) (by omega), g4 50 (by omega) (by omega) (by omega) (by omega), g4 51 (by omega) (by omega) (by omega) (by omega)]
        exact k6
    have kh : zI (gHd S) ≤ 0 ↔ gHd S = 0 := by rw [lz0, zI_le (by omega) (by omega) (by omega) (by omega)]; omega
    have kh1 : zI (gHd S) = 1 ↔ gHd S = 1 := by rw [lz1, zI_eq (by omega) (by omega) (by omega) (by omega)]
    rw [e55, kh]
    simp only [kh1]
    refine ⟨vi0, fun g => ?_, fun g => ⟨vi0, fun z41 e41 => ⟨vin rfl, fun M43 e43 => ⟨vin rfl, fun M45 e45 => ?_⟩⟩⟩⟩
    · have he : hdC S = [] := if_pos g
      have := go Mx (fun _ _ => rfl) (by rw [he]; intro j hj; exact absurd hj (Nat.not_lt_zero j))
      rw [he] at this
      exact this
    · have he : hdC S = [if gHd S = 1 then 40 else 56, 28] := by
        unfold hdC
        rw [if_neg g]
        by_cases g2 : gHd S = 2
        · rw [if_pos g2, if_neg (by omega)]
        · rw [if_neg g2, if_pos (by omega)]
      have e41' : z41 = zI (if gHd S = 1 then 40 else 56) := by
        rw [e41]
        by_cases z : gHd S = 1
        · rw [if_pos z, if_pos z]; rfl
        · rw [if_neg z, if_neg z]; rfl
      rw [e41'] at e43
      have := go M45 (fun k hk => by rw [e45, mset_o hk, e43, mset_o hk]) (by
        rw [he]
        intro j hj hj2
        have hj3 : j < 2 := hj
        have : j = 0 ∨ j = 1 := by omega
        rcases this with rfl | rfl
        · rw [e45, tc1, mset_j (by omega), e43, tc0, mset_at]; rfl
        · rw [e45, tc1, mset_at]; rfl)
      rw [he] at this
      exact this
  have inner : ∀ (B41 : Int32 → Int32 → Mem → Prop) (b : Nat), b < gNb S → ∀ (k v : Nat) (Mx : Mem), v ≤ gVo S b → gVo S b - v < k → (∀ k : Nat, k ≠ 75 → (k < 69 ∨ 71 < k) → Mx k = M5 k) → (∀ b' v' : Nat, b' ≤ b → v' < gVo S b' → (b' < b ∨ v' < v) → Mx 75 (3 * b' + v') = zI (sg (3 * b' + v'))) → (∀ My : Mem, (∀ k : Nat, k ≠ 75 → (k < 69 ∨ 71 < k) → My k = M5 k) → (∀ b' v' : Nat, b' ≤ b → v' < gVo S b' → My 75 (3 * b' + v') = zI (sg (3 * b' + v'))) → B41 (zI a) (zI ((b + 1 : Nat) : Int)) My) → w_X7_write_53 Q B41 k (zI a) (zI b) (zI v) Mx := by
    intro B41 b hb k
    have hb3 := hv.2.2.2.2.1 b hb
    induction k with
    | zero => intro v Mx g1 g2; omega
    | succ k ih =>
      intro v Mx hv2 hk f1 f2 hB
      have fM : ∀ k : Nat, (k < 69 ∨ 75 < k) → Mx k = M k := fun k hk => by rw [f1 k (by omega) (by omega), f5 k (by omega) (by omega) (by omega)]
      have hRx : RS Mx S c row := RS_fr h (fun k hk => fM k (by omega))
      have e57 : Mx 57 b = zI (gVo S b) := by
        have := (hRx.2.2.2.2.1.2.2.2.1 b hb).1
        rw [show 60 * 0 + b = b by omega] at this
        exact this
      show wb_X7_write_53 Q B41 (w_X7_write_53 Q B41 k) _ _ _ Mx
      unfold wb_X7_write_53
      rw [zI_in (by omega) (by omega), zI_tn (by omega) (by omega), tn_nat, e57, zI_le (by omega) (by omega) (by omega) (by omega)]
      refine ⟨by omega, fun q x4 e4 => ?_, fun q => ?_⟩
      · have e4' : x4 = zI ((b + 1 : Nat) : Int) := by rw [e4, lz1, zI_add]; rfl
        subst e4'
        exact hB Mx f1 (fun b' v' g1 g2 => f2 b' v' g1 g2 (by
          rcases Nat.lt_or_ge b' b with z | z
          · exact Or.inl z
          · have : b' = b := by omega
            subst this
            exact Or.inr (by omega)))
      · have fin : ∀ (z : Int32) (My : Mem), z = zI (sg (3 * b + v)) → (∀ k : Nat, (k < 69 ∨ 71 < k) → My k = Mx k) → (vp_in ((3 * zI b) + zI v) 180) ∧ (∀ M53 : Mem, M53 = (mset My 75 (Int32.toNatClampNeg ((3 * zI b) + zI v)) z) → ∀ x54 : Int32, x54 = zI (v : Int) + 1 → w_X7_write_53 Q B41 k (zI a) (zI b) x54 M53) := by
          intro z My ez fy
          rw [lz3, zI_mul, zI_add, zI_in (by omega) (by omega), zI_tn (by omega) (by omega), show (3 * (b : Int) + (v : Int)).toNat = 3 * b + v by omega]
          refine ⟨by omega, fun M11 e11 x12 e12 => ?_⟩
          have e12' : x12 = zI ((v + 1 : Nat) : Int) := by rw [e12, lz1, zI_add]; rfl
          subst e12'
          refine ih (v + 1) M11 (by omega) (by omega) (fun k g1 g2 => by rw [e11, mset_o g1, fy k g2]; exact f1 k g1 g2) (fun b' v' g1 g2 g3 => ?_) hB
          have hb3' := hv.2.2.2.2.1 b' (by omega)
          by_cases g : 3 * b' + v' = 3 * b + v
          · rw [g, e11, mset_at, ez]
          · rw [e11, mset_j g, fy 75 (by omega)]
            exact f2 b' v' g1 g2 (by omega)
        refine x_isSigned hRx.2.2.2.2.1 hRx.2.2.1 hv hg hb (by omega) (hpos b v hb (by omega)) (fun g My fy z51 e51 => fin z51 My ?_ fy) (fun g My fy z51 e51 => fin z51 My ?_ fy)
        · rcases hG (3 * b + v) with z | z
          · rw [z.2, e51]; rfl
          · exact absurd g z.1
        · rcases hG (3 * b + v) with z | z
          · exact absurd z.1 g
          · rw [z.2, e51]; rfl
  have key : ∀ (k b : Nat) (Mx : Mem), b ≤ gNb S → gNb S - b < k → (∀ k : Nat, k ≠ 75 → (k < 69 ∨ 71 < k) → Mx k = M5 k) → (∀ b' v' : Nat, b' < b → v' < gVo S b' → Mx 75 (3 * b' + v') = zI (sg (3 * b' + v'))) → w_X7_write_41 Q k (zI a) (zI b) Mx := by
    intro k
    induction k with
    | zero => intro b Mx g1 g2; omega
    | succ k ih =>
      intro b Mx hb hk f1 f2
      have fM : ∀ k : Nat, (k < 69 ∨ 75 < k) → Mx k = M k := fun k hk => by rw [f1 k (by omega) (by omega), f5 k (by omega) (by omega) (by omega)]
      have e53x : Mx 53 (Int32.toNatClampNeg 0) = zI (gNb S) := by rw [fM 53 (by omega)]; exact hM.1
      show wb_X7_write_41 Q (w_X7_write_41 Q k) _ _ Mx
      unfold wb_X7_write_41
      rw [e53x, zI_le (by omega) (by omega) (by omega) (by omega)]
      refine ⟨vi0, fun q => ?_, fun q => ⟨gVo S b + 1, ?_⟩⟩
      · refine after Mx fM (fun j hj => ?_) (fun b' v' g1 g2 => f2 b' v' (by omega) g2)
        have := v5 j hj
        unfold MKR at this ⊢
        rw [f1 72 (by omega) (by omega), f1 73 (by omega) (by omega), f1 74 (by omega) (by omega)]
        exact this
      · exact inner (w_X7_write_41 Q k) b (by omega) _ 0 Mx (by omega) (by omega) f1 (fun b' v' g1 g2 g3 => f2 b' v' (by omega) g2) (fun My q1 q2 => ih (b + 1) My (by omega) (by omega) q1 (fun b' v' g1 g2 => q2 b' v' (by omega) g2))
  exact key _ 0 M5 (by omega) (by omega) (fun _ _ _ => rfl) (fun b' v' g => by omega)
theorem CS_spare {M' : Mem} (h : CS M S c row r m) (hf : ∀ k : Nat, k ≠ 4 - r → k ≠ 4 - r + 1 → (k < 35 ∨ 45 < k) → M' k = M k) : CS M' S c row r m := by
  obtain ⟨h1, h2, h3, h4, h5, h6, h7, h8, h9, h10, h11, h12⟩ := h
  have m5 : 5 ≤ m ∧ m ≤ 20 := by rcases h2 with rfl | rfl <;> omega
  have r4 : (r = 1 ∨ r = 3) := by rcases h1 with rfl | rfl <;> omega
  have e0 := hf 0 (by omega) (by omega) (by omega)
  exact ⟨h1, h2, by rw [e0]; exact h3, by rw [e0]; exact h4, by rw [e0]; exact h5, by rw [e0]; exact h6, TB_of h7 (fun k hk => hf k (by omega) (by omega) (by omega)), by rw [hf r (by omega) (by omega) (by omega)]; exact h8, h9, fun j hj => by rw [hf (r + 1) (by omega) (by omega) (by omega)]; exact h10 j hj, MW_far h11 (fun k g1 g2 => hf k (by omega) (by omega) (by omega)), h12⟩
theorem okL_getD {L : List Int} (h : okL L) {j : Nat} (hj : j < L.length) : 0 ≤ L.getD j 0 ∧ L.getD j 0 ≤ 64 := by
  have e : L.getD j 0 = L[j] := by simp [List.getD_eq_getElem?_getD, List.getElem?_eq_getElem hj]
  rw [e]
  exact h _ (List.getElem_mem hj)
theorem rn_uni {sg : Nat → Int} {b b' : Nat} {x x' : List Int × Int × Option Int} (h1 : rnS S (mkS S) sg wd b = some x) (h2 : rnS S (mkS S) sg wd (b + 1) = none) (h3 : rnS S (mkS S) sg wd b' = some x') (h4 : rnS S (mkS S) sg wd (b' + 1) = none) : b' = b := by
  rcases Nat.lt_trichotomy b b' with g | g | g
  · have := rn_none h2 (b' - (b + 1))
    rw [show b + 1 + (b' - (b + 1)) = b' by omega, h3] at this
    exact absurd this (by simp)
  · exact g.symm
  · have := rn_none h4 (b - (b' + 1))
    rw [show b' + 1 + (b - (b' + 1)) = b by omega, h1] at this
    exact absurd this (by simp)
theorem rn_end {sg : Nat → Int} {b : Nat} {x : List Int × Int × Option Int} (hb : b < gNb S) (h2 : rnS S (mkS S) sg wd (b + 1) = none) (h3 : rnS S (mkS S) sg wd (gNb S) = some x) : False := by
  have := rn_none h2 (gNb S - (b + 1))
  rw [show b + 1 + (gNb S - (b + 1)) = gNb S by omega, h3] at this
  exact absurd this (by simp)
theorem op_write {K : Int32 → Int32 → Mem → Prop} {R : Int32 → Mem → Prop} (h : ST M S c row r m) (p : Int32) (hR : ∀ v M1, fz M M1 → w_X7_write p M1 (K v) → R v M1) (hK : ∀ v M2, INV M2 → ke M M2 → K v v M2) : w_X6_write r (4 - r) m p M R := by
  have same : INV M := ⟨S, c, row, r, m, h⟩
  obtain ⟨hC, hRS, hGV⟩ := h
  have hv := hRS.2.2.2.2.2.2
  have h5 := hC.2.2.2.2.1
  have hT := hC.2.2.2.2.2.2.1
  have hW := hC.2.2.2.2.2.2.2.2.2.2.1
  have r4 : (r = 1 ∨ r = 3) := by rcases hC.1 with rfl | rfl <;> omega
  have hnb := hv.2.2.1
  have hr2 : RW (4 - r) := by
    rcases hC.1 with rfl | rfl
    · exact Or.inr rfl
    · exact Or.inl rfl
  obtain ⟨a, rfl, a1, a2⟩ := zI_ex p
  obtain ⟨sg, hG⟩ := SG_ex S
  unfold w_X6_write
  have k12 : zI a < 12 ↔ a < 12 := by rw [lz12, zI_lt (by omega) (by omega) (by omega) (by omega)]
  have k200 : zI a ≤ 200 ↔ a ≤ 200 := by rw [lz200, zI_le (by omega) (by omega) (by omega) (by omega)]
  have kn : zI (gNb S : Int) = 0 ↔ gNb S = 0 := by rw [lz0, zI_eq (by omega) (by omega) (by omega) (by omega)]; omega
  rw [k12, k200, hW.2.2.1, kn]
  have range : (a < 12 ∨ 200 < a) → R (-2) M := fun q => hR _ _ fz_rf (x_write hG hRS hGV ⟨a1, a2⟩ (fun _ => hK _ _ same ke_rf) (fun z1 z2 => by omega) (fun z1 z2 => by omega) (fun z1 z2 => by omega) (fun z1 z2 => by omega))
  have state : 12 ≤ a → a ≤ 200 → (gNb S = 0 ∨ ¬ endsW S) → R (-3) M := fun q1 q2 q3 => hR _ _ fz_rf (x_write hG hRS hGV ⟨a1, a2⟩ (fun z => by omega) (fun _ _ _ => hK _ _ same ke_rf) (fun _ _ z1 z2 => absurd q3 (by rintro (y | y); exact z1 y; exact y z2)) (fun _ _ z1 z2 => absurd q3 (by rintro (y | y); exact z1 y; exact y z2)) (fun _ _ z1 z2 => absurd q3 (by rintro (y | y); exact z1 y; exact y z2)))
  refine ⟨fun q => range (Or.inl q), fun q1 => ⟨fun q2 => ⟨h5, fun q3 => state (by omega) q2 (Or.inl q3), fun q3 => ⟨h5, e_endsWhole hT hW hv (fun hE => ⟨fun _ => ⟨h5, hC.2.2.2.1, ?_⟩, fun z => absurd z (by decide)⟩) (fun hE => ⟨fun z => absurd rfl z, fun _ => state (by omega) q2 (Or.inr hE)⟩)⟩⟩, fun q2 => range (Or.inr (by omega))⟩⟩
  have fzw : ∀ M' : Mem, (∀ k : Nat, k ≠ 4 - r → k ≠ 4 - r + 1 → (k < 35 ∨ 45 < k) → M' k = M k) → fz M M' := fun M' f k hk => f k (by omega) (by omega) (by omega)
  have he : ¬ (gNb S = 0 ∨ ¬ endsW S) := by rintro (z | z); exact q3 z; exact z hE
  refine e_run hr2 hC.2.1 hG hT hW hv ⟨by omega, q2⟩ (fun b L ln st g1 g2 g3 M' f' => ⟨fun _ => ?_, fun z => ?_⟩) (fun L ln st g1 M' f' g2 g3 => ?_)
  · refine hR _ _ (fzw M' f') (x_write hG (RS_fz hRS (fzw M' f')) hGV ⟨a1, a2⟩ (fun z => by omega) (fun _ _ z => absurd z he) (fun _ _ _ _ b' L' ln' st' d1 d2 d3 M2 h2 f2 => ?_) (fun _ _ _ _ L' ln' st' d1 => (rn_end g1 g3 d1).elim) (fun _ _ _ _ L' ln' st' d1 => (rn_end g1 g3 d1).elim))
    have := rn_uni g2 g3 d2 d3
    subst this
    exact hK _ _ (inv_of (CS_spare hC f') f2 h2 hGV) (ke_of (fzw M' f') f2)
  · exact absurd (by rw [lz0, zI_lt (by omega) (by omega) (by omega) (by omega)]; omega) z
  · by_cases g4 : L.length ≤ 4000
    · rw [if_pos g4]
      refine ⟨fun z => absurd z (by rw [lz0, zI_lt (by omega) (by omega) (by omega) (by omega)]; omega), fun _ => ?_⟩
      have e0 := f' 0 (by omega) (by omega) (by omega)
      refine ⟨by rw [e0]; exact hC.2.2.1, by rw [e0]; exact hC.2.2.2.1, fun M11 e11 M12 e12 => ?_⟩
      have s12 : ∀ k : Nat, k ≠ 0 → M12 k = M' k := fun k hk => by rw [e12, mset_o hk, e11, mset_o hk]
      have f12 : fz M M12 := fun k hk => by rw [s12 k (by omega)]; exact fzw M' f' k hk
      have h12 : CS M12 S L.length (fun j => L.getD j 0) (4 - r) m := by
        obtain ⟨c1, c2, c3, c4, c5, c6, c7, c8, c9, c10, c11, c12⟩ := hC
        have m5 : 5 ≤ m ∧ m ≤ 20 := by rcases c2 with rfl | rfl <;> omega
        refine ⟨hr2, c2, by rw [e12, mset_j (by omega), e11, mset_at], ?_, ?_, ?_, ?_, ?_, g4, fun j hj => ⟨?_, okL_getD g3 hj⟩, ?_, c12⟩
        · rw [e12, mset_at, show 4 - (4 - r) = r by omega]
        · rw [e12, mset_j (by omega), e11, mset_j (by omega), e0]; exact c5
        · rw [e12, mset_j (by omega), e11, mset_j (by omega), e0]; exact c6
        · exact TB_of c7 (fun k hk => by rw [s12 k (by omega)]; exact f' k (by omega) (by omega) (by omega))
        · rw [s12 (4 - r) (by omega)]; exact g2.1
        · rw [s12 (4 - r + 1) (by omega)]; exact g2.2 j hj (by omega)
        · exact MW_far c11 (fun k d1 d2 => by rw [s12 k (by omega)]; exact f' k (by omega) (by omega) (by omega))
      refine hR _ _ f12 (x_write hG (RS_fz hRS f12) hGV ⟨a1, a2⟩ (fun z => by omega) (fun _ _ z => absurd z he) (fun _ _ _ _ b' L' ln' st' d1 d2 d3 => (rn_end d1 d3 g1).elim) (fun _ _ _ _ L' ln' st' d1 d2 => ?_) (fun _ _ _ _ L' ln' st' d1 d2 M2 h2 f2 => ?_))
      · rw [g1] at d1
        simp only [Option.some.injEq, Prod.mk.injEq] at d1
        obtain ⟨rfl, -, -⟩ := d1
        omega
      · rw [g1] at d1
        simp only [Option.some.injEq, Prod.mk.injEq] at d1
        obtain ⟨rfl, -, -⟩ := d1
        exact hK _ _ (inv_of h12 f2 h2 hGV) (ke_of f12 f2)
    · rw [if_neg g4]
      refine ⟨fun _ => ?_, fun z => absurd (by decide) z⟩
      refine hR _ _ (fzw M' f') (x_write hG (RS_fz hRS (fzw M' f')) hGV ⟨a1, a2⟩ (fun z => by omega) (fun _ _ z => absurd z he) (fun _ _ _ _ b' L' ln' st' d1 d2 d3 => (rn_end d1 d3 g1).elim) (fun _ _ _ _ L' ln' st' d1 d2 M2 h2 f2 => ?_) (fun _ _ _ _ L' ln' st' d1 d2 => ?_))
      · exact hK _ _ (inv_of (CS_spare hC f') f2 h2 hGV) (ke_of (fzw M' f') f2)
      · rw [g1] at d1
        simp only [Option.some.injEq, Prod.mk.injEq] at d1
        obtain ⟨rfl, -, -⟩ := d1
        omega
end Write
