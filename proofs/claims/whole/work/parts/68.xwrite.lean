section XWrite
variable {M0 M : Mem} {S : Mus} {c r m : Nat} {row : Nat → Int} {mk sg : Nat → Int} {Q : Int32 → Mem → Prop} {wd : Int}
theorem RS_46 {M' : Mem} (h : RS M S c row) (hf : ∀ k : Nat, k ≠ 46 → (k < 69 ∨ 77 < k) → M' k = M k) (h6 : M' 46 6 = M 46 6) (h7 : M' 46 7 = M 46 7) : RS M' S c row := by
  obtain ⟨k1, k2, k3, k4, k5, k6, k7⟩ := h
  refine ⟨by rw [h6]; exact k1, k2, by rw [h7]; exact k3, fun j hj => by rw [hf 52 (by omega) (by omega)]; exact k4 j hj, ⟨by rw [hf _ (by omega) (by omega)]; exact k5.1, by rw [hf _ (by omega) (by omega)]; exact k5.2.1, by rw [hf _ (by omega) (by omega)]; exact k5.2.2.1, fun b hb => by rw [hf _ (by omega) (by omega), hf _ (by omega) (by omega)]; exact k5.2.2.2.1 b hb, fun i a hi ha => by rw [hf _ (by omega) (by omega)]; exact k5.2.2.2.2.1 i a hi ha, fun i k hi hk => by rw [hf _ (by omega) (by omega)]; exact k5.2.2.2.2.2 i k hi hk⟩, ?_, k7⟩
  unfold RT at k6 ⊢
  rw [hf 47 (by omega) (by omega), hf 48 (by omega) (by omega), hf 49 (by omega) (by omega), hf 50 (by omega) (by omega), hf 51 (by omega) (by omega)]
  exact k6
theorem PB_of {M' : Mem} (h : PB M S mk sg) (hf : ∀ k : Nat, k ≠ 46 → k ≠ 76 → k ≠ 77 → M' k = M k) : PB M' S mk sg := by
  obtain ⟨k5, k6, k7, k8, k9, k10⟩ := h
  refine ⟨⟨by rw [hf _ (by omega) (by omega) (by omega)]; exact k5.1, by rw [hf _ (by omega) (by omega) (by omega)]; exact k5.2.1, by rw [hf _ (by omega) (by omega) (by omega)]; exact k5.2.2.1, fun b hb => by rw [hf _ (by omega) (by omega) (by omega), hf _ (by omega) (by omega) (by omega)]; exact k5.2.2.2.1 b hb, fun i a hi ha => by rw [hf _ (by omega) (by omega) (by omega)]; exact k5.2.2.2.2.1 i a hi ha, fun i k hi hk => by rw [hf _ (by omega) (by omega) (by omega)]; exact k5.2.2.2.2.2 i k hi hk⟩, ?_, k7, k8, fun i hi => ?_, fun b v hb hvv => ?_⟩
  · unfold RT at k6 ⊢
    rw [hf 47 (by omega) (by omega) (by omega), hf 48 (by omega) (by omega) (by omega), hf 49 (by omega) (by omega) (by omega), hf 50 (by omega) (by omega) (by omega), hf 51 (by omega) (by omega) (by omega)]
    exact k6
  · have := k9 i hi
    unfold MKR at this ⊢
    rw [hf 72 (by omega) (by omega) (by omega), hf 73 (by omega) (by omega) (by omega), hf 74 (by omega) (by omega) (by omega)]
    exact this
  · rw [hf 75 (by omega) (by omega) (by omega)]
    exact k10 b v hb hvv
/-- the cells written so far -/
def WR (M : Mem) (X : List Int) (n : Nat) : Prop := ∀ j : Nat, j < n → j < 4000 → M 77 j = zI (X.getD j 0)
theorem getD_left {L X : List Int} {j : Nat} (h : j < L.length) : (L ++ X).getD j 0 = L.getD j 0 := by
  simp only [List.getD_eq_getElem?_getD]
  rw [List.getElem?_append_left h]
theorem getD_right {L X : List Int} {j : Nat} : (L ++ X).getD (L.length + j) 0 = X.getD j 0 := by
  simp only [List.getD_eq_getElem?_getD]
  rw [List.getElem?_append_right (by omega), show L.length + j - L.length = j by omega]
theorem x_copy {B160 : Int32 → Int32 → Int32 → Int32 → Mem → Prop} {L P : List Int} {l1 l3 l4 l5 l6 l7 : Int32} (hL : L.length ≤ 200000) (hP : P.length ≤ 2767) (hT : TP M 46 37 76 P) (hW : WR M L L.length) (hQ : ∀ M' : Mem, (∀ k : Nat, k ≠ 77 → M' k = M k) → WR M' (L ++ P) (L ++ P).length → ∀ x20 : Int32, x20 = l3 + (l6 + zI (P.length : Int)) → B160 l1 (zI ((L ++ P).length : Nat)) x20 (l4 + 1) M') : ∃ k, w_X7_write_295 Q B160 k l1 (zI (L.length : Nat)) l3 l4 l5 l6 l7 0 M := by
  refine ⟨P.length + 1, ?_⟩
  have key : ∀ (k j : Nat) (Mx : Mem), j ≤ P.length → P.length - j < k → (∀ k : Nat, k ≠ 77 → Mx k = M k) → WR Mx (L ++ P) (L.length + j) → w_X7_write_295 Q B160 k l1 (zI ((L.length + j : Nat) : Int)) l3 l4 l5 l6 l7 (zI j) Mx := by
    intro k
    induction k with
    | zero => intro j Mx g1 g2; omega
    | succ k ih =>
      intro j Mx hj hk f1 f2
      show wb_X7_write_295 Q B160 (w_X7_write_295 Q B160 k) _ _ _ _ _ _ _ _ Mx
      unfold wb_X7_write_295
      have nx : zI (j : Int) + 1 = zI ((j + 1 : Nat) : Int) := by rw [lz1, zI_add]; rfl
      have nx2 : zI ((L.length + j : Nat) : Int) + 1 = zI ((L.length + (j + 1) : Nat) : Int) := by rw [lz1, zI_add]; rfl
      have k4 : (4000 : Int32) ≤ zI ((L.length + j : Nat) : Int) ↔ 4000 ≤ L.length + j := by rw [lz4000, zI_le (by omega) (by omega) (by omega) (by omega)]; omega
      rw [f1 46 (by omega), hT.1, zI_le (by omega) (by omega) (by omega) (by omega), k4, nx, nx2, zI_in (by omega) (by omega), zI_in (by omega) (by omega), zI_tn (by omega) (by omega), zI_tn (by omega) (by omega), tn_nat, tn_nat]
      refine ⟨fun q x20 e20 x21 e21 => ?_, fun q => ⟨fun q1 x22 e22 x23 e23 => ?_, fun q1 => ⟨by omega, by omega, fun M26 e26 x27 e27 x28 e28 => ?_⟩⟩⟩
      · have : j = P.length := by omega
        subst this
        rw [e21]
        have := hQ Mx f1 (by rw [List.length_append]; exact f2) x20 e20
        rw [List.length_append] at this
        exact this
      · rw [e22, e23]
        refine ih (j + 1) Mx (by omega) (by omega) f1 (fun t t1 t2 => f2 t (by omega) t2)
      · rw [e27, e28]
        rw [f1 76 (by omega), hT.2 j (by omega) (by omega)] at e26
        refine ih (j + 1) M26 (by omega) (by omega) (fun k hk => by rw [e26, mset_o hk]; exact f1 k hk) (fun t t1 t2 => ?_)
        by_cases g : t = L.length + j
        · subst g; rw [e26, mset_at, getD_right]
        · rw [e26, mset_j g]; exact f2 t (by omega) t2
  exact key _ 0 M (by omega) (by omega) (fun _ _ => rfl) (fun t t1 t2 => by rw [getD_left t1]; exact hW t t1 t2)
theorem x_loop (hB : PB M0 S mk sg) (hwd : 12 ≤ wd ∧ wd ≤ 200) (hF : ∀ (b : Nat) (L : List Int) (ln : Int) (st : Option Int), b < gNb S → rnS S mk sg wd b = some (L, ln, st) → rnS S mk sg wd (b + 1) = none → ∀ M' : Mem, (∀ k : Nat, k ≠ 46 → k ≠ 76 → k ≠ 77 → M' k = M0 k) → (∀ j : Nat, j ≠ 27 → j ≠ 28 → j ≠ 37 → M' 46 j = M0 46 j) → Q (zI (-10 - b)) M') (hO : ∀ (L : List Int) (ln : Int) (st : Option Int), rnS S mk sg wd (gNb S) = some (L, ln, st) → 4000 < L.length → ∀ M' : Mem, (∀ k : Nat, k ≠ 46 → k ≠ 76 → k ≠ 77 → M' k = M0 k) → (∀ j : Nat, j ≠ 27 → j ≠ 28 → j ≠ 37 → M' 46 j = M0 46 j) → Q (-4) M') (hD : ∀ (L : List Int) (ln : Int) (st : Option Int), rnS S mk sg wd (gNb S) = some (L, ln, st) → L.length ≤ 4000 → ∀ M' : Mem, (∀ k : Nat, k ≠ 46 → k ≠ 52 → k ≠ 76 → k ≠ 77 → M' k = M0 k) → (∀ j : Nat, j ≠ 6 → j ≠ 27 → j ≠ 28 → j ≠ 37 → M' 46 j = M0 46 j) → M' 46 6 = zI (L.length : Int) → (∀ j : Nat, j < L.length → M' 52 j = zI (L.getD j 0)) → Q (zI (L.length : Int)) M') : ∀ (k b : Nat) (L : List Int) (ln : Int) (st : Option Int) (Mx : Mem), b ≤ gNb S → gNb S - b < k → rnS S mk sg wd b = some (L, ln, st) → (∀ k : Nat, k ≠ 46 → k ≠ 76 → k ≠ 77 → Mx k = M0 k) → (∀ j : Nat, j ≠ 27 → j ≠ 28 → j ≠ 37 → Mx 46 j = M0 46 j) → RWT Mx (entS S b st) → WR Mx L L.length → w_X7_write_160 Q k (zI wd) (zI (L.length : Nat)) (zI ln) (zI b) Mx := by
  have hv := hB.2.2.1
  have hnb := hv.2.2.1
  intro k
  induction k with
  | zero => intro b L ln st Mx g1 g2; omega
  | succ k ih =>
    intro b L ln st Mx hb hk hrn f1 f2 hw hW
    have hln := rn_len hv b L ln st hb hrn
    show wb_X7_write_160 Q (w_X7_write_160 Q k) _ _ _ _ Mx
    unfold wb_X7_write_160
    have e53 : Mx 53 (Int32.toNatClampNeg 0) = zI (gNb S) := by rw [f1 53 (by omega) (by omega) (by omega)]; exact hB.1.1
    have kb : zI (b : Int) ≤ 0 ↔ b = 0 := by rw [lz0, zI_le (by omega) (by omega) (by omega) (by omega)]; omega
    have kb0 : zI (b : Int) = 0 ↔ b = 0 := by rw [lz0, zI_eq (by omega) (by omega) (by omega) (by omega)]; omega
    have kl : zI (L.length : Int) ≤ 4000 ↔ L.length ≤ 4000 := by rw [lz4000, zI_le (by omega) (by omega) (by omega) (by omega)]; omega
    rw [e53, zI_le (by omega) (by omega) (by omega) (by omega), kl]
    refine ⟨vi0, fun q => ⟨fun q1 => ⟨L.length + 1, ?_⟩, fun q1 => ?_⟩, fun q x16 e16 => ?_⟩
    · have hb' : b = gNb S := by omega
      subst hb'
      have copy : ∀ (k j : Nat) (My : Mem), j ≤ L.length → L.length - j < k → (∀ k : Nat, k ≠ 52 → My k = Mx k) → (∀ t : Nat, t < j → My 52 t = zI (L.getD t 0)) → w_X7_write_362 Q k (zI wd) (zI (L.length : Nat)) (zI ln) (zI j) My := by
        intro k
        induction k with
        | zero => intro j My g1 g2; omega
        | succ k ih2 =>
          intro j My hj hk2 y1 y2
          show wb_X7_write_362 Q (w_X7_write_362 Q k) _ _ _ _ My
          unfold wb_X7_write_362
          rw [zI_le (by omega) (by omega) (by omega) (by omega), zI_in (by omega) (by omega), zI_tn (by omega) (by omega), tn_nat]
          refine ⟨fun g M11 e11 => ?_, fun g => ⟨by omega, by omega, fun M14 e14 x15 e15 => ?_⟩⟩
          · have : j = L.length := by omega
            subst this
            exact hD L ln st hrn q1 M11 (fun k a1 a2 a3 a4 => by rw [e11, mset_o a1, y1 k a2]; exact f1 k a1 a3 a4) (fun t a1 a2 a3 a4 => by rw [e11, mset_j a1, y1 46 (by omega)]; exact f2 t a2 a3 a4) (by rw [e11, mset_at]) (fun t ht => by rw [e11, mset_o (by omega)]; exact y2 t ht)
          · have e15' : x15 = zI ((j + 1 : Nat) : Int) := by rw [e15, lz1, zI_add]; rfl
            subst e15'
            rw [y1 77 (by omega), hW j (by omega) (by omega)] at e14
            refine ih2 (j + 1) M14 (by omega) (by omega) (fun k hk => by rw [e14, mset_o hk]; exact y1 k hk) (fun t ht => ?_)
            by_cases g2 : t = j
            · subst g2; rw [e14, mset_at]
            · rw [e14, mset_j g2]; exact y2 t (by omega)
      exact copy _ 0 Mx (by omega) (by omega) (fun _ _ => rfl) (fun t ht => by omega)
    · have hb' : b = gNb S := by omega
      subst hb'
      exact hO L ln st hrn (by omega) Mx f1 f2
    · have hbb : b < gNb S := by omega
      have hBx : PB Mx S mk sg := PB_of hB f1
      have ern : rnS S mk sg wd (b + 1) = match rnS S mk sg wd b with
          | none => none
          | some (L, ln, st) =>
            if b = 0 then (if ln + ((barL S mk sg b (entS S b st)).length : Int) ≤ wd then some (L ++ barL S mk sg b (entS S b st), ln + ((barL S mk sg b (entS S b st)).length : Int), baS S b (entS S b st) (gVo S b)) else none)
            else if ln + 1 + ((barL S mk sg b (entS S b st)).length : Int) ≤ wd then some (L ++ [0] ++ barL S mk sg b (entS S b st), ln + 1 + ((barL S mk sg b (entS S b st)).length : Int), baS S b (entS S b st) (gVo S b))
            else if ((barL S mk sg b none).length : Int) ≤ wd then some (L ++ [64] ++ barL S mk sg b none, ((barL S mk sg b none).length : Int), baS S b none (gVo S b))
            else none := rfl
      rw [hrn] at ern
      simp only at ern
      have bl := barL_len (mk := mk) (sg := sg) (st := entS S b st) hv hbb
      have bl0 := barL_len (mk := mk) (sg := sg) (st := none) hv hbb
      have nx : zI (b : Int) + 1 = zI ((b + 1 : Nat) : Int) := by rw [lz1, zI_add]; rfl
      -- laying the bar down
      have fin : ∀ (P : List Int) (sx : Option Int) (lx mo en : Int) (l5 : Int32) (My : Mem), P.length ≤ 2767 → 0 ≤ lx → lx ≤ 170000 → 0 ≤ mo → mo ≤ 1 → (b = 0 → mo = 0 ∧ en = 0) → (0 < b → (en = 0 ∧ mo = 1) ∨ (en = 1 ∧ mo = 0)) → (∀ k : Nat, k ≠ 46 → k ≠ 76 → k ≠ 77 → My k = M0 k) → (∀ j : Nat, j ≠ 27 → j ≠ 28 → j ≠ 37 → My 46 j = M0 46 j) → TP My 46 37 76 P → RWT My (entS S (b + 1) sx) → WR My L L.length → (lx + mo + P.length ≤ wd → rnS S mk sg wd (b + 1) = some (L ++ (if b = 0 then [] else [if en = 1 then 64 else 0]) ++ P, lx + mo + P.length, sx)) → (¬ lx + mo + P.length ≤ wd → rnS S mk sg wd (b + 1) = none) → w_X7_write_240 Q (w_X7_write_160 Q k) (zI wd) (zI (L.length : Nat)) (zI lx) (zI b) l5 (zI mo) (zI en) My := by
        intro P sx lx mo en l5 My hP x1 x2 m1 m2 h0 h1 y1 y2 y3 y4 y5 hyes hno
        unfold w_X7_write_240
        have k4 : (4000 : Int32) ≤ zI (L.length : Int) ↔ 4000 ≤ L.length := by rw [lz4000, zI_le (by omega) (by omega) (by omega) (by omega)]; omega
        rw [y3.1, zI_add, zI_add, zI_le (by omega) (by omega) (by omega) (by omega), kb]
        refine ⟨fun g => ⟨fun g2 => ?_, fun g2 => ?_⟩, fun g => ?_⟩
        · have hy := hyes g
          rw [if_pos g2, List.append_nil] at hy
          have h01 := h0 g2
          refine x_copy (by omega) hP y3 y5 (fun M' z1 z2 x20 e20 => ?_)
          have e20' : x20 = zI (lx + mo + P.length) := by rw [e20, zI_add, zI_add]; congr 1; omega
          subst e20'
          rw [nx]
          exact ih (b + 1) _ _ sx M' (by omega) (by omega) hy (fun k a1 a2 a3 => by rw [z1 k a3]; exact y1 k a1 a2 a3) (fun j a1 a2 a3 => by rw [z1 46 (by omega)]; exact y2 j a1 a2 a3) (RWT_of y4 (by rw [z1 46 (by omega)]) (by rw [z1 46 (by omega)])) z2
        · have hy := hyes g
          rw [if_neg g2] at hy
          rw [k4]
          have nl : zI (L.length : Nat) + 1 = zI ((L ++ [if en = 1 then (64 : Int) else 0]).length : Nat) := by rw [lz1, zI_add, List.length_append]; rfl
          have go : ∀ My2 : Mem, (∀ k : Nat, k ≠ 77 → My2 k = My k) → WR My2 (L ++ [if en = 1 then (64 : Int) else 0]) (L ++ [if en = 1 then (64 : Int) else 0]).length → ∃ k_1, w_X7_write_295 Q (w_X7_write_160 Q k) k_1 (zI wd) (zI ((L ++ [if en = 1 then (64 : Int) else 0]).length : Nat)) (zI lx) (zI b) l5 (zI mo) (zI en) 0 My2 := by
            intro My2 v1 v2
            refine x_copy (by simp only [List.length_append, List.length_cons, List.length_nil]; omega) hP ⟨by rw [v1 46 (by omega)]; exact y3.1, fun j j1 j2 => by rw [v1 76 (by omega)]; exact y3.2 j j1 j2⟩ v2 (fun M' z1 z2 x20 e20 => ?_)
            have e20' : x20 = zI (lx + mo + P.length) := by rw [e20, zI_add, zI_add]; congr 1; omega
            subst e20'
            rw [nx]
            exact ih (b + 1) _ _ sx M' (by omega) (by omega) hy (fun k a1 a2 a3 => by rw [z1 k a3, v1 k a3]; exact y1 k a1 a2 a3) (fun j a1 a2 a3 => by rw [z1 46 (by omega), v1 46 (by omega)]; exact y2 j a1 a2 a3) (RWT_of y4 (by rw [z1 46 (by omega), v1 46 (by omega)]) (by rw [z1 46 (by omega), v1 46 (by omega)])) z2
          refine ⟨fun g3 x29 e29 => ?_, fun g3 z30 e30 => ⟨by rw [zI_in (by omega) (by omega)]; omega, fun M32 e32 x33 e33 => ?_⟩⟩
          · rw [e29, nl]
            refine go My (fun _ _ => rfl) (fun j j1 j2 => ?_)
            rw [getD_left (by omega)]
            exact y5 j (by omega) j2
          · rw [e33, nl]
            have hen : en = 0 ∨ en = 1 := by rcases h1 (by omega) with z | z <;> omega
            have k1 : zI en = 1 ↔ en = 1 := by rw [lz1, zI_eq (by omega) (by omega) (by omega) (by omega)]
            simp only [k1] at e30
            have e30' : z30 = zI (if en = 1 then 64 else 0) := by
              rw [e30]
              by_cases z : en = 1
              · rw [if_pos z, if_pos z]; rfl
              · rw [if_neg z, if_neg z]; rfl
            rw [zI_tn (by omega) (by omega), tn_nat, e30'] at e32
            refine go M32 (fun k hk => by rw [e32, mset_o hk]) (fun j j1 j2 => ?_)
            rw [getD_snoc L _ j j1, e32]
            by_cases g4 : j = L.length
            · rw [if_pos g4, g4, mset_at]
            · rw [if_neg g4, mset_j g4]
              simp only [List.length_append, List.length_cons, List.length_nil] at j1
              exact y5 j (by omega) j2
        · rw [ln10, zI_sub]
          exact hF b L ln st hbb hrn (hno g) My y1 y2
      refine x_layBar hBx hw hbb (fun M18 h18 z19 e19 => ?_)
      simp only [kb0] at e19
      have y1 : ∀ k : Nat, k ≠ 46 → k ≠ 76 → k ≠ 77 → M18 k = M0 k := fun k a1 a2 a3 => by rw [h18.1 k a1 a2]; exact f1 k a1 a2 a3
      have y2 : ∀ j : Nat, j ≠ 27 → j ≠ 28 → j ≠ 37 → M18 46 j = M0 46 j := fun j a1 a2 a3 => by rw [h18.2.1 j a1 a2 a3]; exact f2 j a1 a2 a3
      have y5 : WR M18 L L.length := fun j j1 j2 => by rw [h18.1 77 (by omega) (by omega)]; exact hW j j1 j2
      rw [kb]
      refine ⟨fun g => ?_, fun g => ?_⟩
      · rw [if_pos g] at e19 ern
        subst e19
        rw [lz0]
        exact fin _ (baS S b (entS S b st) (gVo S b)) ln 0 0 x16 M18 bl (by omega) (by omega) (by omega) (by omega) (fun _ => ⟨rfl, rfl⟩) (fun z => by omega) y1 y2 h18.2.2.1 h18.2.2.2 y5 (fun z => by rw [ern, if_pos g, List.append_nil, if_pos (by omega), Int.add_zero]) (fun z => by rw [ern, if_neg (by omega)])
      · rw [if_neg g] at e19 ern
        subst e19
        rw [h18.2.2.1.1, lz1, zI_add, zI_add, zI_le (by omega) (by omega) (by omega) (by omega)]
        refine ⟨fun g2 => ?_, fun g2 M35 e35 M36 e36 => ?_⟩
        · rw [lz0]
          exact fin _ (baS S b (entS S b st) (gVo S b)) ln 1 0 x16 M18 bl (by omega) (by omega) (by omega) (by omega) (fun z => absurd z g) (fun _ => Or.inl ⟨rfl, rfl⟩) y1 y2 h18.2.2.1 h18.2.2.2 y5 (fun z => by rw [ern, if_neg g, if_pos z, if_neg (by omega)]) (fun z => by omega)
        · rw [if_neg (by omega)] at ern
          have z1 : ∀ k : Nat, k ≠ 46 → M36 k = M18 k := fun k a1 => by rw [e36, mset_o a1, e35, mset_o a1]
          have z2 : ∀ j : Nat, j ≠ 27 → j ≠ 28 → M36 46 j = M18 46 j := fun j a1 a2 => by rw [e36, mset_j a2, e35, mset_j a1]
          have w36 : RWT M36 none := by
            show M36 46 27 = 1
            rw [e36, mset_j (by omega), e35, mset_at]
            rfl
          have hB36 : PB M36 S mk sg := PB_of hB (fun k a1 a2 a3 => by rw [z1 k a1]; exact y1 k a1 a2 a3)
          refine x_layBar hB36 w36 hbb (fun M38 h38 => ?_)
          rw [lz0]
          refine fin _ (baS S b none (gVo S b)) 0 0 1 x16 M38 bl0 (by omega) (by omega) (by omega) (by omega) (fun z => absurd z g) (fun _ => Or.inr ⟨rfl, rfl⟩) (fun k a1 a2 a3 => by rw [h38.1 k a1 a2, z1 k a1]; exact y1 k a1 a2 a3) (fun j a1 a2 a3 => by rw [h38.2.1 j a1 a2 a3, z2 j a1 a2]; exact y2 j a1 a2 a3) h38.2.2.1 h38.2.2.2 (fun j j1 j2 => by rw [h38.1 77 (by omega) (by omega), z1 77 (by omega)]; exact y5 j j1 j2) (fun z => ?_) (fun z => ?_)
          · rw [ern, if_pos (by omega), if_neg g, if_pos rfl, Int.add_zero, Int.zero_add]
          · rw [ern, if_neg (by omega)]
end XWrite
