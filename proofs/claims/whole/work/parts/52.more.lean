section More
def bytB (p : Int64) (s : Nat) : BitVec 32 := ((p.toBitVec >>> s) &&& 255#64).setWidth 32
theorem byt_lt (x : BitVec 64) (s : Nat) : (((x >>> s) &&& 255#64).setWidth 32).toNat ≤ 255 := by
  rw [BitVec.toNat_setWidth, BitVec.toNat_and]
  have : (x >>> s).toNat &&& (255#64).toNat ≤ (255#64).toNat := Nat.and_le_right
  have e : (255#64).toNat = 255 := rfl
  rw [e] at this ⊢
  omega
theorem byt_same (x : BitVec 64) (s : Nat) (hs : s + 8 ≤ 64) : ((x.sshiftRight s).setWidth 32) &&& 255#32 = ((x >>> s) &&& 255#64).setWidth 32 := by
  apply BitVec.eq_of_getLsbD_eq
  intro i hi
  simp only [BitVec.getLsbD_and, BitVec.getLsbD_setWidth, BitVec.getLsbD_sshiftRight, BitVec.getLsbD_ushiftRight]
  have e1 : ∀ j : Nat, (255#32).getLsbD j = decide (j < 8) := by
    intro j
    by_cases h : j < 32
    · have : ∀ j : Fin 32, (255#32).getLsbD j.val = decide (j.val < 8) := by decide
      exact this ⟨j, h⟩
    · rw [BitVec.getLsbD_of_ge _ _ (by omega)]
      exact (decide_eq_false (by omega)).symm
  have e2 : ∀ j : Nat, (255#64).getLsbD j = decide (j < 8) := by
    intro j
    by_cases h : j < 64
    · have : ∀ j : Fin 64, (255#64).getLsbD j.val = decide (j.val < 8) := by decide
      exact this ⟨j, h⟩
    · rw [BitVec.getLsbD_of_ge _ _ (by omega)]
      exact (decide_eq_false (by omega)).symm
  rw [e1, e2]
  by_cases h : i < 8
  · simp [h, hi, show s + i < 64 by omega, show i < 64 by omega, show ¬ 64 ≤ i by omega]
  · simp [h]
theorem byt_A (p : Int64) (k : Nat) (hk : k < 8) : Int64.toInt32 (((Int64.toUInt64 p >>> ((Int32.toInt64 (zI (56 - 8 * (k : Int)))).toUInt64 &&& Int64.toUInt64 63)).toInt64) &&& 255) = ⟨⟨bytB p (56 - 8 * k)⟩⟩ := by
  have h : ((Int32.toInt64 (zI (56 - 8 * (k : Int)))).toUInt64 &&& Int64.toUInt64 63) = UInt64.ofNat (56 - 8 * k) := by
    have : ∀ k : Fin 8, ((Int32.toInt64 (zI (56 - 8 * (k.val : Int)))).toUInt64 &&& Int64.toUInt64 63) = UInt64.ofNat (56 - 8 * k.val) := by decide +kernel
    exact this ⟨k, hk⟩
  rw [h]
  apply Int32.toBitVec_inj.mp
  have e : (UInt64.ofNat (56 - 8 * k) % 64).toBitVec.toNat = 56 - 8 * k := by
    have : ∀ k : Fin 8, (UInt64.ofNat (56 - 8 * k.val) % 64).toBitVec.toNat = 56 - 8 * k.val := by decide +kernel
    exact this ⟨k, hk⟩
  show ((p.toBitVec >>> (UInt64.ofNat (56 - 8 * k) % 64).toBitVec.toNat) &&& 255#64).signExtend 32 = _
  rw [e]
  show _ = ((p.toBitVec >>> (56 - 8 * k)) &&& 255#64).setWidth 32
  rw [BitVec.signExtend_eq_setWidth_of_le _ (by omega)]
theorem byt_B (p : Int64) (k : Nat) (hk : k < 8) : (Int64.toInt32 (p >>> (Int32.toInt64 (56 - (8 * zI (k : Int))) &&& 63))) &&& 255 = ⟨⟨bytB p (56 - 8 * k)⟩⟩ := by
  have h : (Int32.toInt64 (56 - (8 * zI (k : Int))) &&& 63) = Int64.ofNat (56 - 8 * k) := by
    have : ∀ k : Fin 8, (Int32.toInt64 (56 - (8 * zI (k.val : Int))) &&& 63) = Int64.ofNat (56 - 8 * k.val) := by decide +kernel
    exact this ⟨k, hk⟩
  rw [h]
  apply Int32.toBitVec_inj.mp
  have e : ((Int64.ofNat (56 - 8 * k)).toBitVec.smod 64#64).toNat = 56 - 8 * k := by
    have : ∀ k : Fin 8, ((Int64.ofNat (56 - 8 * k.val)).toBitVec.smod 64#64).toNat = 56 - 8 * k.val := by decide +kernel
    exact this ⟨k, hk⟩
  show ((p.toBitVec.sshiftRight ((Int64.ofNat (56 - 8 * k)).toBitVec.smod 64#64).toNat).signExtend 32) &&& 255#32 = _
  rw [e]
  show _ = ((p.toBitVec >>> (56 - 8 * k)) &&& 255#64).setWidth 32
  rw [BitVec.signExtend_eq_setWidth_of_le _ (by omega), byt_same _ _ (by omega)]
/-- the bytes of a long, from the first -/
def byt (p : Int64) (k : Nat) : Int := ((bytB p (56 - 8 * k)).toNat : Int)
theorem byt_bd (p : Int64) (k : Nat) : 0 ≤ byt p k ∧ byt p k ≤ 255 := by
  have := byt_lt p.toBitVec (56 - 8 * k)
  unfold byt bytB
  omega
theorem byt_z (p : Int64) (k : Nat) : (⟨⟨bytB p (56 - 8 * k)⟩⟩ : Int32) = zI (byt p k) := by
  apply Int32.toBitVec_inj.mp
  show bytB p (56 - 8 * k) = BitVec.ofInt 32 ((bytB p (56 - 8 * k)).toNat : Int)
  rw [BitVec.ofInt_natCast, BitVec.ofNat_toNat, BitVec.setWidth_eq]
def badB (p : Int64) (k : Nat) : Prop := ¬ byt p k = 0 ∧ (byt p k < 64 ∨ 128 < byt p k)
/-- count and cells after so many bytes -/
def mst (p : Int64) (c : Nat) (row : Nat → Int) : Nat → Nat × (Nat → Int)
  | 0 => (c, row)
  | j + 1 => if byt p j = 0 then mst p c row j else ((mst p c row j).1 + 1, iup (mst p c row j).2 (mst p c row j).1 (byt p j - 64))
theorem mst_bd (p : Int64) (c : Nat) (row : Nat → Int) : ∀ j : Nat, c ≤ (mst p c row j).1 ∧ (mst p c row j).1 ≤ c + j
  | 0 => ⟨Nat.le_refl _, Nat.le_refl _⟩
  | j + 1 => by
    have := mst_bd p c row j
    unfold mst
    split
    · omega
    · show c ≤ (mst p c row j).1 + 1 ∧ (mst p c row j).1 + 1 ≤ c + (j + 1)
      omega
theorem mst_mono (p : Int64) (c : Nat) (row : Nat → Int) (j : Nat) : ∀ i : Nat, (mst p c row j).1 ≤ (mst p c row (j + i)).1
  | 0 => Nat.le_refl _
  | i + 1 => by
    have := mst_mono p c row j i
    show (mst p c row j).1 ≤ (mst p c row (j + i + 1)).1
    rw [show mst p c row (j + i + 1) = if byt p (j + i) = 0 then mst p c row (j + i) else ((mst p c row (j + i)).1 + 1, iup (mst p c row (j + i)).2 (mst p c row (j + i)).1 (byt p (j + i) - 64)) from rfl]
    split
    · exact this
    · show (mst p c row j).1 ≤ (mst p c row (j + i)).1 + 1
      omega
variable {M : Mem} {S : Mus} {c r m : Nat} {row : Nat → Int} {Q : Int32 → Mem → Prop}
theorem e_byteOf {p : Int64} {j : Nat} (hj : j < 8) (hQ : Q (zI (byt p j)) M) : w_X6_byteOf p (zI (56 - 8 * (j : Int))) M Q := by
  unfold w_X6_byteOf
  rw [byt_A p j hj, byt_z]
  exact hQ
theorem c_more (p : Int64) (h : CS M S c row r m) (hR : (∃ k : Nat, k < 8 ∧ badB p k) → Q (-2) M) (hF : (∀ k : Nat, k < 8 → ¬ badB p k) → 4000 < (mst p c row 8).1 → Q (-4) M) (hQ : (∀ k : Nat, k < 8 → ¬ badB p k) → (mst p c row 8).1 ≤ 4000 → ∀ M' : Mem, CS M' S (mst p c row 8).1 (mst p c row 8).2 r m → fz M M' → Q (zI ((mst p c row 8).1 : Nat)) M') : w_X6_more r p M Q := by
  have h3 := h.2.2.1
  have h8 := h.2.2.2.2.2.2.2.1
  have h9 := h.2.2.2.2.2.2.2.2.1
  have second : (∀ k : Nat, k < 8 → ¬ badB p k) → (mst p c row 8).1 ≤ 4000 → ∀ (l3 : Int32) (k j : Nat) (Mx : Mem), j ≤ 8 → 8 - j < k → CS Mx S (mst p c row j).1 (mst p c row j).2 r m → fz M Mx → w_X6_more_83 r Q k p l3 (zI (56 - 8 * (j : Int))) Mx := by
    intro hb hc l3 k
    induction k with
    | zero => intro j Mx g1 g2; omega
    | succ k ih =>
      intro j Mx hj hk hC hf
      show wb_X6_more_83 r Q (w_X6_more_83 r Q k) _ _ _ Mx
      unfold wb_X6_more_83
      have k0 : zI (56 - 8 * (j : Int)) < 0 ↔ j = 8 := by rw [lz0, zI_lt (by omega) (by omega) (by omega) (by omega)]; omega
      rw [k0]
      refine ⟨fun q => ⟨hC.2.2.1, ?_⟩, fun q => ?_⟩
      · subst q
        rw [hC.2.2.2.2.2.2.2.1]
        exact hQ hb hc Mx hC hf
      · have hbb := byt_bd p j
        have hnb := hb j (by omega)
        have nx : zI (56 - 8 * (j : Int)) + (-8) = zI (56 - 8 * ((j + 1 : Nat) : Int)) := by rw [ln8, zI_add]; congr 1; omega
        refine e_byteOf (by omega) ?_
        have k1 : zI (byt p j) = 0 ↔ byt p j = 0 := by rw [lz0, zI_eq (by omega) (by omega) (by omega) (by omega)]
        rw [k1, nx]
        have em : mst p c row (j + 1) = if byt p j = 0 then mst p c row j else ((mst p c row j).1 + 1, iup (mst p c row j).2 (mst p c row j).1 (byt p j - 64)) := rfl
        refine ⟨fun q1 x5 e5 => ?_, fun q1 => ⟨hC.2.2.1, ?_⟩⟩
        · subst e5
          rw [if_pos q1] at em
          exact ih (j + 1) Mx (by omega) (by omega) (by rw [em]; exact hC) hf
        · rw [if_neg q1] at em
          have mm := mst_mono p c row (j + 1) (8 - (j + 1))
          rw [show j + 1 + (8 - (j + 1)) = 8 by omega, em] at mm
          have mm' : (mst p c row j).1 + 1 ≤ (mst p c row 8).1 := mm
          unfold badB at hnb
          rw [lz64, zI_sub]
          refine e_put hC (by omega) (by omega) (fun M' g1 g2 g3 x9 e9 => ?_)
          subst e9
          exact ih (j + 1) M' (by omega) (by omega) (by rw [em]; exact g1) (fun k hk => (g2 k hk).trans (hf k hk))
  have first : ∀ (k j : Nat), j ≤ 8 → 8 - j < k → (∀ i : Nat, i < j → ¬ badB p i) → w_X6_more_6 r Q k p (zI (((mst p c row j).1 : Int) - c)) (zI (56 - 8 * (j : Int))) M := by
    intro k
    induction k with
    | zero => intro j g1 g2; omega
    | succ k ih =>
      intro j hj hk hn
      show wb_X6_more_6 r Q (w_X6_more_6 r Q k) _ _ _ M
      unfold wb_X6_more_6
      have k0 : zI (56 - 8 * (j : Int)) < 0 ↔ j = 8 := by rw [lz0, zI_lt (by omega) (by omega) (by omega) (by omega)]; omega
      have mb := mst_bd p c row j
      rw [k0, h8, zI_add, lz4000, zI_le (by omega) (by omega) (by omega) (by omega)]
      refine ⟨fun q => ⟨h3, fun q1 => ⟨9, ?_⟩, fun q1 => ?_⟩, fun q => ?_⟩
      · subst q
        exact second hn (by omega) _ 9 0 M (by omega) (by omega) h fz_rf
      · subst q
        exact hF hn (by omega)
      · have hbb := byt_bd p j
        refine e_byteOf (by omega) ?_
        have k1 : zI (byt p j) = 0 ↔ byt p j = 0 := by rw [lz0, zI_eq (by omega) (by omega) (by omega) (by omega)]
        have k2 : zI (byt p j) < 64 ↔ byt p j < 64 := by rw [lz64, zI_lt (by omega) (by omega) (by omega) (by omega)]
        have k3 : zI (byt p j) ≤ 128 ↔ byt p j ≤ 128 := by rw [lz128, zI_le (by omega) (by omega) (by omega) (by omega)]
        have em : mst p c row (j + 1) = if byt p j = 0 then mst p c row j else ((mst p c row j).1 + 1, iup (mst p c row j).2 (mst p c row j).1 (byt p j - 64)) := rfl
        have go : ¬ badB p j → w_X6_more_42 r Q (w_X6_more_6 r Q k) p (zI (((mst p c row j).1 : Int) - c)) (zI (56 - 8 * (j : Int))) (zI (byt p j)) M := by
          intro hnb z12 e12 x13 e13 x14 e14
          simp only [k1] at e12
          have e14' : x14 = zI (56 - 8 * ((j + 1 : Nat) : Int)) := by rw [e14, ln8, zI_add]; congr 1; omega
          have e13' : x13 = zI (((mst p c row (j + 1)).1 : Int) - c) := by
            rw [e13, e12, em]
            by_cases g : byt p j = 0
            · rw [if_pos g, if_pos g, lz0, zI_add]; congr 1; omega
            · rw [if_neg g, if_neg g, lz1, zI_add]
              congr 1
              show _ = (((mst p c row j).1 + 1 : Nat) : Int) - c
              omega
          subst e13' e14'
          refine ih (j + 1) (by omega) (by omega) (fun i hi => ?_)
          by_cases g : i = j
          · subst g; exact hnb
          · exact hn i (by omega)
        rw [k1, k2, k3]
        refine ⟨fun q1 => go (fun z => z.1 q1), fun q1 => ⟨fun q2 => hR ⟨j, by omega, q1, Or.inl q2⟩, fun q2 => ⟨fun q3 => go (fun z => by have := z.2; omega), fun q3 => hR ⟨j, by omega, q1, Or.inr (by omega)⟩⟩⟩⟩
  refine ⟨9, ?_⟩
  have := first 9 0 (by omega) (by omega) (fun i hi => by omega)
  rw [show ((mst p c row 0).1 : Int) - c = 0 by show ((c : Nat) : Int) - c = 0; omega, ← lz0, show (56 - 8 * ((0 : Nat) : Int)) = 56 by omega, ← lz56] at this
  exact this
theorem x_more (p : Int64) (h : RS M S c row) (hR : (∃ k : Nat, k < 8 ∧ badB p k) → Q (-2) M) (hF : (∀ k : Nat, k < 8 → ¬ badB p k) → 4000 < (mst p c row 8).1 → Q (-4) M) (hQ : (∀ k : Nat, k < 8 → ¬ badB p k) → (mst p c row 8).1 ≤ 4000 → ∀ M' : Mem, RS M' S (mst p c row 8).1 (mst p c row 8).2 → fl M M' → Q (zI ((mst p c row 8).1 : Nat)) M') : w_X7_more p M Q := by
  have h8 := h.1
  have h9 := h.2.1
  have second : (∀ k : Nat, k < 8 → ¬ badB p k) → (mst p c row 8).1 ≤ 4000 → ∀ (l3 : Int32) (k j : Nat) (Mx : Mem), j ≤ 8 → 8 - j < k → RS Mx S (mst p c row j).1 (mst p c row j).2 → fl M Mx → w_X7_more_89 Q k p l3 (zI (j : Int)) Mx := by
    intro hb hc l3 k
    induction k with
    | zero => intro j Mx g1 g2; omega
    | succ k ih =>
      intro j Mx hj hk hC hf
      show wb_X7_more_89 Q (w_X7_more_89 Q k) _ _ _ Mx
      unfold wb_X7_more_89
      have k0 : (8 : Int32) ≤ zI (j : Int) ↔ j = 8 := by rw [lz8, zI_le (by omega) (by omega) (by omega) (by omega)]; omega
      have m8 := mst_mono p c row j (8 - j)
      rw [show j + (8 - j) = 8 by omega] at m8
      rw [k0, hC.1]
      refine ⟨fun q => ?_, fun q x1 e1 => ?_⟩
      · subst q
        exact hQ hb hc Mx hC hf
      · have hbb := byt_bd p j
        have hnb := hb j (by omega)
        have nx : zI (j : Int) + 1 = zI ((j + 1 : Nat) : Int) := by rw [lz1, zI_add]; rfl
        rw [byt_B p j (by omega), byt_z] at e1
        subst e1
        have k1 : zI (byt p j) = 0 ↔ byt p j = 0 := by rw [lz0, zI_eq (by omega) (by omega) (by omega) (by omega)]
        rw [k1, nx]
        have em : mst p c row (j + 1) = if byt p j = 0 then mst p c row j else ((mst p c row j).1 + 1, iup (mst p c row j).2 (mst p c row j).1 (byt p j - 64)) := rfl
        refine ⟨fun q1 x5 e5 => ?_, fun q1 => ?_⟩
        · subst e5
          rw [if_pos q1] at em
          exact ih (j + 1) Mx (by omega) (by omega) (by rw [em]; exact hC) hf
        · rw [if_neg q1] at em
          have mm := mst_mono p c row (j + 1) (8 - (j + 1))
          rw [show j + 1 + (8 - (j + 1)) = 8 by omega, em] at mm
          have mm' : (mst p c row j).1 + 1 ≤ (mst p c row 8).1 := mm
          rw [zI_in (by omega) (by omega), zI_tn (by omega) (by omega), tn_nat, lz64, zI_sub]
          refine ⟨by omega, fun M4 e4 M5 e5 x6 e6 => ?_⟩
          subst e6
          have e46 : M4 46 6 = zI ((mst p c row j).1 : Int) := by rw [e4, mset_o (by omega)]; exact hC.1
          rw [e46, lz1, zI_add] at e5
          obtain ⟨g1, g2⟩ := RS_row (M' := M5) (c' := (mst p c row j).1 + 1) (row' := iup (mst p c row j).2 (mst p c row j).1 (byt p j - 64)) hC (fun k q1 q2 => by rw [e5, mset_o q1, e4, mset_o q2]) (by rw [e5, mset_j (by omega), e4, mset_o (by omega)]) (by rw [e5, mset_at]; rfl) (by omega) (fun i hi => by
            rw [e5, mset_o (by omega), e4]
            show mset Mx 52 (mst p c row j).1 (zI (byt p j - 64)) 52 i = zI (if i = (mst p c row j).1 then byt p j - 64 else (mst p c row j).2 i)
            by_cases g : i = (mst p c row j).1
            · rw [g, mset_at, if_pos rfl]
            · rw [mset_j g, if_neg g]; exact hC.2.2.2.1 i (by omega))
          exact ih (j + 1) M5 (by omega) (by omega) (by rw [em]; exact g1) (fun k hk => (g2 k hk).trans (hf k hk))
  have first : ∀ (k j : Nat), j ≤ 8 → 8 - j < k → (∀ i : Nat, i < j → ¬ badB p i) → w_X7_more_5 Q k p (zI (((mst p c row j).1 : Int) - c)) (zI (j : Int)) M := by
    intro k
    induction k with
    | zero => intro j g1 g2; omega
    | succ k ih =>
      intro j hj hk hn
      show wb_X7_more_5 Q (w_X7_more_5 Q k) _ _ _ M
      unfold wb_X7_more_5
      have k0 : (8 : Int32) ≤ zI (j : Int) ↔ j = 8 := by rw [lz8, zI_le (by omega) (by omega) (by omega) (by omega)]; omega
      have mb := mst_bd p c row j
      rw [k0, h8, zI_add, lz4000, zI_le (by omega) (by omega) (by omega) (by omega)]
      refine ⟨fun q => ⟨fun q1 => ⟨9, ?_⟩, fun q1 => ?_⟩, fun q x7 e7 => ?_⟩
      · subst q
        exact second hn (by omega) _ 9 0 M (by omega) (by omega) h fl_rf
      · subst q
        exact hF hn (by omega)
      · have hbb := byt_bd p j
        rw [byt_B p j (by omega), byt_z] at e7
        subst e7
        have k1 : zI (byt p j) = 0 ↔ byt p j = 0 := by rw [lz0, zI_eq (by omega) (by omega) (by omega) (by omega)]
        have k2 : zI (byt p j) < 64 ↔ byt p j < 64 := by rw [lz64, zI_lt (by omega) (by omega) (by omega) (by omega)]
        have k3 : zI (byt p j) ≤ 128 ↔ byt p j ≤ 128 := by rw [lz128, zI_le (by omega) (by omega) (by omega) (by omega)]
        have em : mst p c row (j + 1) = if byt p j = 0 then mst p c row j else ((mst p c row j).1 + 1, iup (mst p c row j).2 (mst p c row j).1 (byt p j - 64)) := rfl
        have go : ¬ badB p j → w_X7_more_52 Q (w_X7_more_5 Q k) p (zI (((mst p c row j).1 : Int) - c)) (zI (j : Int)) (zI (byt p j)) M := by
          intro hnb z12 e12 x13 e13 x14 e14
          simp only [k1] at e12
          have e14' : x14 = zI ((j + 1 : Nat) : Int) := by rw [e14, lz1, zI_add]; rfl
          have e13' : x13 = zI (((mst p c row (j + 1)).1 : Int) - c) := by
            rw [e13, e12, em]
            by_cases g : byt p j = 0
            · rw [if_pos g, if_pos g, lz0, zI_add]; congr 1; omega
            · rw [if_neg g, if_neg g, lz1, zI_add]
              congr 1
              show _ = (((mst p c row j).1 + 1 : Nat) : Int) - c
              omega
          subst e13' e14'
          refine ih (j + 1) (by omega) (by omega) (fun i hi => ?_)
          by_cases g : i = j
          · subst g; exact hnb
          · exact hn i (by omega)
        rw [k1, k2, k3]
        refine ⟨fun q1 => go (fun z => z.1 q1), fun q1 => ⟨fun q2 => hR ⟨j, by omega, q1, Or.inl q2⟩, fun q2 => ⟨fun q3 => go (fun z => by have := z.2; omega), fun q3 => hR ⟨j, by omega, q1, Or.inr (by omega)⟩⟩⟩⟩
  refine ⟨9, ?_⟩
  have := first 9 0 (by omega) (by omega) (fun i hi => by omega)
  rw [show ((mst p c row 0).1 : Int) - c = 0 by show ((c : Nat) : Int) - c = 0; omega, show ((0 : Nat) : Int) = 0 from rfl, ← lz0] at this
  exact this
theorem op_more {K : Int32 → Int32 → Mem → Prop} {R : Int32 → Mem → Prop} (h : ST M S c row r m) (p : Int64) (hR : ∀ v M1, fz M M1 → w_X7_more p M1 (K v) → R v M1) (hK : ∀ v M2, INV M2 → ke M M2 → K v v M2) : w_X6_more r p M R := by
  have same : INV M := ⟨S, c, row, r, m, h⟩
  refine c_more p h.1 (fun g => ?_) (fun g1 g2 => ?_) (fun g1 g2 M1 h1 f1 => ?_)
  · obtain ⟨k, k1, k2⟩ := g
    exact hR _ _ fz_rf (x_more p h.2.1 (fun _ => hK _ _ same ke_rf) (fun z => absurd k2 (z k k1)) (fun z => absurd k2 (z k k1)))
  · exact hR _ _ fz_rf (x_more p h.2.1 (fun ⟨k, k1, k2⟩ => absurd k2 (g1 k k1)) (fun _ _ => hK _ _ same ke_rf) (fun _ z => by omega))
  · exact hR _ _ f1 (x_more p (RS_fz h.2.1 f1) (fun ⟨k, k1, k2⟩ => absurd k2 (g1 k k1)) (fun _ z => by omega) (fun _ _ M2 h2 f2 => hK _ _ (inv_of h1 f2 h2 h.2.2) (ke_of f1 f2)))
end More
