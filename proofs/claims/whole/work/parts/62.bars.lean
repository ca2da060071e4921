section Bars
variable {M0 M : Mem} {S : Mus} {r m : Nat} {mk sg : Nat → Int} {L : List Int} {st : Option Int} {Q : Int32 → Mem → Prop}
theorem e_putSize {s : Int} (hB : WB M0 r m S mk sg) (h : WS M0 M r L st) (hl : L.length ≤ 300000) (hs : -1 ≤ s ∧ s ≤ 2) (hQ : ∀ M' : Mem, WS M0 M' r (L ++ szC s) st → Q 0 M') : w_X4_putSize r m (zI s) M Q := by
  unfold w_X4_putSize
  intro z1 e1
  have k1 : zI s = 0 ↔ s = 0 := by rw [lz0, zI_eq (by omega) (by omega) (by omega) (by omega)]
  simp only [k1] at e1
  have e1' : z1 = zI (if s = 0 then 24 else 32) := by
    rw [e1]
    by_cases g : s = 0
    · rw [if_pos g, if_pos g]; rfl
    · rw [if_neg g, if_neg g]; rfl
  have hz : 0 ≤ (if s = 0 then (24 : Int) else 32) ∧ (if s = 0 then (24 : Int) else 32) ≤ 64 := by split <;> omega
  subst e1'
  rw [lz35, lz2]
  refine e_putTwo hB h (by omega) hz (by omega) (fun M1 h1 => ⟨(WS_42 hB h1).1, e_put1 hB.1 h1 (by simp only [List.length_append, List.length_cons, List.length_nil]; omega) (by omega) (fun M2 h2 => hQ M2 ?_)⟩)
  rw [List.append_assoc] at h2
  exact h2
theorem e_forget {st' : Option Int} (hB : WB M0 r m S mk sg) (h : WS M0 M r L st') (hQ : ∀ M' : Mem, WS M0 M' r L none → Q 0 M') : w_X1_forget 43 M Q := by
  have r4 : r ≤ 3 ∧ 1 ≤ r := by rcases hB.1 with rfl | rfl <;> omega
  intro M1 e1
  obtain ⟨h1, h2, h3, h4⟩ := h
  refine hQ M1 ⟨fun k g1 g2 g3 => by rw [e1, mset_o g3]; exact h1 k g1 g2 g3, ⟨by rw [e1, mset_o (by omega)]; exact h2.1, fun j j1 j2 => by rw [e1, mset_o (by omega)]; exact h2.2 j j1 j2⟩, h3, ?_⟩
  show ¬ M1 43 1 = 0
  rw [e1, mset_at]
  decide
theorem e_voice {b v : Nat} {st1 : Option Int} {B23 : Int32 → Int32 → Mem → Prop} (hB : WB M0 r m S mk sg) (h : WS M0 M r L st1) (hl : L.length ≤ 250000) (hb : b < gNb S) (hvv : v < gVo S b) (hQ : ∀ M' : Mem, WS M0 M' r (L ++ voL S mk (sg (3 * b + v)) (gFo S (3 * b + v)) st1 (gSz S (3 * b + v))) (voS S (gFo S (3 * b + v)) st1 (gSz S (3 * b + v))) → B23 (zI b) (zI ((v + 1 : Nat) : Int)) M') : ∃ k, w_X4_putBar_64 r m Q B23 k (zI b) (zI v) (zI ((3 * b + v : Nat) : Int)) 0 M := by
  have hv := hB.2.2.2.2.2.2.1
  have hm := WB_m hB
  have hni := hv.2.2.2.1
  have hnb := hv.2.2.1
  have hb3 := hv.2.2.2.2.1 b hb
  obtain ⟨hr1, hr2, hr3⟩ := hv.2.2.2.2.2.2.1 b v hb hvv
  have hsg := hB.2.2.2.2.2.2.2.2 b v hb hvv
  generalize hs : 3 * b + v = s at *
  refine ⟨gSz S s + 1, ?_⟩
  have key : ∀ (k n : Nat) (Mx : Mem), n ≤ gSz S s → gSz S s - n < k → WS M0 Mx r (L ++ voL S mk (sg s) (gFo S s) st1 n) (voS S (gFo S s) st1 n) → w_X4_putBar_64 r m Q B23 k (zI b) (zI v) (zI s) (zI n) Mx := by
    intro k
    induction k with
    | zero => intro n Mx g1 g2; omega
    | succ k ih =>
      intro n Mx hn hk hx
      have vl := voL_len (mk := mk) (g := sg s) (st := st1) hv n (f0 := gFo S s) (by omega)
      have hW := WS_MW hB hx
      obtain ⟨e2, e3⟩ := hW.2.2.2.2.2.1 b v hb hvv
      rw [hs] at e2 e3
      show wb_X4_putBar_64 r m Q B23 (w_X4_putBar_64 r m Q B23 k) _ _ _ _ Mx
      unfold wb_X4_putBar_64
      rw [zI_in (by omega) (by omega), zI_tn (a := (s : Int)) (by omega) (by omega), tn_nat, e2, e3, WS_hi hB hx (k := 45) (by omega) (by omega), hsg.1, zI_le (by omega) (by omega) (by omega) (by omega)]
      refine ⟨(WS_42 hB hx).2, by omega, fun q x8 e8 => ?_, fun q => ⟨(WS_42 hB hx).2, by omega, fun x11 e11 => ⟨by omega, ?_⟩⟩⟩
      · have e8' : x8 = zI ((v + 1 : Nat) : Int) := by rw [e8, lz1, zI_add]; rfl
        subst e8'
        have : n = gSz S s := by omega
        subst this
        exact hQ Mx hx
      · have e11' : x11 = zI ((gFo S s + n : Nat) : Int) := by rw [e11, zI_add]; rfl
        subst e11'
        have hi : gFo S s + n < gNi S := by omega
        obtain ⟨-, -, -, -, -, w5, w6, -, -, w9, -⟩ := hv.2.2.2.2.2.1 _ hi
        have e9 : Mx (m + 9) (gFo S s + n) = zI (gIt S (gFo S s + n) 5) := MW_at hW hi (a := 5) (by omega)
        have nx : zI (n : Int) + 1 = zI ((n + 1 : Nat) : Int) := by rw [lz1, zI_add]; rfl
        have plain : ¬ (sg s = 1 ∧ (n = 0 ∨ ¬ gIt S (gFo S s + n) 5 = gIt S (gFo S s + n - 1) 5)) → w_X4_putItem r m (zI ((gFo S s + n : Nat) : Int)) Mx (fun v13 M14 => ∀ x15 : Int32, x15 = zI (n : Int) + 1 → w_X4_putBar_64 r m Q B23 k (zI b) (zI v) (zI s) x15 M14) := by
          intro hno
          refine e_putItem hB hx (by simp only [List.length_append]; omega) hi (fun M' h' x15 e15 => ?_)
          rw [e15, nx]
          refine ih (n + 1) M' (by omega) (by omega) ?_
          rw [show voL S mk (sg s) (gFo S s) st1 (n + 1) = voL S mk (sg s) (gFo S s) st1 n ++ (if sg s = 1 ∧ (n = 0 ∨ ¬ gIt S (gFo S s + n) 5 = gIt S (gFo S s + n - 1) 5) then szC (gIt S (gFo S s + n) 5) else []) ++ itC S (mk (gFo S s + n)) (gFo S s + n) (voS S (gFo S s) st1 n) from rfl, if_neg hno, List.append_nil, ← List.append_assoc]
          exact h'
        have signed : (sg s = 1 ∧ (n = 0 ∨ ¬ gIt S (gFo S s + n) 5 = gIt S (gFo S s + n - 1) 5)) → w_X4_putBar_131 r m Q B23 (w_X4_putBar_64 r m Q B23 k) (zI b) (zI v) (zI s) (zI n) (zI ((gFo S s + n : Nat) : Int)) Mx := by
          intro hyes
          unfold w_X4_putBar_131
          rw [zI_in (by omega) (by omega), zI_tn (by omega) (by omega), tn_nat, e9]
          refine ⟨(WS_42 hB hx).2, by omega, e_putSize hB hx (by simp only [List.length_append]; omega) w5 (fun M19 h19 => e_putItem hB h19 (by simp only [List.length_append]; have : (szC (gIt S (gFo S s + n) 5)).length = 3 := rfl; omega) hi (fun M' h' x22 e22 => ?_))⟩
          rw [e22, nx]
          refine ih (n + 1) M' (by omega) (by omega) ?_
          rw [show voL S mk (sg s) (gFo S s) st1 (n + 1) = voL S mk (sg s) (gFo S s) st1 n ++ (if sg s = 1 ∧ (n = 0 ∨ ¬ gIt S (gFo S s + n) 5 = gIt S (gFo S s + n - 1) 5) then szC (gIt S (gFo S s + n) 5) else []) ++ itC S (mk (gFo S s + n)) (gFo S s + n) (voS S (gFo S s) st1 n) from rfl, if_pos hyes, ← List.append_assoc, ← List.append_assoc]
          exact h'
        have k0 : zI (sg s) = 0 ↔ sg s = 0 := by rw [lz0, zI_eq (by omega) (by omega) (by omega) (by omega)]
        have k1 : zI (n : Int) = 0 ↔ n = 0 := by rw [lz0, zI_eq (by omega) (by omega) (by omega) (by omega)]; omega
        rw [k0, k1]
        refine ⟨fun g => plain (by omega), fun g => ⟨fun g2 => signed ⟨by omega, Or.inl g2⟩, fun g2 => ?_⟩⟩
        have hi1 : gFo S s + n - 1 < gNi S := by omega
        have e91 : Mx (m + 9) (gFo S s + n - 1) = zI (gIt S (gFo S s + n - 1) 5) := MW_at hW hi1 (a := 5) (by omega)
        obtain ⟨-, -, -, -, -, w51, -⟩ := hv.2.2.2.2.2.1 _ hi1
        rw [zI_in (by omega) (by omega), zI_tn (a := ((gFo S s + n : Nat) : Int)) (by omega) (by omega), tn_nat, lz1, zI_sub, zI_in (by omega) (by omega), zI_tn (by omega) (by omega), show (((gFo S s + n : Nat) : Int) - 1).toNat = gFo S s + n - 1 by omega, e9, e91, zI_eq (by omega) (by omega) (by omega) (by omega), ← lz1]
        refine ⟨(WS_42 hB hx).2, by omega, (WS_42 hB hx).2, by omega, fun g3 => plain (fun z => ?_), fun g3 => signed ⟨by omega, Or.inr g3⟩⟩
        rcases z.2 with z2 | z2
        · exact g2 z2
        · exact z2 g3
  exact key _ 0 M (by omega) (by omega) (by show WS M0 M r (L ++ []) st1; rw [List.append_nil]; exact h)
theorem e_putBar {b : Nat} (hB : WB M0 r m S mk sg) (h : WS M0 M r L st) (hl : L.length ≤ 200000) (hb : b < gNb S) (hQ : ∀ M' : Mem, WS M0 M' r (L ++ barL S mk sg b st) (baS S b st (gVo S b)) → Q 0 M') : w_X4_putBar r m (zI b) M Q := by
  have hv := hB.2.2.2.2.2.2.1
  have hm := WB_m hB
  have hnb := hv.2.2.1
  have hb3 := hv.2.2.2.2.1 b hb
  have loop : ∀ (L1 : List Int), L1.length ≤ 200001 → (∀ M' : Mem, WS M0 M' r (L1 ++ baL S mk sg b st (gVo S b)) (baS S b st (gVo S b)) → Q 0 M') → ∀ (k v : Nat) (Mx : Mem), v ≤ gVo S b → gVo S b - v < k → WS M0 Mx r (L1 ++ baL S mk sg b st v) (baS S b st v) → w_X4_putBar_23 r m Q k (zI b) (zI v) Mx := by
    intro L1 hl1 hQ1 k
    induction k with
    | zero => intro v Mx g1 g2; omega
    | succ k ih =>
      intro v Mx hv2 hk hx
      have bl := baL_len (mk := mk) (sg := sg) (st := st) hv hb v hv2
      have e1 : Mx (m + 1) b = zI (gVo S b) := (WS_MW hB hx).2.2.2.2.1 b hb
      show wb_X4_putBar_23 r m Q (w_X4_putBar_23 r m Q k) _ _ Mx
      unfold wb_X4_putBar_23
      have k0 : zI (v : Int) ≤ 0 ↔ v = 0 := by rw [lz0, zI_le (by omega) (by omega) (by omega) (by omega)]; omega
      rw [zI_in (by omega) (by omega), zI_tn (by omega) (by omega), tn_nat, e1, zI_le (by omega) (by omega) (by omega) (by omega), k0]
      refine ⟨(WS_42 hB hx).2, by omega, fun q => ?_, fun q => ⟨fun q1 => ?_, fun q1 => ?_⟩⟩
      · have : v = gVo S b := by omega
        subst this
        exact hQ1 Mx hx
      · subst q1
        intro x5 e5
        have e5' : x5 = zI ((3 * b + 0 : Nat) : Int) := by rw [e5, lz3, zI_mul, zI_add]; congr 1; omega
        subst e5'
        refine e_voice hB hx (by simp only [List.length_append]; omega) hb (by omega) (fun M' h' => ih 1 M' (by omega) (by omega) ?_)
        show WS M0 M' r (L1 ++ ([] ++ [] ++ voL S mk (sg (3 * b + 0)) (gFo S (3 * b + 0)) (inS 0 st) (gSz S (3 * b + 0)))) _
        rw [List.nil_append, List.nil_append]
        have h'' := h'
        rw [show baL S mk sg b st 0 = [] from rfl, List.append_nil] at h''
        exact h''
      · rw [lz35, lz28]
        refine e_putTwo hB hx (by simp only [List.length_append]; omega) (by omega) (by omega) (fun M1 h1 => e_forget hB h1 (fun M2 h2 x5 e5 => ?_))
        have e5' : x5 = zI ((3 * b + v : Nat) : Int) := by rw [e5, lz3, zI_mul, zI_add]; congr 1; omega
        subst e5'
        refine e_voice hB h2 (by simp only [List.length_append, List.length_cons, List.length_nil]; omega) hb (by omega) (fun M' h' => ih (v + 1) M' (by omega) (by omega) ?_)
        show WS M0 M' r (L1 ++ (baL S mk sg b st v ++ (if v = 0 then [] else [35, 28]) ++ voL S mk (sg (3 * b + v)) (gFo S (3 * b + v)) (inS v st) (gSz S (3 * b + v)))) (voS S (gFo S (3 * b + v)) (inS v st) (gSz S (3 * b + v)))
        rw [if_neg q1, show inS v st = none from if_neg q1, ← List.append_assoc, ← List.append_assoc]
        exact h'
  have e1 : M (m + 1) b = zI (gVo S b) := (WS_MW hB h).2.2.2.2.1 b hb
  unfold w_X4_putBar
  have k0 : zI (gVo S b : Int) = 0 ↔ gVo S b = 0 := by rw [lz0, zI_eq (by omega) (by omega) (by omega) (by omega)]; omega
  rw [zI_in (by omega) (by omega), zI_tn (by omega) (by omega), tn_nat, e1, k0]
  refine ⟨(WS_42 hB h).2, by omega, fun q => ⟨gVo S b + 1, ?_⟩, fun q => ⟨(WS_42 hB h).1, ?_⟩⟩
  · refine loop L (by omega) (fun M' h' => hQ M' ?_) _ 0 M (by omega) (by omega) (by show WS M0 M r (L ++ []) st; rw [List.append_nil]; exact h)
    unfold barL
    rw [if_neg q, List.nil_append]
    exact h'
  · rw [lz54]
    refine e_put1 hB.1 h (by omega) (by omega) (fun M1 h1 => ⟨gVo S b + 1, loop (L ++ [54]) (by simp only [List.length_append, List.length_cons, List.length_nil]; omega) (fun M' h' => hQ M' ?_) _ 0 M1 (by omega) (by omega) (by show WS M0 M1 r (L ++ [54] ++ []) st; rw [List.append_nil]; exact h1)⟩)
    unfold barL
    rw [if_pos q, ← List.append_assoc]
    exact h'
end Bars
