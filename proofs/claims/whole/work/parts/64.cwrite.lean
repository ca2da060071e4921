section CWrite
variable {M0 M : Mem} {S : Mus} {c r m : Nat} {row : Nat → Int} {mk sg : Nat → Int} {L : List Int} {st : Option Int} {Q : Int32 → Mem → Prop} {wd : Int}
def WS0 (M0 M : Mem) (r : Nat) (L : List Int) : Prop := (∀ k : Nat, k ≠ r → k ≠ r + 1 → k ≠ 43 → M k = M0 k) ∧ TP M r 1 (r + 1) L ∧ okL L
theorem WS_of {M : Mem} (h : WS0 M0 M r L) (w : WT M 43 st) : WS M0 M r L st := ⟨h.1, h.2.1, h.2.2, w⟩
theorem WS0_of (h : WS M0 M r L st) : WS0 M0 M r L := ⟨h.1, h.2.1, h.2.2.1⟩
theorem e_put0 {a : Int} (hr : RW r) (h : WS0 M0 M r L) (hl : L.length ≤ 900000) (ha : 0 ≤ a ∧ a ≤ 64) (hQ : ∀ M' : Mem, WS0 M0 M' r (L ++ [a]) → Q 0 M') : w_X2_put r (zI a) M Q := by
  have r4 : r ≤ 3 ∧ 1 ≤ r := by rcases hr with rfl | rfl <;> omega
  obtain ⟨h1, h2, h3⟩ := h
  unfold w_X2_put
  rw [h2.1, lz4000, zI_le (by omega) (by omega) (by omega) (by omega), zI_in (by omega) (by omega), zI_tn (by omega) (by omega), tn_nat, lz1, zI_add]
  refine ⟨fun q M1 e1 => ?_, fun q => ⟨by omega, fun M3 e3 M4 e4 => ?_⟩⟩
  · exact hQ M1 ⟨fun k g1 g2 g3 => by rw [e1, mset_o g1]; exact h1 k g1 g2 g3, TP_over h2 (by omega) (by omega) e1, okL_snoc h3 ha⟩
  · have e5 : M3 r 1 = zI (L.length : Int) := by rw [e3, mset_o (by omega)]; exact h2.1
    rw [e5, zI_add] at e4
    exact hQ M4 ⟨fun k g1 g2 g3 => by rw [e4, mset_o g1, e3, mset_o g2]; exact h1 k g1 g2 g3, TP_snoc h2 (by omega) e3 e4, okL_snoc h3 ha⟩
theorem WS0_hi (hB : WB M0 r m S mk sg) (h : WS0 M0 M r L) {k : Nat} (hk : 5 ≤ k) (hk2 : k ≠ 43) : M k = M0 k := by
  have r4 : r ≤ 3 ∧ 1 ≤ r := by rcases hB.1 with rfl | rfl <;> omega
  exact h.1 k (by omega) (by omega) hk2
theorem WS0_42 (hB : WB M0 r m S mk sg) (h : WS0 M0 M r L) : M 42 4 = nI r ∧ M 42 5 = nI m := by
  rw [WS0_hi hB h (by omega) (by omega)]
  exact ⟨hB.2.2.1, hB.2.2.2.1⟩
theorem WS0_MW (hB : WB M0 r m S mk sg) (h : WS0 M0 M r L) : MW M m S := MW_far hB.2.2.2.2.2.1 (fun k g1 g2 => WS0_hi hB h (by have := WB_m hB; omega) (by have := WB_m hB; omega))
theorem e_putHand (hB : WB M0 r m S mk sg) (h : WS0 M0 M r []) (hQ : ∀ M' : Mem, WS0 M0 M' r (hdC S) → Q 0 M') : w_X4_putHand r m M Q := by
  have hv := hB.2.2.2.2.2.2.1
  have hh := hv.2.1
  have e1 := (WS0_MW hB h).2.1
  unfold w_X4_putHand
  have k0 : zI (gHd S) = 0 ↔ gHd S = 0 := by rw [lz0, zI_eq (by omega) (by omega) (by omega) (by omega)]
  have k2 : zI (gHd S) = 2 ↔ gHd S = 2 := by rw [lz2, zI_eq (by omega) (by omega) (by omega) (by omega)]
  rw [e1, k0]
  simp only [k2]
  refine ⟨(WS0_42 hB h).2, fun q => hQ M ?_, fun q => ⟨(WS0_42 hB h).2, fun z3 e3 => ?_⟩⟩
  · unfold hdC
    rw [if_pos q]
    exact h
  · have e3' : z3 = zI (if gHd S = 2 then 56 else 40) := by
      rw [e3]
      by_cases g : gHd S = 2
      · rw [if_pos g, if_pos g]; rfl
      · rw [if_neg g, if_neg g]; rfl
    subst e3'
    have hz : 0 ≤ (if gHd S = 2 then (56 : Int) else 40) ∧ (if gHd S = 2 then (56 : Int) else 40) ≤ 64 := by split <;> omega
    rw [lz28]
    refine ⟨(WS0_42 hB h).1, e_put0 hB.1 h (by show 0 ≤ 900000; omega) hz (fun M1 h1 => ⟨(WS0_42 hB h1).1, e_put0 hB.1 h1 (by show 1 ≤ 900000; omega) (by omega) (fun M2 h2 => hQ M2 ?_)⟩)⟩
    unfold hdC
    rw [if_neg q]
    by_cases g : gHd S = 2
    · rw [if_pos g] at h2 ⊢
      exact h2
    · rw [if_neg g] at h2 ⊢
      exact h2
theorem e_enter {b : Nat} (hB : WB M0 r m S mk sg) (h : WS0 M0 M r L) (hb : b < gNb S) (hw : 0 < b → WT M 43 st) (hQ : ∀ M' : Mem, WS M0 M' r L (entS S b st) → Q 0 M') : w_X1_enterBar 43 m (zI b) M Q := by
  have hv := hB.2.2.2.2.2.2.1
  have hnb := hv.2.2.1
  have hW := WS0_MW hB h
  have r4 : r ≤ 3 ∧ 1 ≤ r := by rcases hB.1 with rfl | rfl <;> omega
  unfold w_X1_enterBar
  have k0 : zI (b : Int) ≤ 0 ↔ b = 0 := by rw [lz0, zI_le (by omega) (by omega) (by omega) (by omega)]; omega
  have k1 : zI (gNb S : Int) < zI (b : Int) ↔ False := by rw [zI_lt (by omega) (by omega) (by omega) (by omega)]; exact ⟨fun z => by omega, fun z => z.elim⟩
  rw [hW.2.2.1, lz1, zI_sub, zI_in (by omega) (by omega), zI_tn (by omega) (by omega)]
  simp only [k0, k1]
  have forget : entS S b st = none → w_X1_forget 43 M (fun v3 M4 => Q 0 M4) := by
    intro he M1 e1
    refine hQ M1 ?_
    rw [he]
    obtain ⟨h1, h2, h3⟩ := h
    refine ⟨fun k g1 g2 g3 => by rw [e1, mset_o g3]; exact h1 k g1 g2 g3, ⟨by rw [e1, mset_o (by omega)]; exact h2.1, fun j j1 j2 => by rw [e1, mset_o (by omega)]; exact h2.2 j j1 j2⟩, h3, ?_⟩
    show ¬ M1 43 1 = 0
    rw [e1, mset_at]
    decide
  by_cases g : b = 0
  · refine ⟨⟨fun _ => trivial, fun z => absurd g z⟩, fun z2 e2 => ?_⟩
    rw [if_pos g] at e2
    subst e2
    refine ⟨fun z => absurd rfl z, fun _ => forget (if_neg (by omega))⟩
  · have hb1 := hv.2.2.2.2.1 (b - 1) (by omega)
    have e1 : M (m + 1) ((b : Int) - 1).toNat = zI (gVo S (b - 1)) := by rw [show ((b : Int) - 1).toNat = b - 1 by omega]; exact hW.2.2.2.2.1 (b - 1) (by omega)
    have k2 : zI (gVo S (b - 1) : Int) = zI 1 ↔ gVo S (b - 1) = 1 := by rw [zI_eq (by omega) (by omega) (by omega) (by omega)]; omega
    rw [e1]
    simp only [k2]
    refine ⟨⟨fun z => absurd z g, fun _ => ⟨fun z => z.elim, fun _ => ⟨by omega, fun _ => trivial, fun _ => trivial⟩⟩⟩, fun z2 e2 => ?_⟩
    rw [if_neg g, if_neg (fun z => z)] at e2
    by_cases g2 : gVo S (b - 1) = 1
    · rw [if_pos g2] at e2
      subst e2
      refine ⟨fun _ => hQ M ?_, fun z => absurd z (by decide +kernel)⟩
      rw [show entS S b st = st from if_pos ⟨by omega, g2⟩]
      exact WS_of h (hw (by omega))
    · rw [if_neg g2] at e2
      subst e2
      exact ⟨fun z => absurd rfl z, fun _ => forget (if_neg (fun z => g2 z.2))⟩
theorem TP_cut {M M' : Mem} {ck ci pk : Nat} {X : List Int} (h : TP M ck ci pk (L ++ X)) (hne : ck ≠ pk) (e : M' = mset M ck ci (zI (L.length : Int))) : TP M' ck ci pk L := by
  refine ⟨by rw [e, mset_at], fun j j1 j2 => ?_⟩
  rw [e, mset_o (fun z => hne z.symm), h.2 j (by rw [List.length_append]; omega) j2]
  simp only [List.getD_eq_getElem?_getD]
  rw [List.getElem?_append_left j1]
theorem okL_cut {X : List Int} (h : okL (L ++ X)) : okL L := fun x hx => h x (List.mem_append_left X hx)
theorem e_loop (hB : WB M0 r m S mk sg) (hwd : 12 ≤ wd ∧ wd ≤ 200) (hF : ∀ (b : Nat) (L : List Int) (ln : Int) (st : Option Int), b < gNb S → rnS S mk sg wd b = some (L, ln, st) → rnS S mk sg wd (b + 1) = none → ∀ M' : Mem, (∀ k : Nat, k ≠ r → k ≠ r + 1 → k ≠ 43 → M' k = M0 k) → Q (zI (-10 - b)) M') (hD : ∀ (L : List Int) (ln : Int) (st : Option Int), rnS S mk sg wd (gNb S) = some (L, ln, st) → ∀ M' : Mem, WS0 M0 M' r L → Q (if L.length ≤ 4000 then zI (L.length : Int) else -4) M') : ∀ (k b : Nat) (L : List Int) (ln : Int) (st : Option Int) (Mx : Mem), b ≤ gNb S → gNb S - b < k → rnS S mk sg wd b = some (L, ln, st) → WS0 M0 Mx r L → (0 < b → WT Mx 43 st) → w_X4_run_36 r m Q k (zI wd) (zI ((L.length : Int) - ln)) (zI b) Mx := by
  have hv := hB.2.2.2.2.2.2.1
  have hnb := hv.2.2.1
  have r4 : r ≤ 3 ∧ 1 ≤ r := by rcases hB.1 with rfl | rfl <;> omega
  intro k
  induction k with
  | zero => intro b L ln st Mx g1 g2; omega
  | succ k ih =>
    intro b L ln st Mx hb hk hrn h0 hw
    have hln := rn_len hv b L ln st hb hrn
    show wb_X4_run_36 r m Q (w_X4_run_36 r m Q k) _ _ _ Mx
    unfold wb_X4_run_36
    have e2 := (WS0_MW hB h0).2.2.1
    have kb : zI (b : Int) ≤ 0 ↔ b = 0 := by rw [lz0, zI_le (by omega) (by omega) (by omega) (by omega)]; omega
    have e1 := h0.2.1.1
    rw [e2, e1, zI_le (by omega) (by omega) (by omega) (by omega), kb]
    refine ⟨(WS0_42 hB h0).2, fun q => ⟨(WS0_42 hB h0).1, ⟨fun _ => ⟨(WS0_42 hB h0).1, trivial⟩, fun _ => trivial⟩, fun z14 e14 => ?_⟩, fun q => ⟨(WS0_42 hB h0).1, fun x17 e17 => ?_⟩⟩
    · have hb' : b = gNb S := by omega
      subst hb'
      have := hD L ln st hrn Mx h0
      have kl : zI (L.length : Int) ≤ 4000 ↔ L.length ≤ 4000 := by rw [lz4000, zI_le (by omega) (by omega) (by omega) (by omega)]; omega
      simp only [kl] at e14
      rw [e14]
      exact this
    · subst e17
      have hbb : b < gNb S := by omega
      have ern : rnS S mk sg wd (b + 1) = match rnS S mk sg wd b with
          | none => none
          | some (L, ln, st) =>
            if b = 0 then (if ln + ((barL S mk sg b (entS S b st)).length : Int) ≤ wd then some (L ++ barL S mk sg b (entS S b st), ln + ((barL S mk sg b (entS S b st)).length : Int), baS S b (entS S b st) (gVo S b)) else none)
            else if ln + 1 + ((barL S mk sg b (entS S b st)).length : Int) ≤ wd then some (L ++ [0] ++ barL S mk sg b (entS S b st), ln + 1 + ((barL S mk sg b (entS S b st)).length : Int), baS S b (entS S b st) (gVo S b))
            else if ((barL S mk sg b none).length : Int) ≤ wd then some (L ++ [64] ++ barL S mk sg b none, ((barL S mk sg b none).length : Int), baS S b none (gVo S b))
            else none := rfl
      rw [hrn] at ern
      simp only at ern
      have bl := barL_len (mk := mk) (sg := sg) (st := entS S b st) hv hbb
      have bl0 := barL_len (mk := mk) (sg := sg) (st := none) hv hbb
      have nx : zI (b : Int) + 1 = zI ((b + 1 : Nat) : Int) := by rw [lz1, zI_add]; rfl
      -- the last test of a bar
      have last : ∀ (L1 : List Int) (ln1 : Int) (st1 : Option Int) (l4 : Int) (l6 : Int32) (My : Mem), L1.length ≤ 200000 → -1000000 ≤ l4 → l4 ≤ 1000000 → WS M0 My r L1 st1 → (L1.length : Int) - l4 = ln1 → (ln1 ≤ wd → rnS S mk sg wd (b + 1) = some (L1, ln1, st1)) → (¬ ln1 ≤ wd → rnS S mk sg wd (b + 1) = none) → w_X4_run_145 r m Q (w_X4_run_36 r m Q k) (zI wd) (zI l4) (zI b) l6 My := by
        intro L1 ln1 st1 l4 l6 My hl1 b1 b2 hy e hyes hno
        unfold w_X4_run_145
        rw [hy.2.1.1, zI_sub, zI_le (by omega) (by omega) (by omega) (by omega)]
        refine ⟨(WS_42 hB hy).1, fun g x24 e24 => ?_, fun g => ?_⟩
        · rw [e24, nx]
          have := ih (b + 1) L1 ln1 st1 My (by omega) (by omega) (hyes (by omega)) (WS0_of hy) (fun _ => hy.2.2.2)
          rw [show (L1.length : Int) - ln1 = l4 by omega] at this
          exact this
        · rw [ln10, zI_sub]
          exact hF b L ln st hbb hrn (hno (by omega)) My hy.1
      by_cases gb : b = 0
      · refine ⟨fun _ => ⟨(WS0_42 hB h0).2, e_enter hB h0 hbb hw (fun M20 h20 => e_putBar hB h20 (by omega) hbb (fun M22 h22 => ⟨fun _ => ?_, fun z => absurd (kb.mpr gb) z⟩))⟩, fun z => absurd gb z⟩
        rw [if_pos gb] at ern
        refine last _ (ln + ((barL S mk sg b (entS S b st)).length : Int)) _ _ _ M22 (by simp only [List.length_append]; omega) (by omega) (by omega) h22 (by simp only [List.length_append]; omega) (fun g => by rw [ern, if_pos g]) (fun g => by rw [ern, if_neg g])
      · refine ⟨fun z => absurd z gb, fun _ => ⟨(WS0_42 hB h0).1, ?_⟩⟩
        rw [if_neg gb] at ern
        rw [lz0]
        refine e_put1 hB.1 (WS_of h0 (hw (by omega))) (by omega) (by omega) (fun M38 h38 => ⟨(WS_42 hB h38).2, e_enter hB (WS0_of h38) hbb (fun _ => h38.2.2.2) (fun M20 h20 => e_putBar hB h20 (by simp only [List.length_append, List.length_cons, List.length_nil]; omega) hbb (fun M22 h22 => ⟨fun z => absurd (kb.mp z) gb, fun _ => ⟨(WS_42 hB h22).1, ?_, ?_⟩⟩))⟩)
        · rw [h22.2.1.1, zI_sub, zI_le (by simp only [List.length_append, List.length_cons, List.length_nil]; omega) (by simp only [List.length_append, List.length_cons, List.length_nil]; omega) (by omega) (by omega)]
          intro g
          simp only [List.length_append, List.length_cons, List.length_nil] at g
          refine last _ (ln + 1 + ((barL S mk sg b (entS S b st)).length : Int)) _ _ _ M22 (by simp only [List.length_append, List.length_cons, List.length_nil]; omega) (by omega) (by omega) h22 (by simp only [List.length_append, List.length_cons, List.length_nil]; omega) (fun g => by rw [ern, if_pos g]) (fun g => by omega)
        · rw [h22.2.1.1, zI_sub, zI_le (by simp only [List.length_append, List.length_cons, List.length_nil]; omega) (by simp only [List.length_append, List.length_cons, List.length_nil]; omega) (by omega) (by omega)]
          intro g
          simp only [List.length_append, List.length_cons, List.length_nil] at g
          rw [if_neg (by omega)] at ern
          refine ⟨(WS_42 hB h22).1, fun M27 e27 x28 e28 => ?_⟩
          have h27 : WS M0 M27 r L (baS S b (entS S b st) (gVo S b)) := by
            obtain ⟨q1, q2, q3, q4⟩ := h22
            rw [List.append_assoc] at q2 q3
            exact ⟨fun k g1 g2 g3 => by rw [e27, mset_o g1]; exact q1 k g1 g2 g3, TP_cut q2 (by omega) e27, okL_cut q3, WT_of q4 (by rw [e27, mset_o (by omega)])⟩
          rw [lz1, zI_add] at e28
          subst e28
          rw [lz64]
          refine ⟨(WS_42 hB h27).1, e_put1 hB.1 h27 (by omega) (by omega) (fun M31 h31 => e_forget hB h31 (fun M33 h33 => e_putBar hB h33 (by simp only [List.length_append, List.length_cons, List.length_nil]; omega) hbb (fun M35 h35 => ?_)))⟩
          refine last _ ((barL S mk sg b none).length : Int) _ _ _ M35 (by simp only [List.length_append, List.length_cons, List.length_nil]; omega) (by omega) (by omega) h35 (by simp only [List.length_append, List.length_cons, List.length_nil]; omega) (fun g2 => by rw [ern, if_pos g2]) (fun g2 => by rw [ern, if_neg g2])
def mkS (S : Mus) : Nat → Int := (msS S (gNi S)).2
theorem e_run (hr : RW r) (hm : MU m) (hG : SG S sg) (hT : TB M) (h : MW M m S) (hv : MV S) (hwd : 12 ≤ wd ∧ wd ≤ 200) (hF : ∀ (b : Nat) (L : List Int) (ln : Int) (st : Option Int), b < gNb S → rnS S (mkS S) sg wd b = some (L, ln, st) → rnS S (mkS S) sg wd (b + 1) = none → ∀ M' : Mem, (∀ k : Nat, k ≠ r → k ≠ r + 1 → (k < 35 ∨ 45 < k) → M' k = M k) → Q (zI (-10 - b)) M') (hD : ∀ (L : List Int) (ln : Int) (st : Option Int), rnS S (mkS S) sg wd (gNb S) = some (L, ln, st) → ∀ M' : Mem, (∀ k : Nat, k ≠ r → k ≠ r + 1 → (k < 35 ∨ 45 < k) → M' k = M k) → TP M' r 1 (r + 1) L → okL L → Q (if L.length ≤ 4000 then zI (L.length : Int) else -4) M') : w_X4_run r m (zI wd) M Q := by
  have r4 : r ≤ 3 ∧ 1 ≤ r := by rcases hr with rfl | rfl <;> omega
  have hm2 : 5 ≤ m ∧ m ≤ 20 := by rcases hm with rfl | rfl <;> omega
  unfold w_X4_run
  intro M1 e1 M2 e2
  have h424 : M2 42 4 = nI r := by rw [e2, mset_at]
  refine ⟨h424, fun M4 e4 => ?_⟩
  have f4 : ∀ k : Nat, k ≠ r → k ≠ 42 → M4 k = M k := fun k g1 g2 => by rw [e4, mset_o g1, e2, mset_o g2, e1, mset_o g2]
  have h424' : M4 42 4 = nI r := by rw [e4, mset_o (by omega)]; exact h424
  have h425' : M4 42 5 = nI m := by rw [e4, mset_o (by omega), e2, mset_j (by omega), e1, mset_at]
  have h4c : M4 r 1 = 0 := by rw [e4, mset_at]
  have hW4 : MW M4 m S := MW_far h (fun k g1 g2 => f4 k (by omega) (by omega))
  have hT4 : TB M4 := TB_of hT (fun k hk => f4 k (by omega) (by omega))
  refine e_markSlurs hm2 h425' hW4 hv (fun M6 f6 v6 => ?_)
  have hW6 : MW M6 m S := MW_far hW4 (fun k g1 g2 => f6 k (by omega))
  have hT6 : TB M6 := TB_of hT4 (fun k hk => f6 k (by omega))
  refine e_markSigns hG hm2 (by rw [f6 42 (by omega)]; exact h425') hT6 hW6 hv (fun M8 f8 v8 => ?_)
  have f48 : ∀ k : Nat, k ≠ r → (k < 35 ∨ 45 < k) → M8 k = M k := fun k g1 g2 => by rw [f8 k (by omega) (by omega), f6 k (by omega), f4 k g1 (by omega)]
  have hB : WB M8 r m S (mkS S) sg := by
    refine ⟨hr, hm, by rw [f8 42 (by omega) (by omega), f6 42 (by omega)]; exact h424', by rw [f8 42 (by omega) (by omega), f6 42 (by omega)]; exact h425', TB_of hT6 (fun k hk => f8 k (by omega) (by omega)), MW_far hW6 (fun k g1 g2 => f8 k (by omega) (by omega)), hv, fun i hi => ⟨by rw [f8 44 (by omega) (by omega)]; exact v6 i hi, (ms_bd S (gNi S) i).1, (ms_bd S (gNi S) i).2⟩, fun b v hb hvv => ⟨v8 b v hb hvv, ?_⟩⟩
    rcases hG (3 * b + v) with z | z
    · exact Or.inr z.2
    · exact Or.inl z.2
  have h8 : WS0 M8 M8 r [] := ⟨fun _ _ _ _ => rfl, ⟨by rw [f8 r (by omega) (by omega), f6 r (by omega), h4c]; rfl, fun j hj => absurd hj (Nat.not_lt_zero j)⟩, fun x hx => absurd hx (by simp)⟩
  refine e_putHand hB h8 (fun M10 h10 => ⟨gNb S + 1, ?_⟩)
  have := e_loop hB hwd (Q := Q) (fun b L ln st g1 g2 g3 M' f' => hF b L ln st g1 g2 g3 M' (fun k k1 k2 k3 => by rw [f' k k1 k2 (by omega)]; exact f48 k k1 k3)) (fun L ln st g1 M' h' => hD L ln st g1 M' (fun k k1 k2 k3 => by rw [h'.1 k k1 k2 (by omega)]; exact f48 k k1 k3) h'.2.1 h'.2.2) (gNb S + 1) 0 (hdC S) ((hdC S).length : Int) none M10 (by omega) (by omega) rfl h10 (fun z => absurd z (Nat.lt_irrefl 0))
  rw [Int.sub_self] at this
  exact this
end CWrite
