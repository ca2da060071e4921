section Puts
def TP (M : Mem) (ck ci pk : Nat) (L : List Int) : Prop := M ck ci = zI (L.length : Int) ∧ ∀ j : Nat, j < L.length → j < 4000 → M pk j = zI (L.getD j 0)
def okL (L : List Int) : Prop := ∀ x : Int, x ∈ L → 0 ≤ x ∧ x ≤ 64
def WT (M : Mem) (w : Nat) (st : Option Int) : Prop := match st with
  | none => ¬ M w 1 = 0
  | some p => M w 1 = 0 ∧ M w 0 = zI p ∧ 7 ≤ p ∧ p ≤ 55
/-- what the class's writer stands on -/
def WB (M0 : Mem) (r m : Nat) (S : Mus) (mk sg : Nat → Int) : Prop := RW r ∧ MU m ∧ M0 42 4 = nI r ∧ M0 42 5 = nI m ∧ TB M0 ∧ MW M0 m S ∧ MV S ∧ (∀ i : Nat, i < gNi S → M0 44 i = zI (mk i) ∧ 0 ≤ mk i ∧ mk i ≤ 3) ∧ ∀ b v : Nat, b < gNb S → v < gVo S b → M0 45 (3 * b + v) = zI (sg (3 * b + v)) ∧ (sg (3 * b + v) = 0 ∨ sg (3 * b + v) = 1)
def WS (M0 M : Mem) (r : Nat) (L : List Int) (st : Option Int) : Prop := (∀ k : Nat, k ≠ r → k ≠ r + 1 → k ≠ 43 → M k = M0 k) ∧ TP M r 1 (r + 1) L ∧ okL L ∧ WT M 43 st
theorem WT_of {M M' : Mem} {w : Nat} {st : Option Int} (h : WT M w st) (e : M' w = M w) : WT M' w st := by
  unfold WT at h ⊢
  rw [e]
  exact h
theorem getD_snoc (L : List Int) (a : Int) (j : Nat) (h : j < (L ++ [a]).length) : (L ++ [a]).getD j 0 = if j = L.length then a else L.getD j 0 := by
  rw [List.length_append] at h
  have h' : j < L.length + 1 := h
  by_cases g : j = L.length
  · subst g
    rw [if_pos rfl]
    simp [List.getD_eq_getElem?_getD]
  · rw [if_neg g]
    simp only [List.getD_eq_getElem?_getD]
    rw [List.getElem?_append_left (by omega)]
theorem okL_snoc {L : List Int} {a : Int} (h : okL L) (ha : 0 ≤ a ∧ a ≤ 64) : okL (L ++ [a]) := by
  intro x hx
  rw [List.mem_append] at hx
  rcases hx with hx | hx
  · exact h x hx
  · rw [List.mem_singleton] at hx
    subst hx
    exact ha
theorem TP_snoc {M M3 M4 : Mem} {ck ci pk : Nat} {L : List Int} {a : Int} (h : TP M ck ci pk L) (hne : ck ≠ pk) (e3 : M3 = mset M pk L.length (zI a)) (e4 : M4 = mset M3 ck ci (zI ((L.length : Int) + 1))) : TP M4 ck ci pk (L ++ [a]) := by
  refine ⟨?_, fun j hj hj2 => ?_⟩
  · rw [e4, mset_at, List.length_append]
    rfl
  · rw [getD_snoc L a j hj, e4, mset_o (fun z => hne z.symm), e3]
    by_cases g : j = L.length
    · subst g
      rw [mset_at, if_pos rfl]
    · rw [mset_j g, if_neg g]
      rw [List.length_append] at hj
      have h' : j < L.length + 1 := hj
      exact h.2 j (by omega) hj2
theorem TP_over {M M4 : Mem} {ck ci pk : Nat} {L : List Int} {a : Int} (h : TP M ck ci pk L) (hne : ck ≠ pk) (hL : 4000 ≤ L.length) (e4 : M4 = mset M ck ci (zI ((L.length : Int) + 1))) : TP M4 ck ci pk (L ++ [a]) := by
  refine ⟨?_, fun j hj hj2 => ?_⟩
  · rw [e4, mset_at, List.length_append]
    rfl
  · rw [getD_snoc L a j hj, if_neg (by omega), e4, mset_o (fun z => hne z.symm)]
    exact h.2 j (by omega) hj2
variable {M0 M : Mem} {S : Mus} {r m : Nat} {mk sg : Nat → Int} {L : List Int} {st : Option Int} {Q : Int32 → Mem → Prop}
theorem e_put1 {a : Int} (hr : RW r) (h : WS M0 M r L st) (hl : L.length ≤ 900000) (ha : 0 ≤ a ∧ a ≤ 64) (hQ : ∀ M' : Mem, WS M0 M' r (L ++ [a]) st → Q 0 M') : w_X2_put r (zI a) M Q := by
  have r4 : r ≤ 3 ∧ 1 ≤ r := by rcases hr with rfl | rfl <;> omega
  obtain ⟨h1, h2, h3, h4⟩ := h
  unfold w_X2_put
  rw [h2.1, lz4000, zI_le (by omega) (by omega) (by omega) (by omega), zI_in (by omega) (by omega), zI_tn (by omega) (by omega), tn_nat, lz1, zI_add]
  refine ⟨fun q M1 e1 => ?_, fun q => ⟨by omega, fun M3 e3 M4 e4 => ?_⟩⟩
  · exact hQ M1 ⟨fun k g1 g2 g3 => by rw [e1, mset_o g1]; exact h1 k g1 g2 g3, TP_over h2 (by omega) (by omega) e1, okL_snoc h3 ha, WT_of h4 (by rw [e1, mset_o (by omega)])⟩
  · have e5 : M3 r 1 = zI (L.length : Int) := by rw [e3, mset_o (by omega)]; exact h2.1
    rw [e5, zI_add] at e4
    exact hQ M4 ⟨fun k g1 g2 g3 => by rw [e4, mset_o g1, e3, mset_o g2]; exact h1 k g1 g2 g3, TP_snoc h2 (by omega) e3 e4, okL_snoc h3 ha, WT_of h4 (by rw [e4, mset_o (by omega), e3, mset_o (by omega)])⟩
theorem app2 (L : List Int) (a b : Int) : L ++ [a] ++ [b] = L ++ [a, b] := by rw [List.append_assoc]; rfl
theorem WS_42 (hB : WB M0 r m S mk sg) (h : WS M0 M r L st) : M 42 4 = nI r ∧ M 42 5 = nI m := by
  have r4 : r ≤ 3 ∧ 1 ≤ r := by rcases hB.1 with rfl | rfl <;> omega
  rw [h.1 42 (by omega) (by omega) (by omega)]
  exact ⟨hB.2.2.1, hB.2.2.2.1⟩
theorem WS_hi (hB : WB M0 r m S mk sg) (h : WS M0 M r L st) {k : Nat} (hk : 5 ≤ k) (hk2 : k ≠ 43) : M k = M0 k := by
  have r4 : r ≤ 3 ∧ 1 ≤ r := by rcases hB.1 with rfl | rfl <;> omega
  exact h.1 k (by omega) (by omega) hk2
theorem WB_m (hB : WB M0 r m S mk sg) : 5 ≤ m ∧ m ≤ 20 := by rcases hB.2.1 with rfl | rfl <;> omega
theorem WS_MW (hB : WB M0 r m S mk sg) (h : WS M0 M r L st) : MW M m S := MW_far hB.2.2.2.2.2.1 (fun k g1 g2 => WS_hi hB h (by have := WB_m hB; omega) (by have := WB_m hB; omega))
theorem WS_TB (hB : WB M0 r m S mk sg) (h : WS M0 M r L st) : TB M := TB_of hB.2.2.2.2.1 (fun k hk => WS_hi hB h (by omega) (by omega))
theorem e_putTwo {a b : Int} (hB : WB M0 r m S mk sg) (h : WS M0 M r L st) (hl : L.length ≤ 800000) (ha : 0 ≤ a ∧ a ≤ 64) (hb : 0 ≤ b ∧ b ≤ 64) (hQ : ∀ M' : Mem, WS M0 M' r (L ++ [a, b]) st → Q 0 M') : w_X4_putTwo r m (zI a) (zI b) M Q := by
  unfold w_X4_putTwo
  refine ⟨(WS_42 hB h).1, e_put1 hB.1 h (by omega) ha (fun M1 h1 => ⟨(WS_42 hB h1).1, e_put1 hB.1 h1 (by rw [List.length_append]; show L.length + 1 ≤ _; omega) hb (fun M2 h2 => hQ M2 (by rw [app2] at h2; exact h2))⟩)⟩
theorem e_cellAt {i n : Nat} {a : Int} (ht : M 110 i = zI (n : Int)) (hn : n < 100) (ha : 0 ≤ a ∧ a < n) (hQ : Q (M (100 + i) a.toNat) M) : w_X6_cellAt i (zI a) M Q := by
  have c1 : ¬ zI a < 0 := by
    rw [lz0, zI_lt (by omega) (by omega) (by omega) (by omega)]
    omega
  have c2 : ¬ nI (M 110 i).toNatClampNeg ≤ zI a := by
    rw [ht, zI_tn (by omega) (by omega), tn_nat, zI_nI, zI_le (by omega) (by omega) (by omega) (by omega)]
    omega
  unfold w_X6_cellAt
  refine ⟨⟨fun _ => trivial, fun _ => ⟨fun _ => trivial, fun _ => ⟨?_, trivial⟩⟩⟩, fun z e => ?_⟩
  · rw [ht, zI_tn (by omega) (by omega), tn_nat, zI_in (by omega) (by omega)]
    exact ha
  · rw [if_neg c1, if_neg c2, zI_tn (by omega) (by omega)] at e
    subst e
    exact hQ
theorem e_putSign {s : Int} (hB : WB M0 r m S mk sg) (h : WS M0 M r L st) (hl : L.length ≤ 800000) (hs : 0 ≤ s ∧ s ≤ 3) (hQ : ∀ M' : Mem, WS M0 M' r (L ++ sigC s) st → Q 0 M') : w_X4_putSign r m (zI s) M Q := by
  have t := WS_TB hB h
  obtain ⟨⟨-, -, -, -, t4, -, -, -⟩, -, -, -, -, u4, -, -, -⟩ := t
  unfold w_X4_putSign
  rw [lz0, lz1, zI_le (by omega) (by omega) (by omega) (by omega), zI_sub]
  refine ⟨fun q => ?_, fun q => ⟨(WS_42 hB h).1, e_cellAt (n := 3) t4 (by omega) (by omega) ?_⟩⟩
  · have : s = 0 := by omega
    subst this
    have := hQ M (by rw [show sigC 0 = [] from rfl, List.append_nil]; exact h)
    exact this
  · rw [u4 (s - 1).toNat (by omega)]
    have hs3 : s = 1 ∨ s = 2 ∨ s = 3 := by omega
    rcases hs3 with rfl | rfl | rfl
    · exact e_put1 hB.1 h (by omega) (by decide) hQ
    · exact e_put1 hB.1 h (by omega) (by decide) hQ
    · exact e_put1 hB.1 h (by omega) (by decide) hQ
theorem e_putDots {i : Nat} (hB : WB M0 r m S mk sg) (h : WS M0 M r L st) (hl : L.length ≤ 800000) (hi : i < gNi S) (hQ : ∀ M' : Mem, WS M0 M' r (L ++ dotC (gIt S i 6)) st → Q 0 M') : w_X4_putDots r m (zI i) M Q := by
  have hv := hB.2.2.2.2.2.2.1
  have hm := WB_m hB
  have hni := hv.2.2.2.1
  obtain ⟨-, -, -, -, -, -, w6, -⟩ := hv.2.2.2.2.2.1 i hi
  refine ⟨(gIt S i 6).toNat + 1, ?_⟩
  have key : ∀ (k j : Nat) (Mx : Mem), (j : Int) ≤ gIt S i 6 → (gIt S i 6).toNat - j < k → WS M0 Mx r (L ++ List.replicate j 4) st → w_X4_putDots_2 r m Q k (zI i) (zI j) Mx := by
    intro k
    induction k with
    | zero => intro j Mx g1 g2; omega
    | succ k ih =>
      intro j Mx hj hk hx
      have e10 : Mx (m + 10) i = zI (gIt S i 6) := MW_at (WS_MW hB hx) hi (a := 6) (by omega)
      show wb_X4_putDots_2 r m Q (w_X4_putDots_2 r m Q k) _ _ Mx
      unfold wb_X4_putDots_2
      rw [zI_in (by omega) (by omega), zI_tn (by omega) (by omega), tn_nat, e10, zI_le (by omega) (by omega) (by omega) (by omega)]
      refine ⟨(WS_42 hB hx).2, by omega, fun q => ?_, fun q => ⟨(WS_42 hB hx).1, ?_⟩⟩
      · have : j = (gIt S i 6).toNat := by omega
        subst this
        exact hQ Mx hx
      · rw [lz4]
        refine e_put1 hB.1 hx (by rw [List.length_append, List.length_replicate]; omega) (by omega) (fun M5 h5 x6 e6 => ?_)
        have e6' : x6 = zI ((j + 1 : Nat) : Int) := by rw [e6, lz1, zI_add]; rfl
        subst e6'
        refine ih (j + 1) M5 (by omega) (by omega) ?_
        rw [List.replicate_succ', ← List.append_assoc]
        exact h5
  exact key _ 0 M (by omega) (by omega) (by rw [show List.replicate 0 (4 : Int) = [] from rfl, List.append_nil]; exact h)
theorem shr4 {n s : Int} (hn : 2 ≤ n ∧ n ≤ 8) (hs : 0 ≤ s ∧ s ≤ 3) : zI (n + 16 * s) >>> ((4 : Int32) &&& 31) = zI s := by
  have hn' : n = 2 ∨ n = 3 ∨ n = 4 ∨ n = 5 ∨ n = 6 ∨ n = 7 ∨ n = 8 := by omega
  have hs' : s = 0 ∨ s = 1 ∨ s = 2 ∨ s = 3 := by omega
  rcases hn' with rfl | rfl | rfl | rfl | rfl | rfl | rfl <;> rcases hs' with rfl | rfl | rfl | rfl <;> decide +kernel
theorem dnC_bd {n : Int} (hn : 2 ≤ n ∧ n ≤ 8) : 0 ≤ dnC n ∧ dnC n ≤ 64 := by
  have hn' : n = 2 ∨ n = 3 ∨ n = 4 ∨ n = 5 ∨ n = 6 ∨ n = 7 ∨ n = 8 := by omega
  rcases hn' with rfl | rfl | rfl | rfl | rfl | rfl | rfl <;> decide
theorem rsC_bd {n : Int} (hn : 0 ≤ n ∧ n ≤ 3) : 0 ≤ rsC n ∧ rsC n ≤ 64 := by
  have hn' : n = 0 ∨ n = 1 ∨ n = 2 ∨ n = 3 := by omega
  rcases hn' with rfl | rfl | rfl | rfl <;> decide
theorem ocC_bd {p : Int} (hp : 7 ≤ p ∧ p ≤ 55) : 0 ≤ ocC p ∧ ocC p ≤ 64 := by
  have hn' : p / 7 - 1 = 0 ∨ p / 7 - 1 = 1 ∨ p / 7 - 1 = 2 ∨ p / 7 - 1 = 3 ∨ p / 7 - 1 = 4 ∨ p / 7 - 1 = 5 ∨ p / 7 - 1 = 6 := by omega
  unfold ocC
  rcases hn' with e | e | e | e | e | e | e <;> rw [e] <;> decide
theorem ntC_bd {p k : Int} (hp : 0 ≤ p) (hk : 0 ≤ k ∧ k ≤ 3) : 0 ≤ ntC p k ∧ ntC p k ≤ 64 := by
  have hn' : p % 7 = 0 ∨ p % 7 = 1 ∨ p % 7 = 2 ∨ p % 7 = 3 ∨ p % 7 = 4 ∨ p % 7 = 5 ∨ p % 7 = 6 := by omega
  have hk' : k = 0 ∨ k = 1 ∨ k = 2 ∨ k = 3 := by omega
  unfold ntC
  rcases hn' with e | e | e | e | e | e | e <;> rcases hk' with rfl | rfl | rfl | rfl <;> rw [e] <;> decide
theorem e_note101 {i : Nat} {l2 : Int32} (hB : WB M0 r m S mk sg) (h : WS M0 M r L st) (hl : L.length ≤ 700000) (hi : i < gNi S) (hQ : ∀ M' : Mem, WS M0 M' r (L ++ ivC S i (gIt S i 9).toNat ++ tieC (gIt S i 7)) st → Q 0 M') : ∃ k, w_X4_putNote_101 r m Q k (zI i) l2 0 M := by
  have hv := hB.2.2.2.2.2.2.1
  have hm := WB_m hB
  have hni := hv.2.2.2.1
  obtain ⟨-, -, -, -, -, -, -, w7, -, w9, w10⟩ := hv.2.2.2.2.2.1 i hi
  refine ⟨(gIt S i 9).toNat + 1, ?_⟩
  have key : ∀ (k j : Nat) (Mx : Mem), (j : Int) ≤ gIt S i 9 → (gIt S i 9).toNat - j < k → WS M0 Mx r (L ++ ivC S i j) st → w_X4_putNote_101 r m Q k (zI i) l2 (zI j) Mx := by
    intro k
    induction k with
    | zero => intro j Mx g1 g2; omega
    | succ k ih =>
      intro j Mx hj hk hx
      have il := ivC_len S i j
      have e13 : Mx (m + 13) i = zI (gIt S i 9) := MW_at (WS_MW hB hx) hi (a := 9) (by omega)
      have e11 : Mx (m + 11) i = zI (gIt S i 7) := MW_at (WS_MW hB hx) hi (a := 7) (by omega)
      show wb_X4_putNote_101 r m Q (w_X4_putNote_101 r m Q k) _ _ _ Mx
      unfold wb_X4_putNote_101
      rw [zI_in (by omega) (by omega), zI_tn (by omega) (by omega), tn_nat, e13, e11, zI_le (by omega) (by omega) (by omega) (by omega)]
      refine ⟨(WS_42 hB hx).2, by omega, fun q => ⟨(WS_42 hB hx).2, by omega, fun q1 => ?_, fun q1 => ?_⟩, fun q => ⟨(WS_42 hB hx).2, ?_⟩⟩
      · have : j = (gIt S i 9).toNat := by omega
        subst this
        have : ¬ gIt S i 7 = 1 := fun z => q1 (by rw [z, lz1])
        refine hQ Mx ?_
        unfold tieC
        rw [if_neg this, List.append_nil]
        exact hx
      · have : j = (gIt S i 9).toNat := by omega
        subst this
        have : gIt S i 7 = 1 := by rw [lz1, zI_eq (by omega) (by omega) (by omega) (by omega)] at q1; exact q1
        rw [lz8, lz9]
        refine e_putTwo hB hx (by rw [List.length_append]; omega) (by omega) (by omega) (fun M' h' => hQ M' ?_)
        unfold tieC
        rw [if_pos this]
        exact h'
      · obtain ⟨n, s, e, n1, n2, s1, s2⟩ := w10 j (by omega)
        refine e_intervalAt (WS_MW hB hx) hv hi (by omega) ?_
        rw [if_pos (by omega), tn_nat, e, shr4 ⟨n1, n2⟩ ⟨s1, s2⟩]
        refine e_putSign hB hx (by rw [List.length_append]; omega) ⟨s1, s2⟩ (fun M31 h31 => ⟨(WS_42 hB h31).1, ?_⟩)
        have t := WS_TB hB h31
        obtain ⟨⟨-, -, -, -, -, t5, -, -⟩, -, -, -, -, -, u5, -, -⟩ := t
        have sl := sigC_len s
        rw [and15 ⟨n1, n2⟩ ⟨s1, s2⟩, lz2, zI_sub]
        refine e_cellAt (n := 7) t5 (by omega) (by omega) ?_
        rw [u5 (n - 2).toNat (by omega)]
        refine e_put1 (a := dnC n) hB.1 h31 (by simp only [List.length_append]; omega) (dnC_bd ⟨n1, n2⟩) (fun M35 h35 x36 e36 => ?_)
        have e36' : x36 = zI ((j + 1 : Nat) : Int) := by rw [e36, lz1, zI_add]; rfl
        subst e36'
        refine ih (j + 1) M35 (by omega) (by omega) ?_
        unfold ivC
        rw [e, show (n + 16 * s) / 16 = s by omega, show (n + 16 * s) % 16 = n by omega]
        rw [← List.append_assoc, ← List.append_assoc]
        exact h35
  exact key _ 0 M (by omega) (by omega) (by show WS M0 M r (L ++ []) st; rw [List.append_nil]; exact h)
theorem e_note53 {i : Nat} {st' : Option Int} (hB : WB M0 r m S mk sg) (h : WS M0 M r L st') (hl : L.length ≤ 600000) (hi : i < gNi S) (hn : ¬ gIt S i 2 = 0) (hQ : ∀ M' : Mem, WS M0 M' r (L ++ [ntC (gIt S i 2) (gIt S i 4)] ++ dotC (gIt S i 6) ++ ivC S i (gIt S i 9).toNat ++ tieC (gIt S i 7)) (some (gIt S i 2)) → Q 0 M') : w_X4_putNote_53 r m Q (zI i) (zI (gIt S i 2)) M := by
  have hv := hB.2.2.2.2.2.2.1
  have hm := WB_m hB
  have hni := hv.2.2.2.1
  have r4 : r ≤ 3 ∧ 1 ≤ r := by rcases hB.1 with rfl | rfl <;> omega
  obtain ⟨-, -, w2, -, w4, -, w6, -, -, w9, -⟩ := hv.2.2.2.2.2.1 i hi
  unfold w_X4_putNote_53 w_X1_heard
  intro M1 e1 M2 e2
  have h2 : WS M0 M2 r L (some (gIt S i 2)) := by
    obtain ⟨h1, h2, h3, h4⟩ := h
    refine ⟨fun k g1 g2 g3 => by rw [e2, mset_o g3, e1, mset_o g3]; exact h1 k g1 g2 g3, ⟨?_, fun j j1 j2 => ?_⟩, h3, ?_, ?_, by omega, by omega⟩
    · rw [e2, mset_o (by omega), e1, mset_o (by omega)]; exact h2.1
    · rw [e2, mset_o (by omega), e1, mset_o (by omega)]; exact h2.2 j j1 j2
    · rw [e2, mset_at]
    · rw [e2, mset_j (by omega), e1, mset_at]
  have t := WS_TB hB h2
  obtain ⟨⟨t0, t1, -, -, -, -, -, -⟩, u0, u1, -⟩ := t
  have e8 : M2 (m + 8) i = zI (gIt S i 4) := MW_at (WS_MW hB h2) hi (a := 4) (by omega)
  rw [lz7, zI_div (by omega) (by omega) (by omega) (by omega), zI_mul, zI_sub]
  refine ⟨(WS_42 hB h2).1, e_cellAt (n := 7) t0 (by omega) (by omega) ⟨(WS_42 hB h2).2, ?_⟩⟩
  rw [zI_in (by omega) (by omega), zI_tn (a := (i : Int)) (by omega) (by omega), tn_nat, e8]
  refine ⟨by omega, e_cellAt (n := 4) t1 (by omega) (by omega) ?_⟩
  rw [u0 _ (by omega), u1 _ (by omega), zI_add]
  have en : [25, 17, 11, 27, 19, 10, 26].getD (gIt S i 2 - gIt S i 2 / 7 * 7).toNat 0 + [36, 4, 32, 0].getD (gIt S i 4).toNat 0 = ntC (gIt S i 2) (gIt S i 4) := by
    unfold ntC
    rw [show gIt S i 2 - gIt S i 2 / 7 * 7 = gIt S i 2 % 7 by omega]
  rw [en]
  have dl := dotC_len (gIt S i 6)
  refine e_put1 hB.1 h2 (by omega) (ntC_bd (by omega) w4) (fun M18 h18 => e_putDots hB h18 (by simp only [List.length_append, List.length_cons, List.length_nil]; omega) hi (fun M20 h20 => e_note101 hB h20 (by simp only [List.length_append, List.length_cons, List.length_nil]; omega) hi hQ))
theorem e_putNote {i : Nat} (hB : WB M0 r m S mk sg) (h : WS M0 M r L st) (hl : L.length ≤ 500000) (hi : i < gNi S) (hn : ¬ gIt S i 2 = 0) (hQ : ∀ M' : Mem, WS M0 M' r (L ++ noteC S i st) (some (gIt S i 2)) → Q 0 M') : w_X4_putNote r m (zI i) M Q := by
  have hv := hB.2.2.2.2.2.2.1
  have hm := WB_m hB
  have hni := hv.2.2.2.1
  obtain ⟨-, -, w2, w3, w4, -, w6, -, -, w9, -⟩ := hv.2.2.2.2.2.1 i hi
  have e6 : M (m + 6) i = zI (gIt S i 2) := MW_at (WS_MW hB h) hi (a := 2) (by omega)
  have e7 : M (m + 7) i = zI (gIt S i 3) := MW_at (WS_MW hB h) hi (a := 3) (by omega)
  unfold w_X4_putNote
  rw [zI_in (by omega) (by omega), zI_tn (by omega) (by omega), tn_nat, e6, e7]
  refine ⟨(WS_42 hB h).2, by omega, fun x3 e3 => ⟨(WS_42 hB h).2, by omega, ?_⟩⟩
  subst e3
  have sl := sigC_len (gIt S i 3)
  refine e_putSign hB h (by omega) w3 (fun M7 h7 => ?_)
  have unf : noteC S i st = sigC (gIt S i 3) ++ octC st (gIt S i 2) ++ [ntC (gIt S i 2) (gIt S i 4)] ++ dotC (gIt S i 6) ++ ivC S i (gIt S i 9).toNat ++ tieC (gIt S i 7) := rfl
  have yes : octC st (gIt S i 2) = [ocC (gIt S i 2)] → (M7 42 4 = nI r) ∧ (w_X6_cellAt 3 ((zI (gIt S i 2) / 7) - 1) M7 (fun v41 M42 => w_X2_put r v41 M42 (fun v43 M44 => w_X4_putNote_53 r m Q (zI i) (zI (gIt S i 2)) M44))) := by
    intro ho
    have t := WS_TB hB h7
    obtain ⟨⟨-, -, -, t3, -, -, -, -⟩, -, -, -, u3, -⟩ := t
    rw [lz7, zI_div (by omega) (by omega) (by omega) (by omega), lz1, zI_sub]
    refine ⟨(WS_42 hB h7).1, e_cellAt (n := 7) t3 (by omega) (by omega) ?_⟩
    rw [u3 _ (by omega)]
    refine e_put1 (a := ocC (gIt S i 2)) hB.1 h7 (by simp only [List.length_append]; omega) (ocC_bd (by omega)) (fun M40 h40 => e_note53 hB h40 (by simp only [List.length_append, List.length_cons, List.length_nil]; omega) hi hn (fun M' h' => hQ M' ?_))
    rw [unf, ho]
    simp only [List.append_assoc] at h' ⊢
    exact h'
  have no : octC st (gIt S i 2) = [] → w_X4_putNote_53 r m Q (zI i) (zI (gIt S i 2)) M7 := by
    intro ho
    refine e_note53 hB h7 (by simp only [List.length_append]; omega) hi hn (fun M' h' => hQ M' ?_)
    rw [unf, ho]
    simp only [List.append_assoc, List.nil_append] at h' ⊢
    exact h'
  have h7w := h7.2.2.2
  unfold w_X1_needsSign
  cases st with
  | none =>
    have hw : ¬ M7 43 1 = 0 := h7w
    exact ⟨fun _ => ⟨fun z => absurd z (by decide), fun _ => yes rfl⟩, fun z => absurd z hw⟩
  | some p =>
    obtain ⟨hw1, hw2, hw3, hw4⟩ : M7 43 1 = 0 ∧ M7 43 0 = zI p ∧ 7 ≤ p ∧ p ≤ 55 := h7w
    refine ⟨fun z => absurd hw1 z, fun _ => ?_⟩
    rw [hw2]
    refine e_isLeap (by omega) (by omega) (fun g z3 e3 => ?_) (fun g z3 e3 => ?_)
    · rw [if_neg (by decide)] at e3
      subst e3
      refine ⟨Or.inr rfl, fun z => absurd z (by decide), fun _ => yes ?_⟩
      show (if leapB p (gIt S i 2) = true then [ocC (gIt S i 2)] else []) = _
      rw [if_pos ((leapB_iff _ _).mpr g)]
    · rw [if_pos rfl] at e3
      subst e3
      refine ⟨Or.inl rfl, fun _ => no ?_, fun z => absurd rfl z⟩
      show (if leapB p (gIt S i 2) = true then [ocC (gIt S i 2)] else []) = _
      rw [if_neg (fun z => g ((leapB_iff _ _).mp z))]
theorem e_item82 {i : Nat} (hB : WB M0 r m S mk sg) (h : WS M0 M r L st) (hl : L.length ≤ 700000) (hi : i < gNi S) (hQ : ∀ M' : Mem, WS M0 M' r (L ++ clC (mk i)) st → Q 0 M') : w_X4_putItem_82 r m Q (zI i) M := by
  have hv := hB.2.2.2.2.2.2.1
  have hni := hv.2.2.2.1
  have hk := hB.2.2.2.2.2.2.2.1 i hi
  unfold w_X4_putItem_82
  rw [zI_in (by omega) (by omega), zI_tn (by omega) (by omega), tn_nat, WS_hi hB h (k := 44) (by omega) (by omega), hk.1, lz3, zI_eq (by omega) (by omega) (by omega) (by omega)]
  refine ⟨by omega, fun q => hQ M ?_, fun q => ?_⟩
  · unfold clC
    rw [if_neg q, List.append_nil]
    exact h
  · rw [lz24, lz6]
    refine e_putTwo hB h (by omega) (by omega) (by omega) (fun M' h' => hQ M' ?_)
    unfold clC
    rw [if_pos q]
    exact h'
theorem e_item63 {i : Nat} (hB : WB M0 r m S mk sg) (h : WS M0 M r L st) (hl : L.length ≤ 600000) (hi : i < gNi S) (hQ : ∀ M' : Mem, WS M0 M' r (L ++ slC (mk i) ++ clC (mk i)) st → Q 0 M') : w_X4_putItem_63 r m Q (zI i) M := by
  have hv := hB.2.2.2.2.2.2.1
  have hni := hv.2.2.2.1
  have hk := hB.2.2.2.2.2.2.2.1 i hi
  unfold w_X4_putItem_63
  rw [zI_in (by omega) (by omega), zI_tn (by omega) (by omega), tn_nat, WS_hi hB h (k := 44) (by omega) (by omega), hk.1, lz1, zI_eq (by omega) (by omega) (by omega) (by omega)]
  refine ⟨by omega, fun q => e_item82 hB h (by omega) hi (fun M' h' => hQ M' ?_), fun q => ⟨(WS_42 hB h).1, ?_⟩⟩
  · unfold slC
    rw [if_neg q, List.append_nil]
    exact h'
  · rw [lz9]
    refine e_put1 hB.1 h (by omega) (by omega) (fun M1 h1 => e_item82 hB h1 (by simp only [List.length_append, List.length_cons, List.length_nil]; omega) hi (fun M' h' => hQ M' ?_))
    rw [show slC (mk i) = [9] by unfold slC; rw [if_pos q]]
    exact h'
theorem e_item17 {i : Nat} (hB : WB M0 r m S mk sg) (h : WS M0 M r L st) (hl : L.length ≤ 400000) (hi : i < gNi S) (hQ : ∀ M' : Mem, WS M0 M' r (L ++ bodyC S i st ++ slC (mk i) ++ clC (mk i)) (nst S i st) → Q 0 M') : w_X4_putItem_17 r m Q (zI i) M := by
  have hv := hB.2.2.2.2.2.2.1
  have hm := WB_m hB
  have hni := hv.2.2.2.1
  obtain ⟨-, -, w2, w3, w4, -, w6, -, -, w9, -⟩ := hv.2.2.2.2.2.1 i hi
  refine ⟨(WS_42 hB h).2, e_isNote (WS_MW hB h) hv hi (fun g => ⟨fun z => absurd z (by decide), fun _ => ?_⟩) (fun g => ⟨fun _ => ?_, fun z => absurd rfl z⟩)⟩
  · have nl := noteC_len (st := st) w6.2 w9.2
    refine e_putNote hB h (by omega) hi g (fun M' h' => e_item63 hB h' (by simp only [List.length_append]; omega) hi (fun M2 h2 => hQ M2 ?_))
    unfold bodyC nst
    rw [if_neg g, if_neg g]
    exact h2
  · have t := WS_TB hB h
    obtain ⟨⟨-, -, t2, -, -, -, -, -⟩, -, -, u2, -⟩ := t
    have e8 : M (m + 8) i = zI (gIt S i 4) := MW_at (WS_MW hB h) hi (a := 4) (by omega)
    have dl := dotC_len (gIt S i 6)
    rw [zI_in (by omega) (by omega), zI_tn (a := (i : Int)) (by omega) (by omega), tn_nat, e8]
    refine ⟨(WS_42 hB h).1, (WS_42 hB h).2, by omega, e_cellAt (n := 4) t2 (by omega) (by omega) ?_⟩
    rw [u2 _ (by omega)]
    refine e_put1 (a := rsC (gIt S i 4)) hB.1 h (by omega) (rsC_bd w4) (fun M1 h1 => e_putDots hB h1 (by simp only [List.length_append, List.length_cons, List.length_nil]; omega) hi (fun M2 h2 => e_item63 hB h2 (by simp only [List.length_append, List.length_cons, List.length_nil]; omega) hi (fun M3 h3 => hQ M3 ?_)))
    unfold bodyC nst
    rw [if_pos g, if_pos g]
    simp only [List.append_assoc] at h3 ⊢
    exact h3
theorem e_putItem {i : Nat} (hB : WB M0 r m S mk sg) (h : WS M0 M r L st) (hl : L.length ≤ 300000) (hi : i < gNi S) (hQ : ∀ M' : Mem, WS M0 M' r (L ++ itC S (mk i) i st) (nst S i st) → Q 0 M') : w_X4_putItem r m (zI i) M Q := by
  have hv := hB.2.2.2.2.2.2.1
  have hni := hv.2.2.2.1
  have hk := hB.2.2.2.2.2.2.2.1 i hi
  unfold w_X4_putItem
  rw [zI_in (by omega) (by omega), zI_tn (by omega) (by omega), tn_nat, WS_hi hB h (k := 44) (by omega) (by omega), hk.1, lz2, zI_eq (by omega) (by omega) (by omega) (by omega)]
  refine ⟨by omega, fun q => e_item17 hB h (by omega) hi (fun M' h' => hQ M' ?_), fun q => ?_⟩
  · unfold itC opC
    rw [if_neg q, List.nil_append]
    simp only [List.append_assoc] at h' ⊢
    exact h'
  · rw [lz48, lz3]
    refine e_putTwo hB h (by omega) (by omega) (by omega) (fun M1 h1 => e_item17 hB h1 (by simp only [List.length_append, List.length_cons, List.length_nil]; omega) hi (fun M' h' => hQ M' ?_))
    unfold itC
    rw [show opC (mk i) = [48, 3] by unfold opC; rw [if_pos q]]
    simp only [List.append_assoc] at h' ⊢
    exact h'
end Puts
