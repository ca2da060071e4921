section CVoice
variable {M0 M M' : Mem} {S S' : Mus} {c r m p q s : Nat} {row : Nat → Int} {o : Bool} {t : Int} {w : Option Int} {Q : Int32 → Mem → Prop}
/-- a voice under way: n items, the first of them untold, the others told -/
def VI (S : Mus) (s n : Nat) (t : Int) : Prop := gSz S s = n ∧ gFo S s + n = gNi S ∧ ∃ u : Nat, u ≤ n ∧ (∀ j : Nat, j < u → gIt S (gFo S s + j) 5 = -1) ∧ (∀ j : Nat, u ≤ j → j < n → gIt S (gFo S s + j) 5 = 0 ∨ gIt S (gFo S s + j) 5 = 1) ∧ (u < n → 0 ≤ t)
theorem ldG_is {f0 n u : Nat} (hu : u ≤ n) (h0 : ∀ i : Nat, i < u → gIt S (f0 + i) 5 = -1) (h1 : u < n → ¬ gIt S (f0 + u) 5 = -1) : ∀ (k j : Nat), j + k = n → j ≤ u → ldG S f0 k j = u
  | 0, j, hk, hj => by
    unfold ldG
    omega
  | k + 1, j, hk, hj => by
    unfold ldG
    by_cases g : j = u
    · subst g
      rw [if_neg (h1 (by omega))]
    · rw [if_pos (h0 j (by omega))]
      exact ldG_is hu h0 h1 k (j + 1) (by omega) (by omega)
theorem VI_add {n : Nat} {d : Dat} {t' : Int} (h : VI S s n t) (hs : s = (lastS S).toNat) (hd : d.2.2.2.1 = t') (ht : -1 ≤ t' ∧ t' ≤ 1) (hm : 0 ≤ t → 0 ≤ t') : VI (sAdd S d) s (n + 1) t' := by
  obtain ⟨h1, h2, u, h3, h4, h5, h6⟩ := h
  have e5 : gIt (sAdd S d) (gNi S) 5 = t' := by rw [add_a (by omega)]; exact hd
  have ef : gFo (sAdd S d) s = gFo S s := rfl
  have old : ∀ j : Nat, j < n → gIt (sAdd S d) (gFo S s + j) 5 = gIt S (gFo S s + j) 5 := fun j hj => add_it (by omega)
  refine ⟨?_, ?_, ?_⟩
  · show (if s = (lastS S).toNat then gSz S (lastS S).toNat + 1 else gSz S s) = n + 1
    rw [if_pos hs, ← hs, h1]
  · show gFo S s + (n + 1) = gNi S + 1
    omega
  · rw [ef]
    by_cases g : 0 ≤ t'
    · refine ⟨u, by omega, fun j hj => ?_, fun j hj1 hj2 => ?_, fun _ => g⟩
      · rw [old j (by omega)]; exact h4 j hj
      · by_cases g2 : j = n
        · subst g2
          rw [h2, e5]
          omega
        · rw [old j (by omega)]; exact h5 j hj1 (by omega)
    · have hun : u = n := by
        by_cases g2 : u < n
        · exact absurd (hm (h6 g2)) g
        · omega
      subst hun
      refine ⟨u + 1, Nat.le_refl _, fun j hj => ?_, fun j hj1 hj2 => by omega, fun z => by omega⟩
      by_cases g2 : j = u
      · subst g2
        rw [h2, e5]
        omega
      · rw [old j (by omega)]; exact h4 j (by omega)
theorem sz_it {f0 n i a : Nat} {g : Nat → Int} (h : ¬ a = 5) : gIt (sSz S f0 n g) i a = gIt S i a := if_neg (fun z => h z.1)
theorem sz_5 {f0 n i : Nat} {g : Nat → Int} : gIt (sSz S f0 n g) i 5 = if f0 ≤ i ∧ i < f0 + n then g (i - f0) else gIt S i 5 := by
  show (if 5 = 5 ∧ f0 ≤ i ∧ i < f0 + n then g (i - f0) else gIt S i 5) = _
  by_cases g : f0 ≤ i ∧ i < f0 + n
  · rw [if_pos ⟨rfl, g⟩, if_pos g]
  · rw [if_neg (fun z => g z.2), if_neg g]
theorem MW_sz {f0 n : Nat} {g : Nat → Int} (h : MW M m S) (hk : ∀ k : Nat, k ≠ m + 9 → M' k = M k) (hi : ∀ i : Nat, i < gNi S → M' (m + 9) i = zI (if f0 ≤ i ∧ i < f0 + n then g (i - f0) else gIt S i 5)) : MW M' m (sSz S f0 n g) := by
  obtain ⟨h1, h2, h3, h4, h5, h6, h7, h8⟩ := h
  have e0 := hk m (by omega)
  refine ⟨by rw [e0]; exact h1, by rw [e0]; exact h2, by rw [e0]; exact h3, by rw [e0]; exact h4, by rw [hk (m + 1) (by omega)]; exact h5, by rw [hk (m + 2) (by omega), hk (m + 3) (by omega)]; exact h6, fun i a hi' ha => ?_, fun i k hi' hk' => ?_⟩
  · by_cases g5 : a = 5
    · subst g5
      rw [sz_5]
      exact hi i hi'
    · rw [sz_it g5, hk (m + 4 + a) (by omega)]
      exact h7 i a hi' ha
  · rw [sz_it (by omega)] at hk' ⊢
    rw [hk (m + 14) (by omega)]
    exact h8 i k hi' hk'
theorem MV_sz {f0 n : Nat} {g : Nat → Int} (h : MV S) (hg : ∀ j : Nat, j < n → -1 ≤ g j ∧ g j ≤ 2) : MV (sSz S f0 n g) := by
  obtain ⟨v1, v2, v3, v4, v5, v6, v7, v8⟩ := h
  refine ⟨v1, v2, v3, v4, v5, fun i hi => ?_, fun b v hb hvv => ?_, v8⟩
  · have := v6 i hi
    unfold IV at this ⊢
    rw [sz_it (a := 0) (by omega), sz_it (a := 1) (by omega), sz_it (a := 2) (by omega), sz_it (a := 3) (by omega), sz_it (a := 4) (by omega), sz_it (a := 6) (by omega), sz_it (a := 7) (by omega), sz_it (a := 8) (by omega), sz_it (a := 9) (by omega)]
    obtain ⟨i0, i1, i2, i3, i4, i5, i6, i7, i8, i9, i10⟩ := this
    refine ⟨i0, i1, i2, i3, i4, ?_, i6, i7, i8, i9, fun k hk => ?_⟩
    · rw [sz_5]
      split
      · exact hg _ (by omega)
      · exact i5
    · rw [sz_it (by omega)]
      exact i10 k hk
  · have := v7 b v hb hvv
    refine ⟨this.1, this.2.1, fun i hi => ?_⟩
    rw [sz_it (by omega), sz_it (by omega)]
    exact this.2.2 i hi
def CRw (M0 M : Mem) (r m : Nat) (S : Mus) (p : Nat) (o : Bool) (w : Option Int) : Prop := CR0 M0 M r m S p o ∧ WT M 41 w
theorem CRw_sz (hB : CB M0 r m c row) (h : CRw M0 M r m S p o w) (hf : ∀ k : Nat, (k < 35 ∨ 38 < k) → M' k = M k) : CRw M0 M' r m S p o w := by
  have hm := CB_m hB
  obtain ⟨⟨h1, h2, h3, h4, h5, h6⟩, h7⟩ := h
  have e := hf 40 (by omega)
  exact ⟨⟨fun k g1 g2 => by rw [hf k (by omega)]; exact h1 k g1 g2, by rw [e]; exact h2, by rw [e]; exact h3, by rw [e]; exact h4, by rw [e]; exact h5, MW_far h6 (fun k g1 g2 => hf k (by omega))⟩, WT_of h7 (hf 41 (by omega))⟩
theorem CRw_mus (hB : CB M0 r m c row) (h : CRw M0 M r m S p o w) (hW : MW M' m S') (hO : onlyM M M' m) : CRw M0 M' r m S' p o w := by
  have hm := CB_m hB
  exact ⟨CR0_mus hB h.1 hW hO, WT_of h.2 (hO 41 (by omega))⟩
theorem CRw_of (h : CRt M0 M r m S p o t w) : CRw M0 M r m S p o w := ⟨h.1, h.2.2⟩
def isLn (S : Mus) (s : Nat) : Prop := (gSz S s = 1 ∧ gIt S (gFo S s) 2 = 0 ∧ gIt S (gFo S s) 4 = 0 ∧ gIt S (gFo S s) 6 = 0) ∧ gIt S (gFo S s) 5 = -1
theorem endV_1 {pk : Nat → Int} (h1 : o = true ∧ pk p = 35 ∧ pk (p + 1) = 28) : endV pk p o S s = .error (p + 1) := by
  unfold endV
  rw [if_pos h1]
theorem endV_2 {pk : Nat → Int} (h1 : ¬ (o = true ∧ pk p = 35 ∧ pk (p + 1) = 28)) (h2 : isLn S s) : endV pk p o S s = .ok (sSz S (gFo S s) 1 (fun _ => 2)) := by
  unfold endV
  rw [if_neg h1]
  exact if_pos h2
theorem endV_3 {pk : Nat → Int} {u : Nat} (h1 : ¬ (o = true ∧ pk p = 35 ∧ pk (p + 1) = 28)) (h2 : ¬ isLn S s) (hu : ldG S (gFo S s) (gSz S s) 0 = u) (h3 : okS (smf S (gFo S s)) u (nxS (wS S (gFo S s)) (gSz S s) u) (suR S (gFo S s) (gSz S s) u)) : endV pk p o S s = .ok (sSz S (gFo S s) u (szR S (gFo S s) (gSz S s) u)) := by
  subst hu
  unfold endV
  rw [if_neg h1]
  exact (if_neg h2).trans (if_pos h3)
theorem endV_4 {pk : Nat → Int} {u : Nat} (h1 : ¬ (o = true ∧ pk p = 35 ∧ pk (p + 1) = 28)) (h2 : ¬ isLn S s) (hu : ldG S (gFo S s) (gSz S s) 0 = u) (h3 : ¬ okS (smf S (gFo S s)) u (nxS (wS S (gFo S s)) (gSz S s) u) (suR S (gFo S s) (gSz S s) u)) : endV pk p o S s = .error p := by
  subst hu
  unfold endV
  rw [if_neg h1]
  exact (if_neg h2).trans (if_neg h3)
theorem e_endVoice {n : Nat} (hB : CB M0 r m c row) (hv : MV S) (hl : ¬ lastS S < 0) (hs : s = (lastS S).toNat) (hV : VI S s n t) (hn : 1 ≤ n) (h : CRw M0 M r m S p o w) (hp : p ≤ c) (hE : ∀ e : Nat, endV (pkF c row) p o S s = .error e → ∀ M' : Mem, CE M0 M' m e → Q 0 M') (hO : ∀ S' : Mus, endV (pkF c row) p o S s = .ok S' → ∀ M' : Mem, CRw M0 M' r m S' p o w → Q 1 M') : w_X3_endVoice r m (zI s) M Q := by
  have hm := CB_m hB
  have n1 : ¬ ((1 : Int32) = 0) := by decide
  obtain ⟨l1, l2, l3⟩ := lastS_sp hl
  have l4 : s = 3 * (gNb S - 1) + (gVo S (gNb S - 1) - 1) := by rw [hs, l3]; rfl
  have v3 := hv.2.2.2.2.1 (gNb S - 1) l1
  have vnb := hv.2.2.1
  have vni := hv.2.2.2.1
  have hsb : s < 180 := by omega
  obtain ⟨q1, q2, q3⟩ := hv.2.2.2.2.2.2.1 (gNb S - 1) (gVo S (gNb S - 1) - 1) l1 l2
  obtain ⟨w1, w2⟩ := h.1.2.2.2.2.2.2.2.2.2.2.1 (gNb S - 1) (gVo S (gNb S - 1) - 1) l1 l2
  rw [← l4] at q1 q2 q3 w1 w2
  obtain ⟨a1, a2, u, a3, a4, a5, a6⟩ := hV
  have hsz : ∀ i : Nat, i < gNi S → M (m + 9) i = zI (gIt S i 5) := fun i hi => MW_at (a := 5) h.1.2.2.2.2.2 hi (by omega)
  have hld : ldG S (gFo S s) (gSz S s) 0 = u := by
    rw [a1]
    exact ldG_is a3 a4 (fun z z2 => by have := a5 u (Nat.le_refl _) z; omega) n 0 (by omega) (by omega)
  have main : ¬ (o = true ∧ pkF c row p = 35 ∧ pkF c row (p + 1) = 28) → w_X3_endVoice_30 r m Q (zI s) M := by
    intro h1
    have rest : ¬ isLn S s → ∃ k, w_X3_endVoice_78 r m Q k (zI s) (zI (gFo S s : Int)) 0 M := by
      intro h2
      have fin : w_X3_endVoice_112 r m Q (zI s) (zI (gFo S s : Int)) (zI (u : Int)) M := by
        unfold w_X3_endVoice_112
        refine ⟨h.1.2.2.1, ?_⟩
        rw [show zI (s : Int) = zI ((3 * (gNb S - 1) + (gVo S (gNb S - 1) - 1) : Nat) : Int) by rw [← l4]]
        refine e_settle (w := wS S (gFo S s)) (f0 := gFo S s) (n := gSz S s) (u := u) (CF_TB hB h.1.1) h.1.2.2.2.2.2 hv hm l1 l2 (by rw [← l4]) (by rw [← l4]) (by omega) (fun j hj1 hj2 => ⟨rfl, a5 j hj1 (by omega)⟩) (fun ho M' hf h35 h36 => ?_) (fun ho M' hf => ?_)
        · have hx := CRw_sz hB h hf
          refine ⟨fun _ => ⟨hx.1.2.2.1, ?_⟩, fun z => absurd z n1⟩
          rw [lz0, zI_lt (by omega) (by omega) (by omega) (by omega), zI_lt (by omega) (by omega) (by omega) (by omega), zI_tn (by omega) (by omega), zI_tn (by omega) (by omega), zI_tn (by omega) (by omega), tn_nat, tn_nat]
          refine ⟨by omega, by omega, by omega, by omega, fun M17 e17 => hO _ (endV_3 h1 h2 hld ho) M17 (CRw_mus hB hx (MW_sz hx.1.2.2.2.2.2 (fun k hk => by rw [e17, mrow_o hk]) (fun i hi => ?_)) (fun k hk => by rw [e17, mrow_o (by omega)]))⟩
          rw [e17, mrow_k]
          unfold va_cpy
          by_cases gi : gFo S s ≤ i ∧ i < gFo S s + u
          · rw [if_pos gi, if_pos gi, Int.toNat_zero, Nat.zero_add, h36 (i - gFo S s) (by omega)]
            rfl
          · rw [if_neg gi, if_neg gi, hf (m + 9) (by omega)]
            exact hsz i hi
        · have hx := CRw_sz hB h hf
          exact ⟨fun z => absurd rfl z, fun _ => hE p (endV_4 h1 h2 hld ho) M' (CE_of hx.1)⟩
      refine ⟨u + 1, ?_⟩
      have key : ∀ (k j : Nat), j + k = u → w_X3_endVoice_78 r m Q (k + 1) (zI s) (zI (gFo S s : Int)) (zI (j : Int)) M := by
        intro k
        induction k with
        | zero =>
          intro j hj
          have hj' : j = u := by omega
          subst hj'
          show wb_X3_endVoice_78 r m Q (w_X3_endVoice_78 r m Q 0) _ _ _ M
          unfold wb_X3_endVoice_78
          rw [zI_in (by omega) (by omega), zI_tn (by omega) (by omega), tn_nat, w2, zI_le (by omega) (by omega) (by omega) (by omega), zI_add, zI_in (by omega) (by omega), zI_tn (by omega) (by omega)]
          refine ⟨h.1.2.2.1, by omega, fun _ => fin, fun g => ⟨h.1.2.2.1, by omega, fun _ => fin, fun z => ?_⟩⟩
          rw [show ((gFo S s : Int) + (j : Int)).toNat = gFo S s + j by omega, hsz _ (by omega), ln1] at z
          have := a5 j (Nat.le_refl _) (by omega)
          have b5 := zI_inj z (by omega) (by omega) (by omega) (by omega)
          omega
        | succ k ih =>
          intro j hj
          show wb_X3_endVoice_78 r m Q (w_X3_endVoice_78 r m Q (k + 1)) _ _ _ M
          unfold wb_X3_endVoice_78
          rw [zI_in (by omega) (by omega), zI_tn (by omega) (by omega), tn_nat, w2, zI_le (by omega) (by omega) (by omega) (by omega), zI_add, zI_in (by omega) (by omega), zI_tn (by omega) (by omega)]
          have e5 : M (m + 9) ((gFo S s : Int) + (j : Int)).toNat = -1 := by
            rw [show ((gFo S s : Int) + (j : Int)).toNat = gFo S s + j by omega, hsz _ (by omega), a4 j (by omega), ln1]
          refine ⟨h.1.2.2.1, by omega, fun z => by omega, fun g => ⟨h.1.2.2.1, by omega, fun z => absurd e5 z, fun _ x20 e20 => ?_⟩⟩
          have e20' : x20 = zI ((j + 1 : Nat) : Int) := by rw [e20, lz1, zI_add]; rfl
          rw [e20']
          exact ih (j + 1) (by omega)
      exact key u 0 (by omega)
    unfold w_X3_endVoice_30
    rw [zI_in (by omega) (by omega), zI_tn (by omega) (by omega), tn_nat, w1]
    refine ⟨h.1.2.2.1, by omega, fun x3 e3 => ⟨h.1.2.2.1, ?_⟩⟩
    subst e3
    rw [show zI (s : Int) = zI ((3 * (gNb S - 1) + (gVo S (gNb S - 1) - 1) : Nat) : Int) by rw [← l4]]
    have e0 : M (m + 9) (gFo S s) = zI (gIt S (gFo S s) 5) := hsz _ (by omega)
    have ib := (hv.2.2.2.2.2.1 (gFo S s) (by omega)).2.2.2.2.2.1
    refine e_isLone h.1.2.2.2.2.2 hv l1 l2 (fun g => ⟨fun z => absurd z n1, fun _ => ⟨h.1.2.2.1, ?_⟩⟩) (fun g => ⟨fun _ => ?_, fun z => absurd rfl z⟩)
    · rw [← l4] at g ⊢
      rw [zI_in (by omega) (by omega), zI_tn (by omega) (by omega), tn_nat, e0, ln1, zI_eq (by omega) (by omega) (by omega) (by omega)]
      refine ⟨by omega, fun z => rest (fun y => z y.2), fun z => ⟨h.1.2.2.1, by omega, fun M25 e25 => hO _ (endV_2 h1 ⟨g, z⟩) M25 (CRw_mus hB h (MW_sz h.1.2.2.2.2.2 (fun k hk => by rw [e25, mset_o hk]) (fun i hi => ?_)) (fun k hk => by rw [e25, mset_o (by omega)]))⟩⟩
      rw [e25]
      by_cases gi : i = gFo S s
      · subst gi
        rw [mset_at, if_pos (by omega), lz2]
      · rw [mset_j gi, if_neg (by omega)]
        exact hsz i hi
    · rw [← l4] at g ⊢
      exact rest (fun y => g y.1)
  unfold w_X3_endVoice
  rw [h.1.2.2.2.2.1]
  refine ⟨fun z => main (fun y => ?_), fun z0 => ?_⟩
  · have := bI_0.mp z
    rw [this] at y
    exact absurd y.1 (by decide)
  · rw [lz35, lz28]
    refine e_sees hB h.1 hp (by omega) (by omega) (fun g => ⟨fun z => absurd z n1, fun _ M28 e28 => ?_⟩) (fun g => ⟨fun _ => main (fun y => g y.2), fun z => absurd rfl z⟩)
    rw [h.1.2.2.2.1, lz1, zI_add] at e28
    have ho : o = true := by
      cases o with
      | true => rfl
      | false => exact absurd rfl z0
    exact hE (p + 1) (endV_1 ⟨ho, g⟩) M28 (CE_at (q := p + 1) hB h.1 e28)
end CVoice
