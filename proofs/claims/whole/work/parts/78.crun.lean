section CRun
variable {M0 M M' : Mem} {S S' : Mus} {c r m p q s : Nat} {row : Nat → Int} {o : Bool} {t : Int} {w : Option Int} {Q : Int32 → Mem → Prop}
theorem one0 : ¬ ((1 : Int32) = 0) := by decide
theorem okW_WT {k : Nat} (h : WT M k w) : okW w := by
  cases w with
  | none => trivial
  | some q => exact ⟨h.2.2.1, h.2.2.2⟩
theorem e_atEnd (hB : CB M0 r m c row) (h : CR0 M0 M r m S p o) (hp : p ≤ c) (h1 : (pkF c row p = 0 ∨ pkF c row p = 64 ∨ pkF c row p = -1 ∨ (pkF c row p = 35 ∧ pkF c row (p + 1) = 28)) → Q 1 M) (h0 : ¬ (pkF c row p = 0 ∨ pkF c row p = 64 ∨ pkF c row p = -1 ∨ (pkF c row p = 35 ∧ pkF c row (p + 1) = 28)) → Q 0 M) : w_X3_isAtVoiceEnd r m M Q := by
  have b := (PK_pkF hB p).2
  unfold w_X3_isAtVoiceEnd
  refine e_peek hB h hp ?_
  rw [lz0, zI_eq (by omega) (by omega) (by omega) (by omega), lz64, zI_eq (by omega) (by omega) (by omega) (by omega), ln1, zI_eq (by omega) (by omega) (by omega) (by omega), ← lz0, lz35, lz28]
  refine ⟨fun g => h1 (Or.inl g), fun g1 => ⟨fun g => h1 (Or.inr (Or.inl g)), fun g2 => ⟨fun g => h1 (Or.inr (Or.inr (Or.inl g))), fun g3 => e_sees hB h hp (by omega) (by omega) (fun g z5 e5 => ?_) (fun g z5 e5 => ?_)⟩⟩⟩
  · rw [if_neg one0] at e5
    subst e5
    exact ⟨Or.inr rfl, h1 (Or.inr (Or.inr (Or.inr g)))⟩
  · rw [if_pos rfl] at e5
    subst e5
    exact ⟨Or.inl rfl, h0 (by omega)⟩
theorem e_voice0 {l1 l3 : Int32} {k : Nat} (h : Q 0 M) : w_X3_readVoice_47 r m Q (k + 1) l1 0 l3 M := by
  show wb_X3_readVoice_47 r m Q (w_X3_readVoice_47 r m Q k) _ _ _ M
  unfold wb_X3_readVoice_47
  have f : w_X3_readVoice_102 r m Q l1 0 l3 M := ⟨fun _ => h, fun z => absurd rfl z⟩
  exact ⟨fun _ => f, fun _ => ⟨fun _ => f, fun z => absurd rfl z⟩⟩
theorem vo_end {pk : Nat → Int} {n k : Nat} (hn : 0 < n) (h : pk p = 0 ∨ pk p = 64 ∨ pk p = -1 ∨ (pk p = 35 ∧ pk (p + 1) = 28)) : voP pk s (k + 1) n p o t w S = (match endV pk p o S s with
      | .error e => .error e
      | .ok S' => .ok (p, o, w, S')) := by
  rw [voP]
  exact if_pos ⟨hn, h⟩
theorem vo_full {pk : Nat → Int} {n k : Nat} (h : ¬ (0 < n ∧ (pk p = 0 ∨ pk p = 64 ∨ pk p = -1 ∨ (pk p = 35 ∧ pk (p + 1) = 28)))) (h2 : 40 ≤ n ∨ 600 ≤ gNi S) : voP pk s (k + 1) n p o t w S = .error p := by
  rw [voP]
  exact (if_neg h).trans (if_pos h2)
theorem vo_item {pk : Nat → Int} {n k : Nat} (h : ¬ (0 < n ∧ (pk p = 0 ∨ pk p = 64 ∨ pk p = -1 ∨ (pk p = 35 ∧ pk (p + 1) = 28)))) (h2 : ¬ (40 ≤ n ∨ 600 ≤ gNi S)) : voP pk s (k + 1) n p o t w S = (match itemP pk (gHd S) p o t w with
      | .error e => .error e
      | .ok (p', o', t', w', d) => voP pk s k (n + 1) p' o' t' w' (sAdd S d)) := by
  rw [voP]
  exact (if_neg h).trans (if_neg h2)
theorem e_voice47 (hB : CB M0 r m c row) : ∀ (k n p : Nat) (o : Bool) (t : Int) (w : Option Int) (S : Mus) (M : Mem), n + k = 40 → 1 ≤ n → MV S → ¬ lastS S < 0 → s = (lastS S).toNat → VI S s n t → (-1 ≤ t ∧ t ≤ 1) → CRt M0 M r m S p o t w → p ≤ c → (∀ e : Nat, voP (pkF c row) s (k + 1) n p o t w S = .error e → ∀ M' : Mem, CE M0 M' m e → Q 0 M') → (∀ (p' : Nat) (o' : Bool) (w' : Option Int) (S' : Mus), voP (pkF c row) s (k + 1) n p o t w S = .ok (p', o', w', S') → ∀ M' : Mem, CRw M0 M' r m S' p' o' w' → Q 1 M') → w_X3_readVoice_47 r m Q (k + 2) (zI s) 1 (zI n) M := by
  intro k
  induction k with
  | zero =>
    intro n p o t w S M hk hn hv hl hs hV ht h hp hE hO
    have hn40 : n = 40 := by omega
    subst hn40
    show wb_X3_readVoice_47 r m Q (w_X3_readVoice_47 r m Q 1) _ _ _ M
    unfold wb_X3_readVoice_47
    rw [lz40, zI_lt (by omega) (by omega) (by omega) (by omega)]
    refine ⟨fun z => by omega, fun _ => ⟨fun z => absurd z one0, fun _ => ?_⟩⟩
    refine e_atEnd hB h.1 hp (fun g => ⟨fun _ => ?_, fun z => absurd z one0⟩) (fun g => ⟨fun z => absurd rfl z, fun _ => ⟨fun _ x13 e13 => ?_, fun z => absurd (by rw [zI_le (by omega) (by omega) (by omega) (by omega)]; omega) z⟩⟩)
    · unfold w_X3_readVoice_102
      have ev := vo_end (s := s) (o := o) (t := t) (w := w) (S := S) (n := 40) (k := 0) (by omega) g
      refine ⟨fun z => absurd z one0, fun _ => e_endVoice hB hv hl hs hV hn (CRw_of h) hp (fun e he M' h' z8 e8 => ?_) (fun S' he M' h' z8 e8 => ?_)⟩
      · rw [if_pos rfl] at e8
        subst e8
        exact ⟨Or.inl rfl, hE e (by rw [ev, he]) M' h'⟩
      · rw [if_neg one0] at e8
        subst e8
        exact ⟨Or.inr rfl, hO p o w S' (by rw [ev, he]) M' h'⟩
    · exact e_voice0 (hE p (vo_full (fun z => g z.2) (Or.inl (Nat.le_refl _))) M (CE_of h.1))
  | succ k ih =>
    intro n p o t w S M hk hn hv hl hs hV ht h hp hE hO
    have hni := hv.2.2.2.1
    show wb_X3_readVoice_47 r m Q (w_X3_readVoice_47 r m Q (k + 2)) _ _ _ M
    unfold wb_X3_readVoice_47
    have e3 : M m 3 = zI (gNi S : Int) := h.1.2.2.2.2.2.2.2.2.1
    rw [lz40, zI_lt (by omega) (by omega) (by omega) (by omega)]
    refine ⟨fun z => by omega, fun _ => ⟨fun z => absurd z one0, fun _ => ?_⟩⟩
    refine e_atEnd hB h.1 hp (fun g => ⟨fun _ => ?_, fun z => absurd z one0⟩) (fun g => ⟨fun z => absurd rfl z, fun _ => ⟨fun z => absurd ((zI_le (by omega) (by omega) (by omega) (by omega)).mp z) (by omega), fun _ => ⟨h.1.2.2.1, ?_⟩⟩⟩)
    · unfold w_X3_readVoice_102
      have ev := vo_end (s := s) (o := o) (t := t) (w := w) (S := S) (n := n) (k := k + 1) (by omega) g
      refine ⟨fun z => absurd z one0, fun _ => e_endVoice hB hv hl hs hV hn (CRw_of h) hp (fun e he M' h' z8 e8 => ?_) (fun S' he M' h' z8 e8 => ?_)⟩
      · rw [if_pos rfl] at e8
        subst e8
        exact ⟨Or.inl rfl, hE e (by rw [ev, he]) M' h'⟩
      · rw [if_neg one0] at e8
        subst e8
        exact ⟨Or.inr rfl, hO p o w S' (by rw [ev, he]) M' h'⟩
    · rw [e3, lz600, zI_le (by omega) (by omega) (by omega) (by omega)]
      refine ⟨fun g2 x15 e15 => e_voice0 (hE p (vo_full (fun z => g z.2) (Or.inr (by omega))) M (CE_of h.1)), fun g2 => ?_⟩
      have ev := vo_item (pk := pkF c row) (p := p) (s := s) (o := o) (t := t) (w := w) (S := S) (n := n) (k := k + 1) (fun z => g z.2) (by omega)
      have hz : gSz S (lastS S).toNat < 40 := by rw [← hs, hV.1]; omega
      refine e_item hB hv hl (by omega) hz ht h hp (fun e he M' h' z18 e18 x19 e19 => ?_) (fun p1 o1 t1 w1 d hi M' h' z18 e18 x19 e19 => ?_)
      · rw [if_pos rfl] at e18
        subst e18
        exact e_voice0 (hE e (by rw [ev, he]) M' h')
      · rw [if_neg one0] at e18
        subst e18
        have e19' : x19 = zI ((n + 1 : Nat) : Int) := by rw [e19, lz1, zI_add]; rfl
        rw [e19']
        obtain ⟨i1, i2, i3, i4, i5, i6, i7⟩ := item_sp (PK_pkF hB) hp ht (okW_WT h.2.2) hi
        rw [hi] at ev
        exact ih (n + 1) p1 o1 t1 w1 (sAdd S d) M' (by omega) (by omega) (MV_add hv hl (by omega) hz i6) hl hs (VI_add hV hs i7 i3 i4) i3 h' i2 (fun e he => hE e (by rw [ev]; exact he)) (fun p' o' w' S' he => hO p' o' w' S' (by rw [ev]; exact he))
theorem CRt_m1 (hB : CB M0 r m c row) (h : CRw M0 M r m S p o w) (e : M' = mset M 40 6 (-1)) : CRt M0 M' r m S p o (-1) w := by
  have hm := CB_m hB
  obtain ⟨⟨h1, h2, h3, h4, h5, h6⟩, h8⟩ := h
  exact ⟨⟨CF_40 hB h1 e, by rw [e, mset_j (by omega)]; exact h2, by rw [e, mset_j (by omega)]; exact h3, by rw [e, mset_j (by omega)]; exact h4, by rw [e, mset_j (by omega)]; exact h5, MW_far h6 (fun k g1 g2 => by rw [e, mset_o (by omega)])⟩, by rw [e, mset_at, ln1], WT_of h8 (by rw [e, mset_o (by omega)])⟩
theorem e_voiceR (hB : CB M0 r m c row) (hS : SV S) (h : CRw M0 M r m S p o w) (hp : p ≤ c) (hE : ∀ e : Nat, vcP (pkF c row) p o w S = .error e → ∀ M' : Mem, CE M0 M' m e → Q 0 M') (hO : ∀ (p' : Nat) (o' : Bool) (w' : Option Int) (S' : Mus), vcP (pkF c row) p o w S = .ok (p', o', w', S') → ∀ M' : Mem, CRw M0 M' r m S' p' o' w' → Q 1 M') : w_X3_readVoice r m M Q := by
  obtain ⟨hv, hg, hV⟩ := hS
  have hni := hv.2.2.2.1
  have lb := lastS_bd hv
  unfold w_X3_readVoice
  refine ⟨h.1.2.2.1, e_lastSlot h.1.2.2.2.2.2 hv ?_⟩
  rw [lz0, zI_le (by omega) (by omega) (by omega) (by omega)]
  refine ⟨fun g M4 e4 => ?_, fun g => hO p o w S (by unfold vcP; rw [if_pos (by omega)]) M h⟩
  have hl : ¬ lastS S < 0 := by omega
  have hVI := hV hl
  have ec : vcP (pkF c row) p o w S = voP (pkF c row) (lastS S).toNat 41 0 p o (-1) w S := by unfold vcP; rw [if_neg hl]
  have h4 := CRt_m1 hB h e4
  have e3 : M4 m 3 = zI (gNi S : Int) := h4.1.2.2.2.2.2.2.2.2.1
  have es : zI (lastS S) = zI (((lastS S).toNat : Nat) : Int) := by congr 1; omega
  rw [← lz0]
  refine ⟨h4.1.2.2.1, ?_⟩
  rw [e3, lz600, zI_le (by omega) (by omega) (by omega) (by omega)]
  refine ⟨fun g2 => ⟨1, e_voice0 (hE p (by rw [ec, vo_full (fun z => absurd z.1 (by omega)) (Or.inr (by omega))]) M4 (CE_of h4.1))⟩, fun g2 => ?_⟩
  have ev := vo_item (pk := pkF c row) (p := p) (s := (lastS S).toNat) (o := o) (t := -1) (w := w) (S := S) (n := 0) (k := 40) (fun z => absurd z.1 (by omega)) (by omega)
  have hz : gSz S (lastS S).toNat < 40 := by rw [hVI.1]; omega
  refine e_item hB hv hl (by omega) hz (by omega) h4 hp (fun e he M' h' z23 e23 => ?_) (fun p1 o1 t1 w1 d hi M' h' z23 e23 => ?_)
  · rw [if_pos rfl] at e23
    subst e23
    exact ⟨1, e_voice0 (hE e (by rw [ec, ev, he]) M' h')⟩
  · rw [if_neg one0] at e23
    subst e23
    obtain ⟨i1, i2, i3, i4, i5, i6, i7⟩ := item_sp (PK_pkF hB) hp (by omega) (okW_WT h.2) hi
    rw [hi] at ev
    rw [es, lz1]
    have := e_voice47 (Q := Q) hB 39 1 p1 o1 t1 w1 (sAdd S d) M' (by omega) (by omega) (MV_add hv hl (by omega) hz i6) hl rfl (VI_add hVI rfl i7 i3 i4) i3 h' i2 (fun e he => hE e (by rw [ec, ev]; exact he)) (fun p' o' w' S' he => hO p' o' w' S' (by rw [ec, ev]; exact he))
    exact ⟨41, this⟩
theorem e_enter41 (hB : CB M0 r m c row) (hv : MV S) (h : CR0 M0 M r m S p o) (hw : 0 < gNb S → WT M 41 w) (hQ : ∀ M' : Mem, CRw M0 M' r m S p o (entS S (gNb S) w) → Q 0 M') : w_X1_enterBar 41 m (zI (gNb S : Int)) M Q := by
  have hnb := hv.2.2.1
  have hW := h.2.2.2.2.2
  unfold w_X1_enterBar
  have k0 : zI (gNb S : Int) ≤ 0 ↔ gNb S = 0 := by rw [lz0, zI_le (by omega) (by omega) (by omega) (by omega)]; omega
  have k1 : zI (gNb S : Int) < zI (gNb S : Int) ↔ False := by rw [zI_lt (by omega) (by omega) (by omega) (by omega)]; exact ⟨fun z => by omega, fun z => z.elim⟩
  rw [hW.2.2.1, lz1, zI_sub, zI_in (by omega) (by omega), zI_tn (by omega) (by omega)]
  simp only [k0, k1]
  have forget : entS S (gNb S) w = none → w_X1_forget 41 M (fun v3 M4 => Q 0 M4) := by
    intro he M1 e1
    refine hQ M1 ⟨CR0_41 hB h e1, ?_⟩
    rw [he]
    show ¬ M1 41 1 = 0
    rw [e1, mset_at]
    decide
  by_cases g : gNb S = 0
  · refine ⟨⟨fun _ => trivial, fun z => absurd g z⟩, fun z2 e2 => ?_⟩
    rw [if_pos g] at e2
    subst e2
    refine ⟨fun z => absurd rfl z, fun _ => forget (if_neg (by omega))⟩
  · have hb1 := hv.2.2.2.2.1 (gNb S - 1) (by omega)
    have e1 : M (m + 1) ((gNb S : Int) - 1).toNat = zI (gVo S (gNb S - 1)) := by rw [show ((gNb S : Int) - 1).toNat = gNb S - 1 by omega]; exact hW.2.2.2.2.1 (gNb S - 1) (by omega)
    have k2 : zI (gVo S (gNb S - 1) : Int) = zI 1 ↔ gVo S (gNb S - 1) = 1 := by rw [zI_eq (by omega) (by omega) (by omega) (by omega)]; omega
    rw [e1]
    simp only [k2]
    refine ⟨⟨fun z => absurd z g, fun _ => ⟨fun z => z.elim, fun _ => ⟨by omega, fun _ => trivial, fun _ => trivial⟩⟩⟩, fun z2 e2 => ?_⟩
    rw [if_neg g, if_neg (fun z => z)] at e2
    by_cases g2 : gVo S (gNb S - 1) = 1
    · rw [if_pos g2] at e2
      subst e2
      refine ⟨fun _ => hQ M ?_, fun z => absurd z (by decide +kernel)⟩
      rw [show entS S (gNb S) w = w from if_pos ⟨by omega, g2⟩]
      exact ⟨h, hw (by omega)⟩
    · rw [if_neg g2] at e2
      subst e2
      exact ⟨fun z => absurd rfl z, fun _ => forget (if_neg (fun z => g2 z.2))⟩
theorem CRw_at (hB : CB M0 r m c row) (h : CRw M0 M r m S p o w) (e : M' = mset M 40 4 (zI q)) : CRw M0 M' r m S q o w := ⟨CR0_at hB h.1 e, WT_of h.2 (by rw [e, mset_o (by omega)])⟩
theorem e_beginBar (hB : CB M0 r m c row) (hv : MV S) (h : CR0 M0 M r m S p o) (hw : 0 < gNb S → WT M 41 w) (hp : p ≤ c) (hE : ∀ e : Nat, barP (pkF c row) p o S = .error e → ∀ M' : Mem, CE M0 M' m e → Q 0 M') (hO : ∀ (p' : Nat) (S' : Mus), barP (pkF c row) p o S = .ok (p', S') → ∀ M' : Mem, CRw M0 M' r m S' p' o (entS S (gNb S) w) → Q 1 M') : w_X3_beginBar r m M Q := by
  have hnb := hv.2.2.1
  have b0 := (PK_pkF hB p).2
  have e2 : M m 2 = zI (gNb S : Int) := h.2.2.2.2.2.2.2.1
  unfold w_X3_beginBar
  refine ⟨h.2.2.1, h.2.2.1, ?_⟩
  rw [e2]
  refine e_enter41 hB hv h hw (fun M4 h4 => e_peek hB h4.1 hp (fun z7 e7 => ?_))
  have e2' : M4 m 2 = zI (gNb S : Int) := h4.1.2.2.2.2.2.2.2.1
  have k7 : zI (pkF c row p) = 54 ↔ pkF c row p = 54 := by rw [lz54, zI_eq (by omega) (by omega) (by omega) (by omega)]
  have e7' : z7 = if pkF c row p = 54 then 1 else 0 := by rw [e7]; simp only [k7]
  have go : ¬ (pkF c row p = 54 ∧ (gNb S = 0 ∨ o = true)) → w_X3_beginBar_56 r m Q z7 M4 := by
    intro g
    unfold w_X3_beginBar_56
    refine ⟨h4.1.2.2.1, e_startBar h4.1.2.2.2.2.2 hv (fun g1 g2 M10 w10 o10 => ⟨fun _ z11 e11 M12 e12 => ?_, fun z => absurd z one0⟩) (fun g1 g2 M10 w10 o10 => ⟨fun _ z11 e11 M12 e12 => ?_, fun z => absurd z one0⟩) (fun g1 => ⟨fun z => absurd rfl z, fun _ => hE p ?_ M4 (CE_of h4.1)⟩)⟩
    · have g3 : pkF c row p = 54 := by
        by_cases g3 : pkF c row p = 54
        · exact g3
        · rw [if_neg g3] at e7'; exact absurd e7' g2
      have h10 := CRw_mus hB h4 w10 o10
      rw [if_neg g2] at e11
      rw [e11, h10.1.2.2.2.1, lz1, zI_add] at e12
      exact hO (p + 1) (sBar S) (by unfold barP; rw [if_neg (fun z => z.elim g (fun y => by omega)), if_pos g3]) M12 (CRw_at (q := p + 1) hB h10 e12)
    · have g3 : ¬ pkF c row p = 54 := by
        intro g3
        rw [if_pos g3] at e7'
        exact absurd (e7'.symm.trans g2) one0
      have h10 := CRw_mus hB h4 w10 o10
      rw [if_pos g2] at e11
      rw [e11, h10.1.2.2.2.1, lz0, zI_add, Int.add_zero] at e12
      exact hO p (sVoice (sBar S)) (by unfold barP; rw [if_neg (fun z => z.elim g (fun y => by omega)), if_neg g3]) M12 (CRw_at (q := p) hB h10 e12)
    · unfold barP
      rw [if_pos (Or.inr (by omega))]
  have bad : pkF c row p = 54 ∧ (gNb S = 0 ∨ o = true) → Q 0 M4 := fun g => hE p (by unfold barP; rw [if_pos (Or.inl g)]) M4 (CE_of h4.1)
  rw [e2', lz0, zI_eq (a := (gNb S : Int)) (by omega) (by omega) (by omega) (by omega), ← lz0, h4.1.2.2.2.2.1]
  by_cases g : pkF c row p = 54
  · rw [if_pos g] at e7'
    refine ⟨fun z => absurd (e7'.symm.trans z) one0, fun _ => ⟨h4.1.2.2.1, fun g2 => bad ⟨g, Or.inl (by omega)⟩, fun g2 => ⟨fun g3 => go (fun z => ?_), fun g3 => bad ⟨g, Or.inr ?_⟩⟩⟩⟩
    · have := bI_0.mp g3
      rcases z.2 with z2 | z2
      · omega
      · rw [this] at z2; exact absurd z2 (by decide)
    · cases o with
      | true => rfl
      | false => exact absurd rfl g3
  · refine ⟨fun _ => go (fun z => g z.1), fun z => ?_⟩
    rw [if_neg g] at e7'
    exact absurd e7' z
theorem e_forget41 (hB : CB M0 r m c row) (h : CR0 M0 M r m S p o) (hQ : ∀ M' : Mem, CRw M0 M' r m S p o none → Q 0 M') : w_X1_forget 41 M Q := by
  intro M1 e1
  refine hQ M1 ⟨CR0_41 hB h e1, ?_⟩
  show ¬ M1 41 1 = 0
  rw [e1, mset_at]
  decide
theorem e_next (hB : CB M0 r m c row) (hv : MV S) (h : CRw M0 M r m S p o w) (hp : p ≤ c) (hE : ∀ e : Nat, nextP (pkF c row) p o w S = .error e → ∀ M' : Mem, CE M0 M' m e → Q 0 M') (hO : ∀ (p' : Nat) (w' : Option Int) (S' : Mus), nextP (pkF c row) p o w S = .ok (p', w', S') → ∀ M' : Mem, CRw M0 M' r m S' p' o w' → Q 1 M') : w_X3_beginNext r m M Q := by
  have hP := PK_pkF hB
  have b0 := (hP p).2
  have lb := lastS_bd hv
  have hnb := hv.2.2.1
  have hni := hv.2.2.2.1
  unfold w_X3_beginNext
  refine e_peek hB h.1 hp ?_
  rw [lz0, zI_eq (by omega) (by omega) (by omega) (by omega), lz64, zI_eq (by omega) (by omega) (by omega) (by omega)]
  have bar : (pkF c row p = 0 ∨ pkF c row p = 64) → w_X3_beginNext_15 r m Q (zI (pkF c row p)) M := by
    intro g
    have en : nextP (pkF c row) p o w S = (match barP (pkF c row) (p + 1) o S with
      | .error e => .error e
      | .ok (p', S') => .ok (p', entS S (gNb S) (if pkF c row p = 64 then none else w), S')) := by unfold nextP; rw [if_pos g]; rfl
    have hin := (hP p).1 (by omega)
    unfold w_X3_beginNext_15
    intro M3 e3
    rw [h.1.2.2.2.1, lz1, zI_add] at e3
    have h3 := CRw_at (q := p + 1) hB h e3
    rw [lz64, zI_eq (by omega) (by omega) (by omega) (by omega)]
    refine ⟨fun g2 => ?_, fun g2 => e_forget41 hB h3.1 (fun M8 h8 => ?_)⟩
    · rw [if_neg g2] at en
      exact e_beginBar (w := w) hB hv h3.1 (fun _ => h3.2) (by omega) (fun e he M' h' => ⟨Or.inl rfl, hE e (by rw [en, he]) M' h'⟩) (fun p' S' he M' h' => ⟨Or.inr rfl, hO p' _ S' (by rw [en, he]) M' h'⟩)
    · rw [if_pos g2] at en
      exact e_beginBar (w := none) hB hv h8.1 (fun _ => h8.2) (by omega) (fun e he M' h' => ⟨Or.inl rfl, hE e (by rw [en, he]) M' h'⟩) (fun p' S' he M' h' => ⟨Or.inr rfl, hO p' _ S' (by rw [en, he]) M' h'⟩)
  refine ⟨fun g => bar (Or.inl g), fun g => ⟨fun g2 => ⟨h.1.2.2.1, e_lastSlot h.1.2.2.2.2.2 hv ?_⟩, fun g2 => bar (Or.inr g2)⟩⟩
  rw [zI_lt (by omega) (by omega) (by omega) (by omega)]
  have en : nextP (pkF c row) p o w S = if lastS S < 0 ∨ ¬ (pkF c row p = 35 ∧ pkF c row (p + 1) = 28) then .error p else if gVo S (gNb S - 1) < 3 then .ok (p + 2, none, sVoice S) else .error (p + 2) := by unfold nextP; rw [if_neg (by omega)]
  refine ⟨fun g3 => hE p (by rw [en, if_pos (Or.inl g3)]) M (CE_of h.1), fun g3 => ?_⟩
  rw [← lz0, lz35, lz28]
  refine e_sees hB h.1 hp (by omega) (by omega) (fun g4 => ⟨fun _ M17 e17 => ?_, fun z => absurd z one0⟩) (fun g4 => ⟨fun z => absurd rfl z, fun _ => hE p (by rw [en, if_pos (Or.inr g4)]) M (CE_of h.1)⟩)
  rw [h.1.2.2.2.1, lz2, zI_add] at e17
  have h17 := CRw_at (q := p + 2) hB h e17
  obtain ⟨l1, l2, l3⟩ := lastS_sp g3
  rw [if_neg (fun z => z.elim (fun y => g3 y) (fun y => y g4))] at en
  refine e_forget41 hB h17.1 (fun M19 h19 => ⟨h19.1.2.2.1, e_startVoice h19.1.2.2.2.2.2 hnb hni hv.2.2.2.2.1 (fun g5 g6 M22 w22 o22 => ⟨Or.inr rfl, hO (p + 2) none (sVoice S) (by rw [en, if_pos g6]) M22 (CRw_mus hB h19 w22 o22)⟩) (fun g5 => ⟨Or.inl rfl, hE (p + 2) (by rw [en, if_neg (by omega)]) M19 (CE_of h19.1)⟩)⟩)
theorem e_hand (hB : CB M0 r m c row) (h : CR0 M0 M r m S 0 o) (h0 : gHd S = 0) (hQ : ∀ M' : Mem, CR0 M0 M' r m (sHd S (hdP (pkF c row)).2) (hdP (pkF c row)).1 o → Q 0 M') : w_X3_readHand r m M Q := by
  have b0 := (PK_pkF hB 0).2
  have hm := CB_m hB
  have fin : (pkF c row 0 = 40 ∨ pkF c row 0 = 56) → pkF c row 1 = 28 → w_X3_readHand_22 r m Q M := by
    intro g1 g2
    unfold w_X3_readHand_22
    refine ⟨h.2.2.1, e_peek hB h (Nat.zero_le _) (fun z6 e6 M7 e7 M8 e8 => ?_)⟩
    have ed : hdP (pkF c row) = (2, if pkF c row 0 = 56 then 2 else 1) := by
      unfold hdP
      rcases g1 with g | g
      · rw [if_pos ⟨g2, g⟩, if_neg (by omega)]
      · rw [if_neg (by omega), if_pos ⟨g2, g⟩, if_pos g]
    have e6' : z6 = zI (if pkF c row 0 = 56 then 2 else 1) := by
      rw [e6]
      have k : zI (pkF c row 0) = 56 ↔ pkF c row 0 = 56 := by rw [lz56, zI_eq (by omega) (by omega) (by omega) (by omega)]
      simp only [k]
      by_cases g : pkF c row 0 = 56
      · rw [if_pos g, if_pos g]; rfl
      · rw [if_neg g, if_neg g]; rfl
    rw [ed] at hQ
    subst e6'
    have h7 := CR0_mus (M' := M7) (S' := sHd S (if pkF c row 0 = 56 then 2 else 1)) hB h (by rw [e7]; exact MW_hd h.2.2.2.2.2) (fun k hk => by rw [e7, mset_o (by omega)])
    rw [h7.2.2.2.1, lz2, zI_add] at e8
    exact hQ M8 (CR0_at (q := 2) hB h7 e8)
  unfold w_X3_readHand
  rw [lz40, lz28, lz56]
  refine e_sees hB h (Nat.zero_le _) (by omega) (by omega) (fun g => ⟨fun _ => fin (Or.inl g.1) g.2, fun z => absurd z one0⟩) (fun g => ⟨fun z => absurd rfl z, fun _ => e_sees hB h (Nat.zero_le _) (by omega) (by omega) (fun g2 => ⟨fun z => absurd z one0, fun _ => fin (Or.inr g2.1) g2.2⟩) (fun g2 => ⟨fun _ => ?_, fun z => absurd rfl z⟩)⟩)
  have ed : hdP (pkF c row) = (0, 0) := by
    unfold hdP
    rw [if_neg (fun z => g ⟨z.2, z.1⟩), if_neg (fun z => g2 ⟨z.2, z.1⟩)]
  rw [ed] at hQ
  have es : sHd S 0 = S := by
    unfold sHd
    rw [← h0]
    rfl
  refine hQ M ?_
  show CR0 M0 M r m (sHd S 0) 0 o
  rw [es]
  exact h
theorem e_run99 {l4 : Int32} {g : Bool} (h : CR0 M0 M r m S p o) (hQ : Q (if g = true ∧ o = false then zI (gNb S : Int) else zI (-10 - (p : Int))) M) : w_X3_run_99 r m Q (bI g) l4 M := by
  unfold w_X3_run_99
  rw [h.2.2.2.1, h.2.2.2.2.1, ln10, zI_sub, h.2.2.2.2.2.2.2.1]
  cases g with
  | false =>
    rw [if_neg (fun z => absurd z.1 (by decide))] at hQ
    refine ⟨⟨fun _ => trivial, fun z => absurd rfl z⟩, fun z10 e10 => ?_⟩
    rw [if_pos (show bI false = 0 from rfl)] at e10
    rw [e10]
    exact hQ
  | true =>
    cases o with
    | false =>
      rw [if_pos ⟨rfl, rfl⟩] at hQ
      refine ⟨⟨fun z => trivial, fun _ => ⟨fun z => trivial, fun _ => ⟨h.2.2.1, trivial⟩⟩⟩, fun z10 e10 => ?_⟩
      rw [if_neg (by decide), if_pos (show bI false = 0 from rfl)] at e10
      rw [e10]
      exact hQ
    | true =>
      rw [if_neg (fun z => absurd z.2 (by decide))] at hQ
      refine ⟨⟨fun z => trivial, fun _ => ⟨fun z => trivial, fun z => absurd z (by decide)⟩⟩, fun z10 e10 => ?_⟩
      rw [if_neg (by decide), if_neg (by decide)] at e10
      rw [e10]
      exact hQ
theorem e_runE {l4 : Int32} {k e : Nat} (h : CE M0 M m e) (hQ : Q (zI (-10 - (e : Int))) M) : w_X3_run_47 r m Q (k + 1) 0 l4 M := by
  have f : w_X3_run_99 r m Q 0 l4 M := by
    unfold w_X3_run_99
    refine ⟨⟨fun _ => trivial, fun z => absurd rfl z⟩, fun z10 e10 => ?_⟩
    rw [if_pos rfl, h.2, ln10, zI_sub] at e10
    rw [e10]
    exact hQ
  show wb_X3_run_47 r m Q (w_X3_run_47 r m Q k) _ _ M
  unfold wb_X3_run_47
  exact ⟨fun _ => f, fun _ => ⟨fun _ => f, fun z => absurd rfl z⟩⟩
theorem e_run47 (hB : CB M0 r m c row) : ∀ (k i p : Nat) (o : Bool) (w : Option Int) (S : Mus) (M : Mem), i ≤ p → c < p + k → GD S → CRw M0 M r m S p o w → p ≤ c → (∀ e : Nat, runP (pkF c row) c k p o w S = .error e → ∀ M' : Mem, CE M0 M' m e → Q (zI (-10 - (e : Int))) M') → (∀ S' : Mus, runP (pkF c row) c k p o w S = .ok S' → ∀ (M' : Mem) (p' : Nat) (o' : Bool), CR0 M0 M' r m S' p' o' → Q (zI (gNb S' : Int)) M') → w_X3_run_47 r m Q (k + 1) 1 (zI (i : Int)) M := by
  intro k
  induction k with
  | zero => intro i p o w S M hi hc hG h hp; omega
  | succ k ih =>
    intro i p o w S M hi hck hG h hp hE hO
    have hc := hB.2.2.2.2.1
    have er : M r 1 = zI (c : Int) := by rw [h.1.1 r (by have := CB_m hB; have := CB_r hB; omega) (by have := CB_r hB; omega)]; exact hB.2.2.2.1
    have stop : c ≤ p → w_X3_run_99 r m Q 1 (zI (i : Int)) M := by
      intro g
      refine e_run99 (g := true) h.1 ?_
      have ep : runP (pkF c row) c (k + 1) p o w S = if o = true then .error p else .ok S := by rw [runP]; exact if_pos g
      cases ho : o with
      | true =>
        rw [if_neg (fun z => absurd z.2 (by decide))]
        exact hE p (by rw [ep, if_pos ho]) M (CE_of h.1)
      | false =>
        rw [if_pos ⟨rfl, rfl⟩]
        exact hO S (by rw [ep, ho]; rfl) M p o h.1
    show wb_X3_run_47 r m Q (w_X3_run_47 r m Q (k + 1)) _ _ M
    unfold wb_X3_run_47
    rw [er, h.1.2.2.2.1, lz4000, zI_le (by omega) (by omega) (by omega) (by omega), zI_le (by omega) (by omega) (by omega) (by omega)]
    refine ⟨fun g => stop (by omega), fun g => ⟨fun z => absurd z one0, fun _ => ⟨h.1.2.1, fun g2 => stop (by omega), fun g2 => ?_⟩⟩⟩
    have ep : runP (pkF c row) c (k + 1) p o w S = (match nextP (pkF c row) p o w S with
      | .error e => .error e
      | .ok (p', w', S') => (match vcP (pkF c row) p' o w' S' with
        | .error e => .error e
        | .ok (p2, o2, w2, S2) => runP (pkF c row) c k p2 o2 w2 S2)) := by rw [runP]; exact if_neg (by omega)
    refine e_next hB hG.1 h hp (fun e he M' h' => ⟨fun _ x15 e15 => e_runE h' (hE e (by rw [ep, he]) M' h'), fun z => absurd rfl z⟩) (fun p1 w1 S1 hn M14 h14 => ⟨fun z => absurd z one0, fun _ => ?_⟩)
    have s1 := next_sp (PK_pkF hB) hG (okW_WT h.2) hp hn
    rw [hn] at ep
    refine e_voiceR hB s1.2.2.1 h14 s1.2.1 (fun e he M' h' z18 e18 x19 e19 => ?_) (fun p2 o2 w2 S2 hv M17 h17 z18 e18 x19 e19 => ?_)
    · rw [if_pos rfl] at e18
      subst e18
      exact e_runE h' (hE e (by rw [ep]; simp only; rw [he]) M' h')
    · rw [if_neg one0] at e18
      subst e18
      have s2 := vc_sp (PK_pkF hB) s1.2.2.1 s1.2.2.2.1 s1.2.1 hv
      have e19' : x19 = zI ((i + 1 : Nat) : Int) := by rw [e19, lz1, zI_add]; rfl
      rw [e19']
      simp only [hv] at ep
      exact ih (i + 1) p2 o2 w2 S2 M17 (by omega) (by omega) s2.2.2.2.1 h17 s2.2.1 (fun e he => hE e (by rw [ep]; exact he)) (fun S' he => hO S' (by rw [ep]; exact he))
theorem e_runR {x : Int} (hB : CB M r m c row) (hx : 1 ≤ x ∧ x ≤ 2048) (h : MW M m (sNil S x)) (hE : ∀ e : Nat, readP (pkF c row) c (sNil S x) = .error e → ∀ M' : Mem, CF M M' m → Q (zI (-10 - (e : Int))) M') (hO : ∀ S' : Mus, readP (pkF c row) c (sNil S x) = .ok S' → ∀ M' : Mem, CF M M' m → MW M' m S' → Q (zI (gNb S' : Int)) M') : w_X3_run r m M Q := by
  have hm := CB_m hB
  have hP := PK_pkF hB
  unfold w_X3_run
  intro M1 e1 M2 e2 M3 e3 M4 e4
  have cf : ∀ k : Nat, ¬ k = 40 → M4 k = M k := fun k hk => by rw [e4, mset_o hk, e3, mset_o hk, e2, mset_o hk, e1, mset_o hk]
  have h4 : CR0 M M4 r m (sNil S x) 0 false := ⟨fun k g1 g2 => cf k (by omega), by rw [e4, mset_j (by omega), e3, mset_j (by omega), e2, mset_j (by omega), e1, mset_at], by rw [e4, mset_j (by omega), e3, mset_j (by omega), e2, mset_at], by rw [e4, mset_j (by omega), e3, mset_at]; rfl, by rw [e4, mset_at]; rfl, MW_far h (fun k g1 g2 => cf k (by omega))⟩
  have hh := hd_sp hP
  have G0 : GD (sHd (sNil S x) (hdP (pkF c row)).2) := GD_nil hx hh.2
  refine e_hand hB h4 rfl (fun M6 h6 => ?_)
  refine e_beginBar (w := none) hB G0.1 h6 (fun z => absurd z (Nat.lt_irrefl 0)) hh.1 (fun e he M' h' => ⟨fun _ => ⟨1, e_runE h' (hE e ?_ M' h'.1)⟩, fun z => absurd rfl z⟩) (fun p1 S1 hb M8 h8 => ⟨fun z => absurd z one0, fun _ => ?_⟩)
  · unfold readP; rw [he]
  have s1 := bar_sp hP G0 hh.1 hb
  have ee : entS (sHd (sNil S x) (hdP (pkF c row)).2) (gNb (sHd (sNil S x) (hdP (pkF c row)).2)) none = none := by
    unfold entS
    split <;> rfl
  rw [ee] at h8
  have ep : readP (pkF c row) c (sNil S x) = (match vcP (pkF c row) p1 false none S1 with
    | .error e => .error e
    | .ok (p2, o2, w2, S2) => runP (pkF c row) c (c + 1) p2 o2 w2 S2) := by unfold readP; rw [hb]; rfl
  refine e_voiceR hB s1.2.2.1 h8 s1.2.1 (fun e he M' h' z23 e23 => ?_) (fun p2 o2 w2 S2 hv M22 h22 z23 e23 => ?_)
  · rw [if_pos rfl] at e23
    subst e23
    exact ⟨1, e_runE h' (hE e (by rw [ep, he]) M' h'.1)⟩
  · rw [if_neg one0] at e23
    subst e23
    have s2 := vc_sp (w := none) hP s1.2.2.1 trivial s1.2.1 hv
    simp only [hv] at ep
    refine ⟨c + 2, ?_⟩
    have := e_run47 (Q := Q) hB (c + 1) 0 p2 o2 w2 S2 M22 (Nat.zero_le _) (by omega) s2.2.2.2.1 h22 s2.2.1 (fun e he M' h' => hE e (by rw [ep]; exact he) M' h'.1) (fun S' he M' p' o' h' => hO S' (by rw [ep]; exact he) M' h'.1 h'.2.2.2.2.2)
    exact this
end CRun
