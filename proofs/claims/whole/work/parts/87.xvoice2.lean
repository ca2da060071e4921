section XVoice2
variable {Mv M M' : Mem} {S S' : Mus} {c p q s n : Nat} {row : Nat → Int} {len : Int} {o : Bool} {t t0 : Int} {w : Option Int} {Q : Int32 → Mem → Prop}
/-- a fault, or a cell where no voice ends -/
def JZ (c : Nat) (row : Nat → Int) (Mv M : Mem) (e : Nat) : Prop := JS Mv M e ∨ ∃ (S : Mus) (o : Bool) (w : Option Int) (t : Int), XR Mv M S e o w t ∧ ¬ pkF c row e = 0 ∧ ¬ pkF c row e = 64 ∧ ¬ pkF c row e = -1 ∧ ¬ (pkF c row e = 35 ∧ pkF c row (e + 1) = 28)
theorem okW_RWT (h : RWT M w) : okW w := by
  cases w with
  | none => trivial
  | some q => exact ⟨h.2.2.1, h.2.2.2⟩
theorem endV_o {pk : Nat → Int} (h : ¬ (o = true ∧ pk p = 35 ∧ pk (p + 1) = 28)) : endV pk p o S s = endV pk p false S s := by
  unfold endV
  rw [if_neg h, if_neg (show ¬ (false = true ∧ pk p = 35 ∧ pk (p + 1) = 28) from fun z => absurd z.1 (by decide))]
theorem x_114 {l1 l2 l5 : Int32} (hB : XB Mv c row len) (hlen : len = gLen S) (hv : MV S) (hl : ¬ lastS S < 0) (hs : s = (lastS S).toNat) (hV : VI S s n t0) (hn : 1 ≤ n) (hn2 : n ≤ 40) (h : XR Mv M S p o w t) (hp : p ≤ c) (hE : endV (pkF c row) p false S s = .error p → ∀ M' : Mem, JS Mv M' p → Q 0 M') (hO : ∀ S' : Mus, endV (pkF c row) p false S s = .ok S' → ∀ M' : Mem, XR Mv M' S' p o w t → Q 0 M') : w_X7_readVoice_114 Q l1 l2 (zI ((600 + gFo S s : Nat) : Int)) (zI (n : Int)) l5 M := by
  have hc := hB.2.1
  have nf : ¬ (false = true ∧ pkF c row p = 35 ∧ pkF c row (p + 1) = 28) := fun z => absurd z.1 (by decide)
  unfold w_X7_readVoice_114
  rw [h.2.2.2.1, lz0, zI_eq (by omega) (by omega) (by omega) (by omega), ← lz0]
  refine ⟨fun z => absurd z (by decide), fun _ => ⟨fun z => by omega, fun _ => x_whole hB hlen hv hl hs hV hn h (fun hA M' h' => ⟨fun _ => hO _ (endV_2 nf hA) M' h', fun z => absurd z one0⟩) (fun hA u hu hok M' h' => ⟨fun _ => hO _ (endV_3 nf hA hu hok) M' h', fun z => absurd z one0⟩) (fun hA u hu hno M' h' => ⟨fun z => absurd rfl z, fun _ => ?_⟩)⟩⟩
  rw [h'.2.2.1]
  exact x_fail h'.2.2.2.1 (fun M9 e9 => hE (endV_4 nf hA hu hno) M9 (JS_of h' (by omega) (by omega) e9))
theorem x_22J {f e : Nat} {l1 l2 l3 l4 l5 : Int32} (h : JS Mv M e) (hQ : Q 0 M) : w_X7_readVoice_22 Q (f + 1) l1 l2 l3 l4 l5 M := by
  have g : w_X7_readVoice_114 Q l1 l2 l3 l4 l5 M := ⟨fun _ => hQ, fun z => absurd (JS_nn h) z⟩
  show wb_X7_readVoice_22 Q (w_X7_readVoice_22 Q f) _ _ _ _ _ M
  unfold wb_X7_readVoice_22
  exact ⟨fun _ => g, fun _ => ⟨fun _ => g, fun z => absurd (JS_nn h) z⟩⟩
theorem x_220 {f : Nat} {l1 l2 l3 l4 : Int32} (h : w_X7_readVoice_114 Q l1 l2 l3 l4 0 M) : w_X7_readVoice_22 Q (f + 1) l1 l2 l3 l4 0 M := by
  show wb_X7_readVoice_22 Q (w_X7_readVoice_22 Q f) _ _ _ _ _ M
  unfold wb_X7_readVoice_22
  exact ⟨fun _ => h, fun z => absurd rfl z⟩
theorem vo_nine {pk : Nat → Int} {k : Nat} (hp : PK pk c) (h : pk p = 9) : voP pk s (k + 1) n p o t w S = .error p := by
  have hne : ¬ (0 < n ∧ (pk p = 0 ∨ pk p = 64 ∨ pk p = -1 ∨ (pk p = 35 ∧ pk (p + 1) = 28))) := by omega
  by_cases g : 40 ≤ n ∨ 600 ≤ gNi S
  · exact vo_full hne g
  · rw [vo_item hne g]
    have f := (cellF ⟨(hp p).2.1, (hp p).2.2.1⟩).2.2.2.2.2.2 h
    rw [item_e4 hp (by omega) f.2.2.1 f.2.1 f.2.2.2]
theorem x_vstep {f k : Nat} (hB : XB Mv c row len) (hlen : len = gLen S) (hv : MV S) (hl : ¬ lastS S < 0) (hs : s = (lastS S).toNat) (hV : VI S s n t) (hn : n ≤ 40) (ht : -1 ≤ t ∧ t ≤ 1) (h : XR Mv M S p o w t) (hp : p ≤ c) (hk : n < 40 → 1 ≤ k) (hE : ∀ e : Nat, voP (pkF c row) s (k + 1) n p o t w S = .error e → ∀ M' : Mem, JZ c row Mv M' e → Q 0 M') (hO : ∀ (p' : Nat) (o' : Bool) (w' : Option Int) (S' : Mus), voP (pkF c row) s (k + 1) n p o t w S = .ok (p', o', w', S') → ∀ (M' : Mem) (t' : Int), XR Mv M' S' p' o' w' t' → Q 0 M') (hnext : n < 40 → gNi S < 600 → ∀ (p1 : Nat) (o1 : Bool) (t1 : Int) (w1 : Option Int) (d : Dat), itemP (pkF c row) (gHd S) p o t w = .ok (p1, o1, t1, w1, d) → voP (pkF c row) s (k + 1) n p o t w S = voP (pkF c row) s k (n + 1) p1 o1 t1 w1 (sAdd S d) → ∀ M' : Mem, XR Mv M' (sAdd S d) p1 o1 w1 t1 → w_X7_readVoice_22 Q (f + 1) (zI ((gNb S : Int) - 1)) (zI ((gVo S (gNb S - 1) : Int) - 1)) (zI ((600 + gFo S s : Nat) : Int)) (zI ((n + 1 : Nat) : Int)) 1 M') : w_X7_readVoice_22 Q (f + 2) (zI ((gNb S : Int) - 1)) (zI ((gVo S (gNb S - 1) : Int) - 1)) (zI ((600 + gFo S s : Nat) : Int)) (zI (n : Int)) 1 M := by
  have hP := PK_x hB
  have hc := hB.2.1
  have vni := hv.2.2.2.1
  have hw := okW_RWT h.2.2.2.2.2.1
  have e54 : M 54 1 = zI (gNi S : Int) := h.2.1.1
  -- the voice ends here
  have stop : 1 ≤ n → (pkF c row p = 0 ∨ pkF c row p = 64 ∨ pkF c row p = -1 ∨ (pkF c row p = 35 ∧ pkF c row (p + 1) = 28)) → ¬ (o = true ∧ pkF c row p = 35 ∧ pkF c row (p + 1) = 28) → w_X7_readVoice_114 Q (zI ((gNb S : Int) - 1)) (zI ((gVo S (gNb S - 1) : Int) - 1)) (zI ((600 + gFo S s : Nat) : Int)) (zI (n : Int)) 0 M := by
    intro g1 g2 g3
    have ev := vo_end (s := s) (o := o) (t := t) (w := w) (S := S) (n := n) (k := k) (by omega) g2
    rw [endV_o g3] at ev
    exact x_114 hB hlen hv hl hs hV g1 hn h hp (fun he M' j => hE p (by rw [ev, he]) M' (Or.inl j)) (fun S' he M' h' => hO p o w S' (by rw [ev, he]) M' t h')
  have full : (n = 40 ∨ gNi S = 600) → w_X7_full (zI (n : Int)) M (fun _ M11 => w_X7_readVoice_22 Q (f + 1) (zI ((gNb S : Int) - 1)) (zI ((gVo S (gNb S - 1) : Int) - 1)) (zI ((600 + gFo S s : Nat) : Int)) (zI (n : Int)) 0 M11) := by
    intro gf
    refine x_full hB h hp hn (fun g M' j => x_22J j (hE p (vo_full (fun z => ?_) (by omega)) M' (Or.inl j))) (fun g1 g2 g3 M' j => x_22J j (hE (p + 1) ?_ M' (Or.inl j))) (fun g1 g2 g3 => x_220 (stop (by omega) g2 g3))
    · rcases g with g | g
      · omega
      · exact g z.2
    · rw [vo_end (by omega) (Or.inr (Or.inr (Or.inr g3))), endV_1 ⟨g2, g3⟩]
  show wb_X7_readVoice_22 Q (w_X7_readVoice_22 Q (f + 1)) _ _ _ _ _ M
  unfold wb_X7_readVoice_22
  rw [h.2.2.2.1, tc1, e54, lz40, zI_eq (by omega) (by omega) (by omega) (by omega), lz600, zI_eq (by omega) (by omega) (by omega) (by omega), h.2.2.2.2.1]
  refine ⟨fun z => absurd z one0, fun _ => ⟨fun z => absurd z (by decide), fun _ => ⟨fun g => full (Or.inl (by omega)), fun g => ⟨vi1, fun g6 z13 e13 => ?_, fun g6 => full (Or.inr (by omega))⟩⟩⟩⟩
  have hn40 : n < 40 := by omega
  have hn6 : gNi S < 600 := by omega
  obtain ⟨mv, hmv⟩ : ∃ mv : Bool, mv = (if n = 0 then false else !o) := ⟨_, rfl⟩
  have e13' : z13 = bI mv := by
    rw [e13, hmv]
    have k0 : zI (n : Int) ≤ 0 ↔ n = 0 := by rw [lz0, zI_le (by omega) (by omega) (by omega) (by omega)]; omega
    simp only [k0]
    by_cases g0 : n = 0
    · rw [if_pos g0, if_pos g0]; rfl
    · rw [if_neg g0, if_neg g0]
      cases o with
      | true => rfl
      | false => rfl
  rw [e13']
  have nofull : ¬ (40 ≤ n ∨ 600 ≤ gNi S) := by omega
  refine x_begins hB h hp (fun hz hce h35 z16 e16 => ?_) (fun e he hi hce h35 M' j z16 e16 => ?_) (fun h0 z16 e16 => ?_)
  · rw [if_pos rfl] at e16
    subst e16
    refine ⟨fun z => absurd z one0, fun _ => ?_⟩
    have hne : ¬ (0 < n ∧ (pkF c row p = 0 ∨ pkF c row p = 64 ∨ pkF c row p = -1 ∨ (pkF c row p = 35 ∧ pkF c row (p + 1) = 28))) := fun z => by
      rcases z.2 with y | y | y | y
      · exact hce (Or.inl y)
      · exact hce (Or.inr (Or.inl y))
      · exact hce (Or.inr (Or.inr y))
      · exact h35 y
    have ev := vo_item (pk := pkF c row) (p := p) (s := s) (o := o) (t := t) (w := w) (S := S) (n := n) (k := k) hne nofull
    have e1 : ∀ x : Int32, x = zI (n : Int) + 1 → x = zI ((n + 1 : Nat) : Int) := fun x hx => by rw [hx, lz1, zI_add]; rfl
    refine x_readItem hB hv hn6 ht h hw hp hz (fun e he M' j x19 e19 => x_22J j (hE e (by rw [ev, he]) M' (Or.inl j))) (fun p' o' t' w' d hi ho h9 M' j x19 e19 => x_22J j (hE p' ?_ M' (Or.inl j))) (fun p' o' t' w' d hi hno M' h' x19 e19 => ?_)
    · rw [hi] at ev
      simp only at ev
      rw [ev]
      obtain ⟨k', hk'⟩ : ∃ k' : Nat, k = k' + 1 := ⟨k - 1, by have := hk hn40; omega⟩
      rw [hk']
      exact vo_nine hP h9
    · rw [hi] at ev
      simp only at ev
      rw [e1 x19 e19]
      exact hnext hn40 hn6 p' o' t' w' d hi ev M' h'
  · rw [if_neg (by decide)] at e16
    subst e16
    refine ⟨fun _ => x_22J j (hE e ?_ M' (Or.inl j)), fun z => absurd rfl z⟩
    by_cases g35 : 0 < n ∧ pkF c row p = 35 ∧ pkF c row (p + 1) = 28
    · obtain ⟨e1, e2⟩ := h35 g35.2
      have ho : o = true := by
        rw [hmv, if_neg (by omega)] at e2
        cases o with
        | true => rfl
        | false => exact absurd e2 (by decide)
      rw [vo_end g35.1 (Or.inr (Or.inr (Or.inr g35.2))), endV_1 ⟨ho, g35.2⟩, e1]
    · rw [vo_item (fun z => ?_) nofull, hi]
      rcases z.2 with y | y | y | y
      · exact hce (Or.inl y)
      · exact hce (Or.inr (Or.inl y))
      · exact hce (Or.inr (Or.inr y))
      · exact g35 ⟨z.1, y⟩
  · rw [if_neg (by decide)] at e16
    subst e16
    refine ⟨fun _ => x_220 ?_, fun z => absurd rfl z⟩
    rcases h0 with ⟨g1, g2⟩ | ⟨g1, g2⟩
    · have : ¬ n = 0 ∧ o = false := by
        by_cases z : n = 0
        · rw [hmv, if_pos z] at g1; exact absurd g1 (by decide)
        · rw [hmv, if_neg z] at g1
          refine ⟨z, ?_⟩
          cases o with
          | true => exact absurd g1 (by decide)
          | false => rfl
      exact stop (by omega) (Or.inr (Or.inr (Or.inr g2))) (fun z => by rw [this.2] at z; exact absurd z.1 (by decide))
    · by_cases z0 : n = 0
      · have ev : voP (pkF c row) s (k + 1) n p o t w S = .error p := by
          rw [vo_item (fun z => by omega) nofull, g2]
        unfold w_X7_readVoice_114
        rw [h.2.2.2.1, h.2.2.1]
        refine ⟨fun z => absurd z (by decide), fun _ => ⟨fun _ => x_fail h.2.2.2.1 (fun M9 e9 => hE p ev M9 (Or.inl (JS_of h (by omega) (by omega) e9))), fun z => absurd ?_ z⟩⟩
        rw [z0]
        rfl
      · by_cases gE : pkF c row p = 0 ∨ pkF c row p = 64 ∨ pkF c row p = -1
        · exact stop (by omega) (by omega) (fun z => g1 z.2)
        · have ev : voP (pkF c row) s (k + 1) n p o t w S = .error p := by
            rw [vo_item (fun z => ?_) nofull, g2]
            rcases z.2 with y | y | y | y
            · exact gE (Or.inl y)
            · exact gE (Or.inr (Or.inl y))
            · exact gE (Or.inr (Or.inr y))
            · exact g1 y
          exact x_114 hB hlen hv hl hs hV (by omega) hn h hp (fun _ M' j => hE p ev M' (Or.inl j)) (fun S' _ M' h' => hE p ev M' (Or.inr ⟨S', o, w, t, h', fun y => gE (Or.inl y), fun y => gE (Or.inr (Or.inl y)), fun y => gE (Or.inr (Or.inr y)), g1⟩))
theorem x_v22 (hB : XB Mv c row len) : ∀ (k n p : Nat) (o : Bool) (t : Int) (w : Option Int) (S : Mus) (M : Mem), n + k = 40 → len = gLen S → MV S → ¬ lastS S < 0 → s = (lastS S).toNat → VI S s n t → (-1 ≤ t ∧ t ≤ 1) → XR Mv M S p o w t → p ≤ c → (∀ e : Nat, voP (pkF c row) s (k + 1) n p o t w S = .error e → ∀ M' : Mem, JZ c row Mv M' e → Q 0 M') → (∀ (p' : Nat) (o' : Bool) (w' : Option Int) (S' : Mus), voP (pkF c row) s (k + 1) n p o t w S = .ok (p', o', w', S') → ∀ (M' : Mem) (t' : Int), XR Mv M' S' p' o' w' t' → Q 0 M') → w_X7_readVoice_22 Q (k + 2) (zI ((gNb S : Int) - 1)) (zI ((gVo S (gNb S - 1) : Int) - 1)) (zI ((600 + gFo S s : Nat) : Int)) (zI (n : Int)) 1 M := by
  intro k
  induction k with
  | zero =>
    intro n p o t w S M hk hlen hv hl hs hV ht h hp hE hO
    exact x_vstep hB hlen hv hl hs hV (by omega) ht h hp (fun z => by omega) hE hO (fun z => by omega)
  | succ k ih =>
    intro n p o t w S M hk hlen hv hl hs hV ht h hp hE hO
    refine x_vstep hB hlen hv hl hs hV (by omega) ht h hp (fun z => by omega) hE hO (fun hn hn6 p1 o1 t1 w1 d hi ev M' h' => ?_)
    obtain ⟨i1, i2, i3, i4, i5, i6, i7⟩ := item_sp (PK_x hB) hp ht (okW_RWT h.2.2.2.2.2.1) hi
    have hz : gSz S (lastS S).toNat < 40 := by rw [← hs, hV.1]; omega
    exact ih (n + 1) p1 o1 t1 w1 (sAdd S d) M' (by omega) hlen (MV_add hv hl hn6 hz i6) hl hs (VI_add hV hs i7 i3 i4) i3 h' i2 (fun e he => hE e (by rw [ev]; exact he)) (fun p' o' w' S' he => hO p' o' w' S' (by rw [ev]; exact he))
/-- the reference's state without the told size -/
def XW (Mv M : Mem) (S : Mus) (p : Nat) (o : Bool) (w : Option Int) : Prop := RF Mv M ∧ RI M S ∧ M 46 24 = zI p ∧ M 46 25 = -1 ∧ M 46 26 = bI o ∧ RWT M w
theorem x_voiceR (hB : XB Mv c row len) (hlen : len = gLen S) (hS : SV S) (hl : ¬ lastS S < 0) (h : XW Mv M S p o w) (hp : p ≤ c) (hE : ∀ e : Nat, vcP (pkF c row) p o w S = .error e → ∀ M' : Mem, JZ c row Mv M' e → Q 0 M') (hO : ∀ (p' : Nat) (o' : Bool) (w' : Option Int) (S' : Mus), vcP (pkF c row) p o w S = .ok (p', o', w', S') → ∀ M' : Mem, XW Mv M' S' p' o' w' → Q 0 M') : w_X7_readVoice (zI ((gNb S : Int) - 1)) (zI ((gVo S (gNb S - 1) : Int) - 1)) M Q := by
  obtain ⟨hv, hg, hV⟩ := hS
  have hVI := hV hl
  have e54 : M 54 1 = zI (gNi S : Int) := h.2.1.1
  unfold w_X7_readVoice
  refine ⟨vi1, fun x2 e2 M3 e3 => ⟨42, ?_⟩⟩
  have e2' : x2 = zI ((600 + gFo S (lastS S).toNat : Nat) : Int) := by
    have := hVI.2.1
    rw [e2, tc1, e54, lz600, zI_add]
    congr 1
    omega
  rw [e2']
  have ec : vcP (pkF c row) p o w S = voP (pkF c row) (lastS S).toNat 41 0 p o (-1) w S := by unfold vcP; rw [if_neg hl]
  obtain ⟨x1, x2', x3, x4, x5, x6⟩ := h
  have h3 : XR Mv M3 S p o w (-1) := ⟨RF_set x1 (by unfold kp; omega) e3, RI_set hv x2' (by unfold ri; omega) e3, by rw [e3, mset_j (by omega)]; exact x3, by rw [e3, mset_j (by omega)]; exact x4, by rw [e3, mset_j (by omega)]; exact x5, RWT_of x6 (by rw [e3, mset_j (by omega)]) (by rw [e3, mset_j (by omega)]), by rw [e3, mset_at, ln1]⟩
  have := x_v22 (Q := Q) (s := (lastS S).toNat) hB 40 0 p o (-1) w S M3 (by omega) hlen hv hl rfl hVI (by omega) h3 hp (fun e he => hE e (by rw [ec]; exact he)) (fun p' o' w' S' he M' t' h' => hO p' o' w' S' (by rw [ec]; exact he) M' ⟨h'.1, h'.2.1, h'.2.2.1, h'.2.2.2.1, h'.2.2.2.2.1, h'.2.2.2.2.2.1⟩)
  exact this
end XVoice2
