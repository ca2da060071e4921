section XItem3
variable {Mv M M' : Mem} {S S' : Mus} {c p q : Nat} {row : Nat → Int} {len : Int} {o : Bool} {t : Int} {w : Option Int} {y y' : Nat → Int32} {xs : List Int} {Q : Int32 → Mem → Prop}
theorem x_ivJ {e n k : Nat} {l2 : Int32} (hn : n < 600) (h : JS Mv M e) (hQ : Q 0 M) : w_X7_intervals_2 Q (k + 1) (zI ((600 + n : Nat) : Int)) l2 M := by
  show wb_X7_intervals_2 Q (w_X7_intervals_2 Q k) _ _ M
  unfold wb_X7_intervals_2
  refine ⟨fun _ => hQ, fun _ => ⟨by rw [zI_in (by omega) (by omega)]; omega, fun _ => hQ, fun _ => ⟨fun _ => hQ, fun z => absurd (JS_nn h) z⟩⟩⟩
theorem x_intervals {pt : Int} (hB : XB Mv c row len) (hv : MV S) (hn : gNi S < 600) (hpt : 7 ≤ pt ∧ pt ≤ 55) (h : XI Mv M S p o w t y []) (h2 : y 2 = zI pt) (h9 : y 9 = 0) (hp : p ≤ c) (hE : ∀ e : Nat, ivR (pkF c row) (gHd S) pt 4 p [] = .error e → ∀ M' : Mem, JS Mv M' e → Q 0 M') (hO : ∀ (q : Nat) (ys : List Int), ivR (pkF c row) (gHd S) pt 4 p [] = .ok (q, ys) → ∀ M' : Mem, XI Mv M' S q o w t (yu y 9 (zI (ys.length : Int))) ys → Q 0 M') : w_X7_intervals (zI ((600 + gNi S : Nat) : Int)) M Q := by
  have hP := PK_x hB
  have hc := hB.2.1
  have hd2 := hv.2.1
  have vin1 : vp_in (zI ((600 + gNi S : Nat) : Int)) 1200 := by rw [zI_in (by omega) (by omega)]; omega
  have etn : Int32.toNatClampNeg (zI ((600 + gNi S : Nat) : Int)) = 600 + gNi S := by rw [zI_tn (by omega) (by omega), tn_nat]
  obtain ⟨p0, hp0⟩ : ∃ p0 : Nat, p0 = p := ⟨p, rfl⟩
  rw [← hp0] at hE hO
  refine ⟨6, ?_⟩
  have key : ∀ (k p : Nat) (xs : List Int) (M : Mem), xs.length + k = 4 → p ≤ c → XI Mv M S p o w t (yu y 9 (zI (xs.length : Int))) xs → ivR (pkF c row) (gHd S) pt 4 p0 [] = ivR (pkF c row) (gHd S) pt k p xs → w_X7_intervals_2 Q (k + 2) (zI ((600 + gNi S : Nat) : Int)) 1 M := by
    intro k
    induction k with
    | zero =>
      intro p xs M hk hp h he
      have e67 : M 67 (600 + gNi S) = zI (xs.length : Int) := h.2.1 9 (by omega)
      show wb_X7_intervals_2 Q (w_X7_intervals_2 Q 1) _ _ M
      unfold wb_X7_intervals_2
      rw [etn, e67, lz4, zI_le (by omega) (by omega) (by omega) (by omega)]
      exact ⟨fun z => absurd z one0, fun _ => ⟨vin1, fun _ => hO p xs he M h, fun z => absurd (by omega) z⟩⟩
    | succ k ih =>
      intro p xs M hk hp h he
      have e67 : M 67 (600 + gNi S) = zI (xs.length : Int) := h.2.1 9 (by omega)
      show wb_X7_intervals_2 Q (w_X7_intervals_2 Q (k + 2)) _ _ M
      unfold wb_X7_intervals_2
      have b0 := (hP p).2
      have b1 := (hP (p1P (pkF c row) p)).2
      have sb := lSg_bd (pkF c row p)
      have nb := ivN_bd (pkF c row (p1P (pkF c row) p))
      have p1 := p1_le (pk := pkF c row) p
      have eiv : ivR (pkF c row) (gHd S) pt (k + 1) p xs = if ixF lDn (pkF c row (p1P (pkF c row) p)) < 0 then .ok (p, xs) else if 7 ≤ ivQ (gHd S) pt (ixF lDn (pkF c row (p1P (pkF c row) p)) + 2) ∧ ivQ (gHd S) pt (ixF lDn (pkF c row (p1P (pkF c row) p)) + 2) ≤ 55 then ivR (pkF c row) (gHd S) pt k (p1P (pkF c row) p + 1) (xs ++ [ixF lDn (pkF c row (p1P (pkF c row) p)) + 2 + 16 * sgI (pkF c row p)]) else .error (p1P (pkF c row) p) := rfl
      rw [etn, e67, h.1.2.2.2.1, h.1.2.2.1, lz4, zI_le (by omega) (by omega) (by omega) (by omega)]
      refine ⟨fun z => absurd z one0, fun _ => ⟨vin1, fun z => by omega, fun _ => ⟨fun z => absurd z (by decide), fun _ => x_peek hB h.1.1 (by omega) (x_signOf ⟨b0.1, b0.2.1⟩ (fun z6 e6 => ?_))⟩⟩⟩
      have ks : zI (sgI (pkF c row p)) ≤ 0 ↔ sgI (pkF c row p) ≤ 0 := by rw [lz0, zI_le (by omega) (by omega) (by omega) (by omega)]
      have ep : ∀ z : Int32, z = (if zI (sgI (pkF c row p)) ≤ 0 then 0 else 1) → zI (p : Int) + z = zI ((p1P (pkF c row) p : Nat) : Int) := by
        intro z ez
        rw [ez]
        simp only [ks]
        unfold p1P
        by_cases g : sgI (pkF c row p) ≤ 0
        · rw [if_pos g, if_pos g, lz0, zI_add, Int.add_zero]
        · rw [if_neg g, if_neg g, lz1, zI_add]; rfl
      rw [h.1.2.2.1, ep z6 e6]
      refine x_peek hB h.1.1 (by omega) (x_fDn hB h.1.1 (by omega) (fun z11 e11 => ?_))
      have kn : zI (ixF lDn (pkF c row (p1P (pkF c row) p))) < 0 ↔ ixF lDn (pkF c row (p1P (pkF c row) p)) < 0 := by rw [lz0, zI_lt (by omega) (by omega) (by omega) (by omega)]
      simp only [kn] at e11
      by_cases gn : ixF lDn (pkF c row (p1P (pkF c row) p)) < 0
      · rw [if_pos gn] at e11
        subst e11
        refine ⟨fun _ => ?_, fun z => absurd rfl z⟩
        show wb_X7_intervals_2 Q (w_X7_intervals_2 Q (k + 1)) _ _ M
        exact ⟨fun _ => hO p xs (by rw [he, eiv, if_pos gn]) M h, fun z => absurd rfl z⟩
      · rw [if_neg gn] at e11
        subst e11
        refine ⟨fun z => absurd z one0, fun _ z12 e12 M13 e13 => ?_⟩
        rw [h.1.2.2.1, ep z12 e12] at e13
        have h13 := XI_at hv h e13
        have hin := (hP (p1P (pkF c row) p)).1 (fun z => by rw [z, m1_Dn] at gn; omega)
        have e55 : M13 55 1 = zI (gHd S) := h13.1.2.1.2.1
        have e60 : M13 60 (600 + gNi S) = zI pt := by
          rw [← h2]
          exact h13.2.1 2 (by omega)
        have e67' : M13 67 (600 + gNi S) = zI (xs.length : Int) := h13.2.1 9 (by omega)
        refine ⟨vi1, ⟨fun _ => ⟨vin1, trivial⟩, fun _ => ⟨vin1, trivial⟩⟩, fun z17 e17 => ?_⟩
        rw [tc1, e55, e60, lz2, lz1, zI_add, zI_add, zI_sub, zI_sub] at e17
        have kh : zI (gHd S) = zI 2 ↔ gHd S = 2 := by rw [zI_eq (by omega) (by omega) (by omega) (by omega)]
        simp only [kh] at e17
        have e17' : z17 = zI (ivQ (gHd S) pt (ixF lDn (pkF c row (p1P (pkF c row) p)) + 2)) := by
          rw [e17]
          unfold ivQ
          by_cases g : gHd S = 2
          · rw [if_pos g, if_pos g]; congr 1; omega
          · rw [if_neg g, if_neg g]; congr 1; omega
        have qb : -1000 ≤ ivQ (gHd S) pt (ixF lDn (pkF c row (p1P (pkF c row) p)) + 2) ∧ ivQ (gHd S) pt (ixF lDn (pkF c row (p1P (pkF c row) p)) + 2) ≤ 1000 := by
          unfold ivQ
          split <;> omega
        have e4i : (4 : Int32) * zI ((600 + gNi S : Nat) : Int) + zI (xs.length : Int) = zI ((4 * (600 + gNi S) + xs.length : Nat) : Int) := by
          rw [lz4, zI_mul, zI_add]
          congr 1
        have bad : ¬ (7 ≤ ivQ (gHd S) pt (ixF lDn (pkF c row (p1P (pkF c row) p)) + 2) ∧ ivQ (gHd S) pt (ixF lDn (pkF c row (p1P (pkF c row) p)) + 2) ≤ 55) → w_X7_intervals_146 Q (w_X7_intervals_2 Q (k + 2)) (zI ((600 + gNi S : Nat) : Int)) 1 (zI (sgI (pkF c row p))) (zI (ixF lDn (pkF c row (p1P (pkF c row) p)))) z17 M13 := by
          intro gb
          unfold w_X7_intervals_146
          rw [h13.1.2.2.1]
          refine x_fail h13.1.2.2.2.1 (fun M19 e19 => ?_)
          have j := JS_of (f := p1P (pkF c row) p) h13.1 (by omega) (by omega) e19
          have g67 : M19 67 (600 + gNi S) = zI (xs.length : Int) := by rw [e19, mset_o (by omega)]; exact e67'
          unfold w_X7_intervals_154
          rw [etn, g67, e4i, zI_in (a := ((4 * (600 + gNi S) + xs.length : Nat) : Int)) (by omega) (by omega), zI_tn (by omega) (by omega), tn_nat]
          refine ⟨vin1, by omega, fun M22 e22 => ⟨vin1, vin1, fun M25 e25 M26 e26 => ?_⟩⟩
          have j22 := JS_set j (by unfold kp; omega) (by omega) e22
          have j25 := JS_set j22 (by unfold kp; omega) (by omega) e25
          have g24 : M25 46 24 = zI ((p1P (pkF c row) p : Nat) : Int) := by rw [e25, mset_o (by omega), e22, mset_o (by omega), e19, mset_j (by omega)]; exact h13.1.2.2.1
          rw [g24, lz1, zI_add] at e26
          have j26 := JS_at (q := p1P (pkF c row) p + 1) j25 (by omega) e26
          exact x_ivJ hn j26 (hE _ (by rw [he, eiv, if_neg gn, if_neg gb]) M26 j26)
        rw [e17', lz7, zI_lt (by omega) (by omega) (by omega) (by omega), lz55, zI_le (by omega) (by omega) (by omega) (by omega), ← e17']
        refine ⟨fun g => bad (by omega), fun g => ⟨fun g2 => ?_, fun g2 => bad (by omega)⟩⟩
        unfold w_X7_intervals_154
        rw [etn, e67', e4i, zI_in (a := ((4 * (600 + gNi S) + xs.length : Nat) : Int)) (by omega) (by omega), zI_tn (by omega) (by omega), tn_nat]
        refine ⟨vin1, by omega, fun M22 e22 => ⟨vin1, vin1, fun M25 e25 M26 e26 => ?_⟩⟩
        have e22' : M22 = mset M13 68 (4 * (600 + gNi S) + xs.length) (zI (ixF lDn (pkF c row (p1P (pkF c row) p)) + 2 + 16 * sgI (pkF c row p))) := by
          rw [e22, lz2, lz16, zI_add, zI_mul, zI_add]
        have h22 := XI_x hv h13 (by omega) e22'
        have g67 : M22 67 (600 + gNi S) = zI (xs.length : Int) := by rw [e22, mset_o (by omega)]; exact e67'
        rw [g67, lz1, zI_add] at e25
        have h25 := XI_f (a := 9) hv h22 (by omega) e25
        rw [h25.1.2.2.1, lz1, zI_add] at e26
        have h26 := XI_at (q := p1P (pkF c row) p + 1) hv h25 e26
        refine ih (p1P (pkF c row) p + 1) _ M26 (by simp only [List.length_append, List.length_cons, List.length_nil]; omega) (by omega) (XI_y h26 (fun a _ => ?_)) (by rw [he, eiv, if_neg gn, if_pos ⟨by omega, g2⟩])
        unfold yu
        by_cases ga : a = 9
        · rw [if_pos ga, if_pos ga]
          congr 1
          simp only [List.length_append, List.length_cons, List.length_nil]
          omega
        · rw [if_neg ga, if_neg ga, if_neg ga]
  refine key 4 p [] M rfl hp (XI_y h (fun a _ => ?_)) (by rw [hp0])
  unfold yu
  by_cases ga : a = 9
  · rw [if_pos ga, ga, h9]; rfl
  · rw [if_neg ga]
theorem x_readSlur (hB : XB Mv c row len) (hv : MV S) (hn : gNi S < 600) (h : XI Mv M S p o w t y xs) (h8 : y 8 = 0) (hp : p ≤ c) (hX : o = true → pkF c row p = 9 → ∀ M' : Mem, JS Mv M' p → Q 0 M') (hO : ¬ (o = true ∧ pkF c row p = 9) → ∀ M' : Mem, XI Mv M' S (slP (pkF c row) p o).1 (slP (pkF c row) p o).2.1 w t (yu y 8 (zI (slP (pkF c row) p o).2.2)) xs → Q 0 M') : w_X7_readSlur (zI ((600 + gNi S : Nat) : Int)) M Q := by
  have hP := PK_x hB
  have hc := hB.2.1
  have b0 := (hP p).2
  have b1 := (hP (p + 1)).2
  have vin1 : vp_in (zI ((600 + gNi S : Nat) : Int)) 1200 := by rw [zI_in (by omega) (by omega)]; omega
  have etn : Int32.toNatClampNeg (zI ((600 + gNi S : Nat) : Int)) = 600 + gNi S := by rw [zI_tn (by omega) (by omega), tn_nat]
  have same : ∀ {M1 : Mem} {p1 : Nat} {o1 : Bool}, XI Mv M1 S p1 o1 w t y xs → XI Mv M1 S p1 o1 w t (yu y 8 (zI 0)) xs := fun hx => XI_y hx (fun a _ => by
    unfold yu
    by_cases ga : a = 8
    · rw [if_pos ga, ga, h8]; rfl
    · rw [if_neg ga])
  unfold w_X7_readSlur
  rw [h.1.2.2.1]
  refine x_peek hB h.1.1 (by omega) ?_
  rw [lz9, zI_eq (by omega) (by omega) (by omega) (by omega), h.1.2.2.2.2.1, h.1.2.2.1]
  refine ⟨fun g => ?_, fun g => ⟨fun g2 => ?_, fun g2 => ?_⟩⟩
  · unfold w_X7_readSlur_45
    rw [h.1.2.2.2.2.1, h.1.2.2.1]
    cases o with
    | false =>
      refine ⟨fun _ => ?_, fun z => absurd rfl z⟩
      unfold w_X7_readSlur_98
      rw [h.1.2.2.2.2.1]
      refine ⟨fun _ => ?_, fun z => absurd rfl z⟩
      have es : slP (pkF c row) p false = (p, false, 0) := by unfold slP; rw [if_neg (by decide), if_neg g]
      rw [es] at hO
      exact hO (fun z => g z.2) M (same h)
    | true =>
      have mark : w_X7_readSlur_98 Q (zI ((600 + gNi S : Nat) : Int)) M ∨ True := Or.inr trivial
      have put : ¬ (pkF c row p = 24 ∧ pkF c row (p + 1) = 6) → w_X7_readSlur_98 Q (zI ((600 + gNi S : Nat) : Int)) M := by
        intro g3
        unfold w_X7_readSlur_98
        rw [h.1.2.2.2.2.1, etn]
        refine ⟨fun z => absurd z (by decide), fun _ => ⟨vin1, fun M4 e4 => ?_⟩⟩
        have h4 := XI_f (a := 8) hv h (by omega) e4
        have es : slP (pkF c row) p true = (p, true, 1) := by unfold slP; rw [if_pos rfl, if_neg g3]
        rw [es] at hO
        exact hO (fun z => g z.2) M4 h4
      refine ⟨fun z => absurd z (by decide), fun _ => x_peek hB h.1.1 (by omega) ?_⟩
      rw [lz24, zI_eq (by omega) (by omega) (by omega) (by omega), h.1.2.2.1, lz1, zI_add]
      refine ⟨fun g3 => put (fun z => g3 z.1), fun g3 => x_peek (q := p + 1) hB h.1.1 (by omega) ?_⟩
      rw [lz6, zI_eq (by omega) (by omega) (by omega) (by omega)]
      refine ⟨fun g4 => put (fun z => g4 z.2), fun g4 M9 e9 M10 e10 => ?_⟩
      have h9 := XI_46 h (XR_o (o' := false) hv h.1 rfl e9) e9
      rw [h9.1.2.2.1, lz2, zI_add] at e10
      have h10 := XI_at (q := p + 2) hv h9 e10
      have es : slP (pkF c row) p true = (p + 2, false, 0) := by unfold slP; rw [if_pos rfl, if_pos ⟨g3, g4⟩]
      rw [es] at hO
      exact hO (fun z => g z.2) M10 (same h10)
  · have ho := bI_0.mp g2
    subst ho
    unfold w_X7_readSlur_28
    rw [etn]
    refine ⟨vin1, fun M12 e12 M13 e13 => ?_⟩
    have h12 := XI_f (a := 8) hv h (by omega) e12
    rw [h12.1.2.2.1, lz1, zI_add] at e13
    have h13 := XI_at (q := p + 1) hv h12 e13
    have es : slP (pkF c row) p false = (p + 1, false, 1) := by unfold slP; rw [if_neg (by decide), if_pos g]
    rw [es] at hO
    unfold w_X7_readSlur_45
    rw [h13.1.2.2.2.2.1]
    refine ⟨fun _ => ?_, fun z => absurd rfl z⟩
    unfold w_X7_readSlur_98
    rw [h13.1.2.2.2.2.1]
    exact ⟨fun _ => hO (fun z => absurd z.1 (by decide)) M13 h13, fun z => absurd rfl z⟩
  · have ho : o = true := by
      cases o with
      | true => rfl
      | false => exact absurd rfl g2
    refine x_fail h.1.2.2.2.1 (fun M15 e15 => ?_)
    have j15 := JS_of (f := p) h.1 (by omega) (by omega) e15
    unfold w_X7_readSlur_28
    rw [etn]
    refine ⟨vin1, fun M12 e12 M13 e13 => ?_⟩
    have j12 := JS_set j15 (by unfold kp; omega) (by omega) e12
    have g24 : M12 46 24 = zI p := by rw [e12, mset_o (by omega), e15, mset_j (by omega)]; exact h.1.2.2.1
    rw [g24, lz1, zI_add] at e13
    have j13 := JS_at (q := p + 1) j12 (by omega) e13
    have g24' : M13 46 24 = zI ((p + 1 : Nat) : Int) := by rw [e13, mset_at]; rfl
    have put : w_X7_readSlur_98 Q (zI ((600 + gNi S : Nat) : Int)) M13 := by
      unfold w_X7_readSlur_98
      rw [etn]
      exact ⟨fun _ => hX ho g M13 j13, fun _ => ⟨vin1, fun M4 e4 => hX ho g M4 (JS_set j13 (by unfold kp; omega) (by omega) e4)⟩⟩
    unfold w_X7_readSlur_45
    rw [g24']
    refine ⟨fun _ => put, fun _ => x_peek hB j13.1 (by omega) ⟨fun _ => put, fun _ => ?_⟩⟩
    rw [g24', lz1, zI_add]
    refine x_peek (q := p + 2) hB j13.1 (by omega) ⟨fun _ => put, fun _ M9 e9 M10 e10 => ?_⟩
    have j9 := JS_set j13 (by unfold kp; omega) (by omega) e9
    have g24'' : M9 46 24 = zI ((p + 1 : Nat) : Int) := by rw [e9, mset_j (by omega)]; exact g24'
    rw [g24'', lz2, zI_add] at e10
    exact hX ho g M10 (JS_at (q := p + 3) j9 (by omega) e10)
/-- an item is done -/
theorem XR_done {d : Dat} {v : Int32} (hv : MV S) (hn : gNi S < 600) (h : XI Mv M S p o w t y xs) (hy : ∀ a : Nat, a < 10 → y a = zI (rat (gIt (sAdd S d) (gNi S)) a)) (hx : d.2.2.2.2.2.2.2 = xs) (hv2 : v = zI ((gNi S : Int) + 1)) (e : M' = mset M 54 1 v) : XR Mv M' (sAdd S d) p o w t := by
  obtain ⟨⟨x1, ⟨r1, r2, r3, r4⟩, x3, x4, x5, x6, x7⟩, h2, h3⟩ := h
  have e46 : M' 46 = M 46 := by rw [e, mset_o (by omega)]
  refine ⟨RF_set x1 (by unfold kp; omega) e, ⟨?_, ?_, fun i a hi ha => ?_, fun i k hi hk => ?_⟩, by rw [e46]; exact x3, by rw [e46]; exact x4, by rw [e46]; exact x5, RWT_of x6 (by rw [e46]) (by rw [e46]), by rw [e46]; exact x7⟩
  · rw [e, mset_at, hv2]
    rfl
  · rw [e, mset_o (by omega)]
    exact r2
  · have hi' : i < gNi S + 1 := hi
    rw [e, mset_o (by omega)]
    by_cases g : i = gNi S
    · subst g
      rw [h2 a ha]
      exact hy a ha
    · rw [r3 i a (by omega) ha]
      congr 1
      unfold rat
      rw [add_it g]
      split
      · rfl
      · rw [add_it g]
  · have hi' : i < gNi S + 1 := hi
    rw [e, mset_o (by omega)]
    by_cases g : i = gNi S
    · subst g
      have e9 : gIt (sAdd S d) (gNi S) 9 = (xs.length : Int) := by rw [add_a (by omega), ← hx]; rfl
      rw [e9] at hk
      rw [h3 k (by omega), add_a (by omega), show 10 + k = k + 10 by omega, ← hx]
      rfl
    · rw [add_it g] at hk
      rw [r4 i k (by omega) hk, add_it g]
end XItem3
