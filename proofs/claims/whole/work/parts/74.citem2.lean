section CItem2
variable {M0 M M' : Mem} {S S' : Mus} {c r m p q : Nat} {row : Nat → Int} {o : Bool} {t : Int} {w : Option Int} {Q : Int32 → Mem → Prop}
theorem ivN_bd (x : Int) : -1 ≤ ixF lDn x ∧ ixF lDn x ≤ 6 := by
  have := ixF_bd lDn x
  have e : lDn.length = 7 := rfl
  omega
theorem e_intervals {a2 a3 a4 a6 : Int} (hB : CB M0 r m c row) (hv : MV S) (hl : ¬ lastS S < 0) (hi : gNi S < 600) (hs : gSz S (lastS S).toNat < 40) (h2 : 7 ≤ a2 ∧ a2 ≤ 55) (h3 : 0 ≤ a3 ∧ a3 ≤ 3) (h4 : 0 ≤ a4 ∧ a4 ≤ 3) (ht : -1 ≤ t ∧ t ≤ 1) (h6 : 0 ≤ a6 ∧ a6 ≤ 2) (h : CRt M0 M r m (sAdd S (a2, a3, a4, t, a6, 0, 0, [])) p o t w) (hp : p ≤ c) (hE : ∀ e : Nat, ivR (pkF c row) (gHd S) a2 4 p [] = .error e → ∀ M' : Mem, CE M0 M' m e → Q 0 M') (hO : ∀ (q : Nat) (ys : List Int), ivR (pkF c row) (gHd S) a2 4 p [] = .ok (q, ys) → ∀ M' : Mem, CRt M0 M' r m (sAdd S (a2, a3, a4, t, a6, 0, 0, ys)) q o t w → Q 1 M') : w_X3_readIntervals r m M Q := by
  have hP := PK_pkF hB
  have hc := hB.2.2.2.2.1
  have hm := CB_m hB
  refine ⟨5, ?_⟩
  obtain ⟨p0, hp0⟩ : ∃ p0 : Nat, p0 = p := ⟨p, rfl⟩
  rw [← hp0] at hE hO
  have key : ∀ (k p : Nat) (xs : List Int) (M : Mem), xs.length + k = 4 → okX xs → p ≤ c → CRt M0 M r m (sAdd S (a2, a3, a4, t, a6, 0, 0, xs)) p o t w → ivR (pkF c row) (gHd S) a2 4 p0 [] = ivR (pkF c row) (gHd S) a2 k p xs → w_X3_readIntervals_2 r m Q (k + 1) (zI (xs.length : Int)) M := by
    intro k
    induction k with
    | zero =>
      intro p xs M hk hx hp h he
      show wb_X3_readIntervals_2 r m Q (w_X3_readIntervals_2 r m Q 0) _ M
      unfold wb_X3_readIntervals_2
      rw [lz4, zI_le (by omega) (by omega) (by omega) (by omega)]
      exact ⟨fun _ => hO p xs he M h, fun z => by omega⟩
    | succ k ih =>
      intro p xs M hk hx hp h he
      show wb_X3_readIntervals_2 r m Q (w_X3_readIntervals_2 r m Q (k + 1)) _ M
      unfold wb_X3_readIntervals_2
      have b0 := (hP p).2
      have b1 := (hP (p1P (pkF c row) p)).2
      have sb := lSg_bd (pkF c row p)
      have nb := ivN_bd (pkF c row (p1P (pkF c row) p))
      have p1 := p1_le (pk := pkF c row) p
      rw [lz4, zI_le (by omega) (by omega) (by omega) (by omega)]
      refine ⟨fun z => by omega, fun _ => e_peek hB h.1 hp (tb_Sg (CF_TB hB h.1.1) (by omega) (fun x5 e5 z6 e6 => ⟨h.1.2.1, ?_⟩))⟩
      have e5' : x5 = zI (sgI (pkF c row p)) := by rw [e5, lz1, zI_add]; rfl
      subst e5'
      have e6' : zI (p : Int) + z6 = zI ((p1P (pkF c row) p : Nat) : Int) := by
        rw [e6]
        have k : zI (sgI (pkF c row p)) ≤ 0 ↔ sgI (pkF c row p) ≤ 0 := by rw [lz0, zI_le (by omega) (by omega) (by omega) (by omega)]
        simp only [k]
        unfold p1P
        by_cases g : sgI (pkF c row p) ≤ 0
        · rw [if_pos g, if_pos g, lz0, zI_add, Int.add_zero]
        · rw [if_neg g, if_neg g, lz1, zI_add]; rfl
      rw [h.1.2.2.2.1, e6']
      refine e_rg (q := p1P (pkF c row) p) hB h.1.1 (by omega) (tb_Dn (CF_TB hB h.1.1) (by omega) (fun x12 e12 => ?_))
      have e12' : x12 = zI (ixF lDn (pkF c row (p1P (pkF c row) p)) + 2) := by rw [e12, lz2, zI_add]
      subst e12'
      rw [lz2, zI_le (by omega) (by omega) (by omega) (by omega)]
      have eiv : ivR (pkF c row) (gHd S) a2 (k + 1) p xs = if ixF lDn (pkF c row (p1P (pkF c row) p)) < 0 then .ok (p, xs) else if 7 ≤ ivQ (gHd S) a2 (ixF lDn (pkF c row (p1P (pkF c row) p)) + 2) ∧ ivQ (gHd S) a2 (ixF lDn (pkF c row (p1P (pkF c row) p)) + 2) ≤ 55 then ivR (pkF c row) (gHd S) a2 k (p1P (pkF c row) p + 1) (xs ++ [ixF lDn (pkF c row (p1P (pkF c row) p)) + 2 + 16 * sgI (pkF c row p)]) else .error (p1P (pkF c row) p) := rfl
      refine ⟨fun g M13 e13 => ?_, fun g => hO p xs (by rw [he, eiv, if_pos (by omega)]) M h⟩
      have hin := (hP (p1P (pkF c row) p)).1 (fun z => by rw [z, m1_Dn] at g; omega)
      rw [h.1.2.2.2.1, e6'] at e13
      have h13 := CRt_at (q := p1P (pkF c row) p) hB h e13
      have hd2 := hv.2.1
      have okd : okD (a2, a3, a4, t, a6, 0, 0, xs) := ⟨Or.inr h2, h3, h4, ht, h6, Or.inl rfl, Or.inl rfl, by show xs.length ≤ 4; omega, hx, fun z => by have z' : a2 = 0 := z; omega⟩
      have hv13 := MV_add hv hl hi hs okd
      have en : M13 m 3 = zI ((gNi S + 1 : Nat) : Int) := h13.1.2.2.2.2.2.2.2.2.1
      have eh : M13 m 1 = zI (gHd S) := h13.1.2.2.2.2.2.2.1
      refine ⟨h13.1.2.2.1, h13.1.2.2.1, h13.1.2.2.1, ?_⟩
      rw [en, eh, lz1, zI_sub, show (((gNi S + 1 : Nat) : Int) - 1) = ((gNi S : Nat) : Int) by omega]
      refine e_intervalPitch h13.1.2.2.2.2.2 hv13 (Nat.lt_succ_self _) (by omega) (by omega) ?_
      rw [show gIt (sAdd S (a2, a3, a4, t, a6, 0, 0, xs)) (gNi S) 2 = a2 from add_a (by omega)]
      have eq : (if gHd S = 2 then a2 + (ixF lDn (pkF c row (p1P (pkF c row) p)) + 2) - 1 else a2 - (ixF lDn (pkF c row (p1P (pkF c row) p)) + 2) + 1) = ivQ (gHd S) a2 (ixF lDn (pkF c row (p1P (pkF c row) p)) + 2) := rfl
      have qb : -1000 ≤ ivQ (gHd S) a2 (ixF lDn (pkF c row (p1P (pkF c row) p)) + 2) ∧ ivQ (gHd S) a2 (ixF lDn (pkF c row (p1P (pkF c row) p)) + 2) ≤ 1000 := by
        unfold ivQ
        split <;> omega
      rw [eq]
      refine e_isPitch2 (by omega) (fun g1 g2 => ⟨fun _ M21 e21 => ?_, fun z => absurd z (by decide)⟩) (fun g1 => ⟨fun z => absurd rfl z, fun _ => hE _ (by rw [he, eiv, if_neg (by omega), if_neg g1]) M13 (CE_of h13.1)⟩)
      rw [h13.1.2.2.2.1, zI_add] at e21
      have h21 := CRt_at (q := p1P (pkF c row) p + 1) hB h13 e21
      refine ⟨h21.1.2.2.1, ?_⟩
      have e9 : gIt (sAdd S (a2, a3, a4, t, a6, 0, 0, xs)) (gNi S) 9 = (xs.length : Int) := add_a (by omega)
      refine e_addInterval h21.1.2.2.2.2.2 hv13 (Nat.succ_pos _) (by show gIt (sAdd S (a2, a3, a4, t, a6, 0, 0, xs)) (gNi S) 9 < 4; rw [e9]; omega) (fun M24 w24 o24 x25 e25 => ?_)
      have h24 := CRt_mus hB h21 w24 o24
      rw [sAdd_iv] at h24
      have e25' : x25 = zI (((xs ++ [ixF lDn (pkF c row (p1P (pkF c row) p)) + 2 + 16 * sgI (pkF c row p)]).length : Nat) : Int) := by
        rw [e25, zI_add, List.length_append]
        rfl
      rw [e25']
      exact ih _ _ M24 (by simp only [List.length_append, List.length_cons, List.length_nil]; omega) (okX_snoc hx (by omega) sb) (by omega) h24 (by rw [he, eiv, if_neg (by omega), if_pos ⟨g1, g2⟩])
  exact key 4 p [] M rfl (fun k hk => absurd hk (Nat.not_lt_zero k)) hp h (by rw [hp0])
theorem e_tie {a2 a3 a4 a5 a6 a8 : Int} {xs : List Int} (hB : CB M0 r m c row) (hi : gNi S < 600) (h : CRt M0 M r m (sAdd S (a2, a3, a4, a5, a6, 0, a8, xs)) p o t w) (hp : p ≤ c) (hQ : ∀ M' : Mem, CRt M0 M' r m (sAdd S (a2, a3, a4, a5, a6, (tieN (pkF c row) p : Int), a8, xs)) (p + 2 * tieN (pkF c row) p) o t w → Q 0 M') : w_X3_readTie r m M Q := by
  have hm := CB_m hB
  unfold w_X3_readTie
  refine ⟨h.1.2.2.1, fun x2 e2 => ?_⟩
  have en : M m 3 = zI ((gNi S + 1 : Nat) : Int) := h.1.2.2.2.2.2.2.2.2.1
  have e2' : x2 = zI ((gNi S : Nat) : Int) := by
    rw [e2, en, lz1, zI_sub, show (((gNi S + 1 : Nat) : Int) - 1) = ((gNi S : Nat) : Int) by omega]
  subst e2'
  rw [lz0, zI_lt (by omega) (by omega) (by omega) (by omega)]
  refine ⟨fun z => by omega, fun _ => ?_⟩
  rw [lz8, lz9]
  refine e_sees hB h.1 hp (by omega) (by omega) (fun g => ⟨fun z => absurd z (by decide), fun _ => ⟨h.1.2.2.1, ?_, fun M7 e7 M8 e8 => ?_⟩⟩) (fun g => ⟨fun _ => ?_, fun z => absurd rfl z⟩)
  · rw [zI_in (by omega) (by omega)]; omega
  · have et : tieN (pkF c row) p = 1 := by unfold tieN; rw [if_pos g]
    rw [zI_tn (by omega) (by omega), tn_nat] at e7
    have w7 : MW M7 m (sSet (sAdd S (a2, a3, a4, a5, a6, 0, a8, xs)) (gNi S) 7 1) := by
      rw [e7, lz1]
      exact MW_set (a := 7) h.1.2.2.2.2.2 (Or.inl rfl) (Nat.lt_succ_self _)
    rw [sAdd_tie] at w7
    have h7 := CRt_mus hB h w7 (fun k hk => by rw [e7, mset_o (by omega)])
    rw [h7.1.2.2.2.1, lz2, zI_add] at e8
    rw [et] at hQ
    exact hQ M8 (CRt_at (q := p + 2) hB h7 e8)
  · have et : tieN (pkF c row) p = 0 := by unfold tieN; rw [if_neg g]
    rw [et] at hQ
    exact hQ M h
theorem e_slur {a2 a3 a4 a5 a6 a7 : Int} {xs : List Int} (hB : CB M0 r m c row) (hi : gNi S < 600) (h : CRt M0 M r m (sAdd S (a2, a3, a4, a5, a6, a7, 0, xs)) p o t w) (hp : p ≤ c) (hQ : ∀ M' : Mem, CRt M0 M' r m (sAdd S (a2, a3, a4, a5, a6, a7, (slP (pkF c row) p o).2.2, xs)) (slP (pkF c row) p o).1 (slP (pkF c row) p o).2.1 t w → Q 0 M') : w_X3_readSlur r m M Q := by
  have hm := CB_m hB
  have hc := hB.2.2.2.2.1
  have b0 := (PK_pkF hB p).2
  have put : ∀ M7 : Mem, M7 = mset M (m + 12) (gNi S) 1 → CRt M0 M7 r m (sAdd S (a2, a3, a4, a5, a6, a7, 1, xs)) p o t w := by
    intro M7 e7
    have w7 : MW M7 m (sSet (sAdd S (a2, a3, a4, a5, a6, a7, 0, xs)) (gNi S) 8 1) := by
      rw [e7, lz1]
      exact MW_set (a := 8) h.1.2.2.2.2.2 (Or.inr rfl) (Nat.lt_succ_self _)
    rw [sAdd_slur] at w7
    exact CRt_mus hB h w7 (fun k hk => by rw [e7, mset_o (by omega)])
  unfold w_X3_readSlur
  refine ⟨h.1.2.2.1, fun x2 e2 => ?_⟩
  have en : M m 3 = zI ((gNi S + 1 : Nat) : Int) := h.1.2.2.2.2.2.2.2.2.1
  have e2' : x2 = zI ((gNi S : Nat) : Int) := by
    rw [e2, en, lz1, zI_sub, show (((gNi S + 1 : Nat) : Int) - 1) = ((gNi S : Nat) : Int) by omega]
  subst e2'
  have k1 : (0 : Int32) ≤ zI ((gNi S : Nat) : Int) ↔ True := by rw [lz0, zI_le (by omega) (by omega) (by omega) (by omega)]; exact ⟨fun _ => trivial, fun _ => by omega⟩
  have kin : vp_in (zI ((gNi S : Nat) : Int)) 600 := by rw [zI_in (by omega) (by omega)]; omega
  rw [k1]
  refine ⟨fun _ => ?_, fun z => absurd trivial z⟩
  rw [h.1.2.2.2.2.1]
  cases o with
  | false =>
    refine ⟨fun _ => ?_, fun z => absurd rfl z⟩
    unfold w_X3_readSlur_51
    rw [h.1.2.2.2.2.1]
    refine ⟨fun _ => e_peek hB h.1 hp ?_, fun z => absurd rfl z⟩
    have es : slP (pkF c row) p false = if pkF c row p = 9 then (p + 1, false, 1) else (p, false, 0) := rfl
    rw [lz9, zI_eq (by omega) (by omega) (by omega) (by omega)]
    refine ⟨fun g => ?_, fun g => ⟨h.1.2.2.1, kin, fun M7 e7 M8 e8 => ?_⟩⟩
    · rw [es, if_neg g] at hQ
      exact hQ M h
    · rw [zI_tn (by omega) (by omega), tn_nat] at e7
      have h7 := put M7 e7
      rw [h7.1.2.2.2.1, lz1, zI_add] at e8
      rw [es, if_pos g] at hQ
      exact hQ M8 (CRt_at (q := p + 1) hB h7 e8)
  | true =>
    refine ⟨fun z => absurd z (by decide), fun _ => ?_⟩
    have es : slP (pkF c row) p true = if pkF c row p = 24 ∧ pkF c row (p + 1) = 6 then (p + 2, false, 0) else (p, true, 1) := rfl
    rw [lz24, lz6]
    refine e_sees hB h.1 hp (by omega) (by omega) (fun g => ⟨fun z => absurd z (by decide), fun _ M14 e14 M15 e15 => ?_⟩) (fun g => ⟨fun _ => ?_, fun z => absurd rfl z⟩)
    · have h14 := CRt_o (o' := false) hB h rfl e14
      rw [h14.1.2.2.2.1, lz2, zI_add] at e15
      rw [es, if_pos g] at hQ
      exact hQ M15 (CRt_at (q := p + 2) hB h14 e15)
    · unfold w_X3_readSlur_51
      rw [h.1.2.2.2.2.1]
      refine ⟨fun z => absurd z (by decide), fun _ => ⟨h.1.2.2.1, kin, fun M11 e11 => ?_⟩⟩
      rw [zI_tn (by omega) (by omega), tn_nat] at e11
      rw [es, if_neg g] at hQ
      exact hQ M11 (put M11 e11)
theorem e_item (hB : CB M0 r m c row) (hv : MV S) (hl : ¬ lastS S < 0) (hi : gNi S < 600) (hs : gSz S (lastS S).toNat < 40) (ht : -1 ≤ t ∧ t ≤ 1) (h : CRt M0 M r m S p o t w) (hp : p ≤ c) (hE : ∀ e : Nat, itemP (pkF c row) (gHd S) p o t w = .error e → ∀ M' : Mem, CE M0 M' m e → Q 0 M') (hO : ∀ (p' : Nat) (o' : Bool) (t' : Int) (w' : Option Int) (d : Dat), itemP (pkF c row) (gHd S) p o t w = .ok (p', o', t', w', d) → ∀ M' : Mem, CRt M0 M' r m (sAdd S d) p' o' t' w' → Q 1 M') : w_X3_readItem r m M Q := by
  have hP := PK_pkF hB
  have hc := hB.2.2.2.2.1
  unfold w_X3_readItem
  have n1 : ¬ ((1 : Int32) = 0) := by decide
  refine e_sizeSign hB h hp (fun e he M' h' => ⟨fun _ => hE e ?_ M' h', fun z => absurd rfl z⟩) (fun q0 t1 hs1 M2 h2 => ⟨fun z => absurd z n1, fun _ => ?_⟩)
  · unfold itemP; rw [he]
  have s1 := size_sp hP hp ht hs1
  refine e_open hB h2 s1.2.1 (fun e he M' h' => ⟨fun z => absurd rfl z, fun _ => hE e ?_ M' h'⟩) (fun q o1 ho1 M4 h4 => ⟨fun _ => ?_, fun z => absurd z n1⟩)
  · unfold itemP; rw [hs1]; simp only; rw [he]
  have s2 := open_sp hP s1.2.1 ho1
  have bq := (hP q).2
  have rb := ixF_bd lRs (pkF c row q)
  have rl : lRs.length = 4 := rfl
  refine e_peek hB h4.1 s2.2 (tb_Rs (CF_TB hB h4.1.1) (by omega) ?_)
  rw [lz0, zI_lt (by omega) (by omega) (by omega) (by omega)]
  have ei : itemP (pkF c row) (gHd S) p o t w = if 0 ≤ ixF lRs (pkF c row q) then .ok ((slP (pkF c row) (q + 1 + dotN (pkF c row) (q + 1)) o1).1, (slP (pkF c row) (q + 1 + dotN (pkF c row) (q + 1)) o1).2.1, t1, w, (0, 0, ixF lRs (pkF c row q), t1, (dotN (pkF c row) (q + 1) : Int), 0, (slP (pkF c row) (q + 1 + dotN (pkF c row) (q + 1)) o1).2.2, []))
      else if ptP (pkF c row) q w < 0 then .error (p2P (pkF c row) q)
      else match ivR (pkF c row) (gHd S) (ptP (pkF c row) q w) 4 (p2P (pkF c row) q + 1 + dotN (pkF c row) (p2P (pkF c row) q + 1)) [] with
        | .error e => .error e
        | .ok (q3, xs) => .ok ((slP (pkF c row) (q3 + 2 * tieN (pkF c row) q3) o1).1, (slP (pkF c row) (q3 + 2 * tieN (pkF c row) q3) o1).2.1, t1, some (ptP (pkF c row) q w), (ptP (pkF c row) q w, sgI (pkF c row q), kdI (pkF c row (p2P (pkF c row) q)), t1, (dotN (pkF c row) (p2P (pkF c row) q + 1) : Int), (tieN (pkF c row) q3 : Int), (slP (pkF c row) (q3 + 2 * tieN (pkF c row) q3) o1).2.2, xs)) := by
    unfold itemP
    rw [hs1]
    simp only
    rw [ho1]
    rfl
  refine ⟨fun g => ?_, fun g M17 e17 => ?_⟩
  · rw [if_neg (by omega)] at ei
    refine e_readNote hB hv hl hi s1.2.2.1 h4 s2.2 (fun gp M' h' => ⟨fun _ => hE _ (by rw [ei, if_pos gp]) M' h', fun z => absurd rfl z⟩) (fun gp M10 h10 => ⟨fun z => absurd z n1, fun _ => ?_⟩)
    have s3 := pt_sp (p := q) (w := w) hP gp
    have k4 := st_kd (hP (p2P (pkF c row) q)).2.1 (hP (p2P (pkF c row) q)).2.2.1 s3.2.2.1
    have s4 := dot_sp (p := p2P (pkF c row) q + 1) hP (by omega)
    rw [if_neg (by omega)] at ei
    refine e_intervals hB hv hl hi hs ⟨s3.1, s3.2.1⟩ (lSg_bd _) ⟨k4.2.2.1, k4.2.2.2⟩ s1.2.2.1 (by omega) h10 s4.2 (fun e he M' h' => ⟨fun z => absurd rfl z, fun _ => hE e (by rw [ei, he]) M' h'⟩) (fun q3 xs hx M12 h12 => ⟨fun _ => ?_, fun z => absurd z n1⟩)
    have s5 := iv_sp hP 4 _ [] q3 xs s4.2 (by show 0 + 4 ≤ 4; omega) (fun k hk => absurd hk (Nat.not_lt_zero k)) hx
    have s6 := tie_sp (p := q3) hP s5.2.1
    refine e_tie hB hi h12 s5.2.1 (fun M14 h14 => e_slur hB hi h14 s6.2 (fun M16 h16 => ?_))
    exact hO _ _ _ _ _ (by rw [ei, hx]) M16 h16
  · rw [if_pos (by omega)] at ei
    rw [h4.1.2.2.2.1, lz1, zI_add] at e17
    have hin := (hP q).1 (fun z => by rw [z, m1_Rs] at g; omega)
    have h17 := CRt_at (q := q + 1) hB h4 e17
    have s3 := dot_sp (p := q + 1) hP (by omega)
    refine ⟨h17.1.2.2.1, e_dots hB h17 (by omega) (fun M20 h20 => ?_)⟩
    rw [h17.2.1]
    refine e_addItem h20.1.2.2.2.2.2 hv hl hi (fun M22 w22 o22 => ?_)
    have h22 := CRt_mus hB h20 w22 o22
    rw [sAdd_item] at h22
    exact e_slur hB hi h22 s3.2 (fun M24 h24 => hO _ _ _ _ _ ei M24 h24)
end CItem2
