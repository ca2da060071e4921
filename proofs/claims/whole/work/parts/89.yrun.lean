section YRun
variable {M0 M M' : Mem} {S S' : Mus} {c p q s n p' : Nat} {row : Nat → Int} {len : Int} {o o' : Bool} {t : Int} {w w' : Option Int} {Q Qx : Int32 → Mem → Prop}
theorem x_rbar (hB : XB M0 c row len) (hv : MV S) (h : XC M0 M S p o w) (hN : BN M S (gNb S)) (hp : p ≤ c) (hE : ∀ e : Nat, barP (pkF c row) p o S = .error e → ∀ M' : Mem, JF M0 M' e → Qx 0 M') (hR : barP (pkF c row) p o S = .ok (p + 1, sBar S) → ∀ M' : Mem, XC M0 M' (sBar S) (p + 1) o none → BN M' (sBar S) (gNb (sBar S)) → Qx 0 M') (hV : barP (pkF c row) p o S = .ok (p, sVoice (sBar S)) → ∀ M' : Mem, XC M0 M' (sVoice (sBar S)) p o w → BN M' (sVoice (sBar S)) (gNb (sVoice (sBar S)) - 1) → M' 56 (60 + (gNb (sVoice (sBar S)) - 1)) = zI 0 → M' 57 (60 + (gNb (sVoice (sBar S)) - 1)) = zI ((gVo (sVoice (sBar S)) (gNb (sVoice (sBar S)) - 1) : Int) - 1) → ∃ k, w_X7_readBar_100 Qx k (zI ((gNb (sVoice (sBar S)) : Int) - 1)) (zI ((60 + (gNb (sVoice (sBar S)) - 1) : Nat) : Int)) 1 M') : w_X7_readBar M Qx := by
  have vnb := hv.2.2.1
  have hc := hB.2.1
  have b0 := (PK_x hB p).2
  unfold w_X7_readBar
  rw [tc1, hN.1]
  refine ⟨vi1, fun x2 e2 => ?_⟩
  subst e2
  rw [lz60, zI_eq (by omega) (by omega) (by omega) (by omega), h.2.2.1]
  refine ⟨fun g60 x3 e3 => ?_, fun g60 => x_fail h.2.2.2.1 (fun M' e' => hE p (by unfold barP; rw [if_pos (Or.inr (by omega))]) M' (XC_JF h (by omega) (by omega) e'))⟩
  have e3' : x3 = zI ((60 + gNb S : Nat) : Int) := by rw [e3, zI_add]; rfl
  subst e3'
  have vin : vp_in (zI ((60 + gNb S : Nat) : Int)) 120 := by rw [zI_in (by omega) (by omega)]; omega
  have etn : Int32.toNatClampNeg (zI ((60 + gNb S : Nat) : Int)) = 60 + gNb S := by rw [zI_tn (by omega) (by omega), tn_nat]
  rw [etn]
  refine ⟨vin, fun M5 e5 => ⟨vin, fun M7 e7 => ?_⟩⟩
  have h5 := XC_set hv h (by unfold kp0; omega) (by unfold ri; omega) (by omega) e5
  have h7 := XC_set hv h5 (by unfold kp0; omega) (by unfold ri; omega) (by omega) e7
  have n7 : BN M7 S (gNb S) := BN_far hN (by rw [e7, mset_o (by omega), e5, mset_o (by omega)]) (fun b hb => ⟨by rw [e7, mset_j (by omega), e5, mset_o (by omega)], by rw [e7, mset_o (by omega), e5, mset_j (by omega)]⟩)
  have z56 : M7 56 (60 + gNb S) = zI 0 := by rw [e7, mset_o (by omega), e5, mset_at]; rfl
  have z57 : M7 57 (60 + gNb S) = zI 0 := by rw [e7, mset_at]; rfl
  rw [h7.2.2.1]
  refine x_peek (XB_0 hB h7.1) RF_rf (by omega) ?_
  rw [lz54, zI_eq (by omega) (by omega) (by omega) (by omega), lz0, zI_eq (a := (gNb S : Int)) (by omega) (by omega) (by omega) (by omega), ← lz0, h7.2.2.2.2.1]
  have bad : pkF c row p = 54 → (gNb S = 0 ∨ o = true) → w_X7_readBar_65 Qx (zI (gNb S : Int)) (zI ((60 + gNb S : Nat) : Int)) M7 := by
    intro g g2
    unfold w_X7_readBar_65
    rw [h7.2.2.1]
    refine x_fail h7.2.2.2.1 (fun M42 e42 => ?_)
    have j42 := XC_JF (f := p) h7 (by omega) (by omega) e42
    unfold w_X7_readBar_73
    rw [etn]
    refine ⟨vin, fun M44 e44 M45 e45 M46 e46 => ?_⟩
    have j44 := JF_set j42 (by unfold kp0; omega) (by omega) e44
    have j45 := JF_27 j44 (Or.inr rfl) e45
    have e24 : M45 46 24 = zI p := by rw [e45, mset_j (by omega), e44, mset_o (by omega), e42, mset_j (by omega)]; exact h7.2.2.1
    rw [e24, lz1, zI_add] at e46
    exact x_257J (JF_at (q := p + 1) j45 (by omega) e46) (hE p (by unfold barP; rw [if_pos (Or.inl ⟨g, g2⟩)]))
  refine ⟨fun g => ?_, fun g => ⟨fun g2 => bad g (Or.inl (by omega)), fun g2 => ⟨fun g3 => ?_, fun g3 => bad g (Or.inr ?_)⟩⟩⟩
  · have e1 : gNb (sVoice (sBar S)) = gNb S + 1 := rfl
    have ev : gVo (sVoice (sBar S)) (gNb S) = 1 := by
      show (if gNb S = gNb S + 1 - 1 then (if gNb S + 1 - 1 = gNb S then 0 else gVo S (gNb S + 1 - 1)) + 1 else _) = 1
      rw [if_pos (by omega), if_pos (by omega)]
    have := hV (by unfold barP; rw [if_neg (by omega), if_neg g]) M7 h7
    rw [e1, show gNb S + 1 - 1 = gNb S by omega, ev, show (((gNb S + 1 : Nat) : Int) - 1) = (gNb S : Int) by omega] at this
    refine this ⟨n7.1, fun b hb => ?_⟩ z56 z57
    have evb : gVo (sVoice (sBar S)) b = gVo S b := by
      show (if b = gNb S + 1 - 1 then _ else (if b = gNb S then 0 else gVo S b)) = gVo S b
      rw [if_neg (by omega), if_neg (by omega)]
    rw [evb]
    exact n7.2 b hb
  · have ho := bI_0.mp g3
    unfold w_X7_readBar_73
    rw [etn]
    refine ⟨vin, fun M44 e44 M45 e45 M46 e46 => ?_⟩
    have h44 := XC_set hv h7 (by unfold kp0; omega) (by unfold ri; omega) (by omega) e44
    have h45 := XC_27 (w' := none) hv h44 (show M45 46 27 = 1 by rw [e45, mset_at]) e45
    rw [h45.2.2.1, lz1, zI_add] at e46
    have h46 := XC_at (q := p + 1) hv h45 e46
    refine ⟨vi1, vi1, fun M16 e16 => ?_⟩
    have e53 : M46 53 1 = zI (gNb S : Int) := by rw [e46, mset_o (by omega), e45, mset_o (by omega), e44, mset_o (by omega)]; exact n7.1
    rw [tc1, e53, lz1, zI_add] at e16
    have h16 := XC_set hv h46 (by unfold kp0; omega) (by unfold ri; omega) (by omega) e16
    refine hR (by unfold barP; rw [if_neg (fun z => z.elim (fun y => y.2.elim (fun x => by omega) (fun x => by rw [ho] at x; exact absurd x (by decide))) (fun y => by omega)), if_pos g]) M16 h16 ⟨?_, fun b hb => ?_⟩
    · rw [e16, mset_at]
      rfl
    · have hb' : b < gNb S + 1 := hb
      have evb : gVo (sBar S) b = if b = gNb S then 0 else gVo S b := rfl
      rw [e16, mset_o (by omega), mset_o (by omega), e46, mset_o (by omega), mset_o (by omega), e45, mset_o (by omega), mset_o (by omega), e44, mset_o (by omega), evb]
      by_cases gb : b = gNb S
      · subst gb
        rw [mset_at, if_pos rfl, if_pos rfl, z57]
        exact ⟨rfl, rfl⟩
      · rw [mset_j (by omega), if_neg gb]
        exact n7.2 b (by omega)
  · cases o with
    | true => rfl
    | false => exact absurd rfl g3
theorem ent_none (S : Mus) (b : Nat) : entS S b none = none := by
  unfold entS
  split <;> rfl
theorem ent_if {P : Prop} [Decidable P] : entS S n (if P then none else w) = if P then none else entS S n w := by
  by_cases g : P
  · rw [if_pos g, if_pos g, ent_none]
  · rw [if_neg g, if_neg g]
/-- what is left of the row behind a voice (E) and behind a bar (F) -/
theorem x_EF (hB : XB M0 c row len) : ∀ k : Nat,
    (∀ (p : Nat) (o : Bool) (w : Option Int) (S : Mus) (M : Mem) (f : Nat) (v : Int32), GD S → len = gLen S → okW w → p ≤ c → c < p + k → k + 1 ≤ f → XC M0 M S p o (entS S (gNb S) w) → BN M S (gNb S) → (pkF c row p = 35 ∧ pkF c row (p + 1) = 28 → lastS S < 0) → (∀ e : Nat, runP (pkF c row) c k p o w S = .error e → ∀ M' : Mem, JF M0 M' e → Q (zI (-10 - (e : Int))) M') → (∀ S' : Mus, runP (pkF c row) c k p o w S = .ok S' → ∀ (M' : Mem) (p' : Nat) (o' : Bool) (w' : Option Int), XC M0 M' S' p' o' w' → BN M' S' (gNb S') → w_X7_read_206 Q 0 M') → QB Q (w_X7_read_99 Q f) v M) ∧
    (∀ (p : Nat) (o : Bool) (w : Option Int) (S : Mus) (M : Mem) (f f1 : Nat), GD S → len = gLen S → okW w → p ≤ c → c < p + k → k + 1 ≤ f → ¬ lastS S < 0 → 5 ≤ f1 + gVo S (gNb S - 1) → XC M0 M S p o w → BN M S (gNb S - 1) → M 56 (60 + (gNb S - 1)) = zI 0 → M 57 (60 + (gNb S - 1)) = zI (gVo S (gNb S - 1) : Int) → ¬ (o = true ∧ pkF c row p = 35 ∧ pkF c row (p + 1) = 28) → (∀ e : Nat, runP (pkF c row) c k p o w S = .error e → ∀ M' : Mem, JF M0 M' e → Q (zI (-10 - (e : Int))) M') → (∀ S' : Mus, runP (pkF c row) c k p o w S = .ok S' → ∀ (M' : Mem) (p' : Nat) (o' : Bool) (w' : Option Int), XC M0 M' S' p' o' w' → BN M' S' (gNb S') → w_X7_read_206 Q 0 M') → w_X7_readBar_153 (QB Q (w_X7_read_99 Q f)) (w_X7_readBar_100 (QB Q (w_X7_read_99 Q f)) f1) (zI ((gNb S : Int) - 1)) (zI ((60 + (gNb S - 1) : Nat) : Int)) 1 M) := by
  have hP := PK_x hB
  have hc := hB.2.1
  intro k
  induction k with
  | zero => exact ⟨fun p o w S M f v _ _ _ hp hck => by omega, fun p o w S M f f1 _ _ _ hp hck => by omega⟩
  | succ k ih =>
    obtain ⟨ihF, ihE⟩ := ih
    have F : ∀ (p : Nat) (o : Bool) (w : Option Int) (S : Mus) (M : Mem) (f : Nat) (v : Int32), GD S → len = gLen S → okW w → p ≤ c → c < p + (k + 1) → k + 1 + 1 ≤ f → XC M0 M S p o (entS S (gNb S) w) → BN M S (gNb S) → (pkF c row p = 35 ∧ pkF c row (p + 1) = 28 → lastS S < 0) → (∀ e : Nat, runP (pkF c row) c (k + 1) p o w S = .error e → ∀ M' : Mem, JF M0 M' e → Q (zI (-10 - (e : Int))) M') → (∀ S' : Mus, runP (pkF c row) c (k + 1) p o w S = .ok S' → ∀ (M' : Mem) (p' : Nat) (o' : Bool) (w' : Option Int), XC M0 M' S' p' o' w' → BN M' S' (gNb S') → w_X7_read_206 Q 0 M') → QB Q (w_X7_read_99 Q f) v M := by
      intro p o w S M f v hG hlen hw hp hck hf h hN h35 hE hO
      obtain ⟨f', rfl⟩ : ∃ f' : Nat, f = f' + 2 := ⟨f - 2, by omega⟩
      have ep : ¬ c ≤ p → runP (pkF c row) c (k + 1) p o w S = (match nextP (pkF c row) p o w S with
        | .error e => .error e
        | .ok (p', w', S') => (match vcP (pkF c row) p' o w' S' with
          | .error e => .error e
          | .ok (p2, o2, w2, S2) => runP (pkF c row) c k p2 o2 w2 S2)) := fun g => by rw [runP]; exact if_neg g
      have e0 : c ≤ p → runP (pkF c row) c (k + 1) p o w S = if o = true then .error p else .ok S := fun g => by rw [runP]; exact if_pos g
      refine x_qb hB hG.1 h hN hp (fun g M' j => ?_) (fun g1 g2 => ?_) (fun g M1 h1 n1 => ?_)
      · refine hE p ?_ M' j
        rcases g with ⟨g1, g2⟩ | ⟨g1, g2, g3⟩
        · rw [e0 g1, if_pos g2]
        · rw [ep (by omega)]
          have en : nextP (pkF c row) p o w S = .error p := by
            unfold nextP
            rw [if_neg (by omega), if_pos]
            by_cases z : pkF c row p = 35 ∧ pkF c row (p + 1) = 28
            · exact Or.inl (h35 z)
            · exact Or.inr z
          rw [en]
      · exact hO S (by rw [e0 g1, g2]; rfl) M p o _ h hN
      · have hin := (hP p).1 (by omega)
        have ep1 := ep (by omega)
        have en : nextP (pkF c row) p o w S = (match barP (pkF c row) (p + 1) o S with
          | .error e => .error e
          | .ok (p', S') => .ok (p', entS S (gNb S) (if pkF c row p = 64 then none else w), S')) := by unfold nextP; rw [if_pos g]; rfl
        rw [en] at ep1
        rw [← ent_if] at h1
        have okw : okW (entS S (gNb S) (if pkF c row p = 64 then none else w)) := okW_ent (by split; exact trivial; exact hw)
        show wb_X7_read_99 Q (w_X7_read_99 Q (f' + 1)) _ M1
        unfold wb_X7_read_99
        rw [h1.2.2.2.1]
        refine ⟨fun z => absurd z one0, fun _ => ⟨fun z => absurd z (by decide), fun _ => ?_⟩⟩
        refine x_rbar (Qx := QB Q (w_X7_read_99 Q (f' + 1))) hB hG.1 h1 n1 (by omega) (fun e he M' j => x_qbJ hB j (hE e (by rw [ep1, he]))) (fun hb M' h' n' => ?_) (fun hb M' h' n' g56 g57 => ⟨5, ?_⟩)
        · have sp := bar_sp hP hG (by omega) hb
          have ev : vcP (pkF c row) (p + 1 + 1) o (entS S (gNb S) (if pkF c row p = 64 then none else w)) (sBar S) = .ok (p + 1 + 1, o, entS S (gNb S) (if pkF c row p = 64 then none else w), sBar S) := by unfold vcP; rw [if_pos lastS_bar]
          rw [hb] at ep1
          simp only at ep1
          rw [ev] at ep1
          simp only at ep1
          refine ihF (p + 1 + 1) o _ (sBar S) M' (f' + 1) 0 ⟨sp.2.2.1.1, sp.2.2.1.2.1, Or.inl lastS_bar⟩ hlen okw sp.2.1 (by omega) (by omega) ?_ n' (fun _ => lastS_bar) (fun e he => hE e (by rw [ep1]; exact he)) (fun S' he => hO S' (by rw [ep1]; exact he))
          have : entS (sBar S) (gNb (sBar S)) (entS S (gNb S) (if pkF c row p = 64 then none else w)) = none := by
            have e0' : gVo (sBar S) (gNb (sBar S) - 1) = 0 := by
              show (if gNb S + 1 - 1 = gNb S then 0 else gVo S (gNb S + 1 - 1)) = 0
              rw [if_pos (by omega)]
            show (if 0 < gNb (sBar S) ∧ gVo (sBar S) (gNb (sBar S) - 1) = 1 then _ else none) = none
            rw [if_neg (by omega)]
          rw [this]
          exact h'
        · have sp := bar_sp hP hG (by omega) hb
          rw [hb] at ep1
          simp only at ep1
          have hl' : ¬ lastS (sVoice (sBar S)) < 0 := by rw [lastS_voice (S := sBar S) (Nat.succ_pos _)]; omega
          refine x_vloop (f := 3) hB hlen sp.2.2.1 hl' h' n' g56 g57 (by omega) (fun e he M2 j => x_qbJ hB j (hE e (by rw [ep1, he]))) (fun e he M2 j => x_qbS hB j (hE e (by rw [ep1, he]))) (fun p2 o2 w2 S2 hx M2 h2 n2 y56 y57 => ?_)
          have k2 := vc_sp hP sp.2.2.1 okw (by omega) hx
          obtain ⟨t1, t2, t3, t4⟩ := vc_shape hl' hx
          have ev : gVo (sVoice (sBar S)) (gNb S) = 1 := by
            show (if gNb S = gNb S + 1 - 1 then (if gNb S + 1 - 1 = gNb S then 0 else gVo S (gNb S + 1 - 1)) + 1 else _) = 1
            rw [if_pos (by omega), if_pos (by omega)]
          rw [hx] at ep1
          simp only at ep1
          have hls : ¬ lastS S2 < 0 := by
            unfold lastS at hl' ⊢
            rw [t1, t2]
            exact hl'
          refine ihE p2 o2 w2 S2 M2 (f' + 1) 4 k2.2.2.2.1 (by rw [t3]; exact hlen) k2.2.2.1 k2.2.1 (by omega) (by omega) hls ?_ h2 n2 y56 y57 t4 (fun e he => hE e (by rw [ep1]; exact he)) (fun S' he => hO S' (by rw [ep1]; exact he))
          rw [t1, t2, show gNb (sVoice (sBar S)) - 1 = gNb S from rfl, ev]
          omega
    refine ⟨F, ?_⟩
    intro p o w S M f f1 hG hlen hw hp hck hf hl hf1 h hN h56 h57 hno hE hO
    have hv := hG.1
    obtain ⟨l1, l2, l3⟩ := lastS_sp hl
    have v3 := hv.2.2.2.2.1 (gNb S - 1) l1
    have vnb := hv.2.2.1
    obtain ⟨f2, rfl⟩ : ∃ f2 : Nat, f1 = f2 + 2 := ⟨f1 - 2, by omega⟩
    obtain ⟨f', rfl⟩ : ∃ f' : Nat, f = f' + 1 := ⟨f - 1, by omega⟩
    have b0 := (hP p).2
    have b1 := (hP (p + 1)).2
    have stop : ¬ (pkF c row p = 35 ∧ pkF c row (p + 1) = 28) → w_X7_readBar_100 (QB Q (w_X7_read_99 Q (f' + 1))) (f2 + 2) (zI ((gNb S : Int) - 1)) (zI ((60 + (gNb S - 1) : Nat) : Int)) 0 M := by
      intro g
      show wb_X7_readBar_100 _ (w_X7_readBar_100 _ (f2 + 1)) _ _ _ M
      unfold wb_X7_readBar_100
      exact ⟨fun _ => x_233N hv (by omega) (by omega) h hN h56 h57 (fun M' h' n' => F p o w S M' (f' + 1) 0 hG hlen hw hp hck hf h' n' (fun z => absurd z g) hE hO), fun z => absurd rfl z⟩
    unfold w_X7_readBar_153
    rw [h.2.2.2.1, h.2.2.1]
    refine ⟨fun z => absurd z (by decide), fun _ => x_peek (XB_0 hB h.1) RF_rf (by omega) ?_⟩
    rw [lz35, zI_eq (by omega) (by omega) (by omega) (by omega), h.2.2.1, h.2.2.2.2.1]
    refine ⟨fun g => ⟨fun _ => stop (fun z => g z.1), fun z => absurd rfl z⟩, fun g => ?_⟩
    rw [lz1, zI_add]
    refine x_peek (q := p + 1) (XB_0 hB h.1) RF_rf (by omega) (fun z35 e35 => ?_)
    have k28 : zI (pkF c row (p + 1)) = 28 ↔ pkF c row (p + 1) = 28 := by rw [lz28, zI_eq (by omega) (by omega) (by omega) (by omega)]
    simp only [k28] at e35
    by_cases g28 : pkF c row (p + 1) = 28
    · rw [if_pos g28, ← lz1] at e35
      subst e35
      have ho : o = false := by
        cases o with
        | true => exact absurd ⟨rfl, g, g28⟩ hno
        | false => rfl
      have hin := (hP (p + 1)).1 (by omega)
      rw [h.2.2.2.2.1]
      refine ⟨fun z => absurd z one0, fun _ => ⟨fun _ => ?_, fun z => absurd (by rw [ho]; rfl) z⟩⟩
      unfold w_X7_readBar_215
      intro M25 e25 M26 e26
      rw [h.2.2.1, lz2, zI_add] at e25
      have h25 := XC_at (q := p + 2) hv h e25
      have h26 := XC_27 (w' := none) hv h25 (show M26 46 27 = 1 by rw [e26, mset_at]) e26
      have n26 := BN_46 (BN_46 hN e25) e26
      have q56 : M26 56 (60 + (gNb S - 1)) = zI 0 := by rw [e26, mset_o (by omega), e25, mset_o (by omega)]; exact h56
      have q57 : M26 57 (60 + (gNb S - 1)) = zI (gVo S (gNb S - 1) : Int) := by rw [e26, mset_o (by omega), e25, mset_o (by omega)]; exact h57
      have ep : runP (pkF c row) c (k + 1) p o w S = (match nextP (pkF c row) p o w S with
        | .error e => .error e
        | .ok (p', w', S') => (match vcP (pkF c row) p' o w' S' with
          | .error e => .error e
          | .ok (p2, o2, w2, S2) => runP (pkF c row) c k p2 o2 w2 S2)) := by rw [runP]; exact if_neg (by omega)
      have en : nextP (pkF c row) p o w S = if gVo S (gNb S - 1) < 3 then .ok (p + 2, none, sVoice S) else .error (p + 2) := by
        unfold nextP
        rw [if_neg (by omega), if_neg (fun z => z.elim hl (fun y => y ⟨g, g28⟩))]
      by_cases g3 : gVo S (gNb S - 1) < 3
      · rw [if_pos g3] at en
        rw [en] at ep
        simp only at ep
        have sp := next_sp hP hG hw hp en
        have hl' : ¬ lastS (sVoice S) < 0 := by rw [lastS_voice (by omega)]; omega
        have ev : gVo (sVoice S) (gNb S - 1) = gVo S (gNb S - 1) + 1 := by
          show (if gNb S - 1 = gNb S - 1 then gVo S (gNb S - 1) + 1 else _) = _
          rw [if_pos rfl]
        have eb : ∀ b : Nat, b < gNb S - 1 → gVo (sVoice S) b = gVo S b := fun b hb => by
          show (if b = gNb S - 1 then gVo S (gNb S - 1) + 1 else gVo S b) = gVo S b
          rw [if_neg (by omega)]
        have := x_vloop (f := f2) (Qx := QB Q (w_X7_read_99 Q (f' + 1))) (M := M26) (S := sVoice S) (p := p + 2) (o := o) (w := none) hB hlen sp.2.2.1 hl' h26 ⟨n26.1, fun b hb => by rw [eb b hb]; exact n26.2 b hb⟩ q56 (by rw [show gNb (sVoice S) - 1 = gNb S - 1 from rfl, ev, q57]; congr 1; omega) (by omega) (fun e he M2 j => x_qbJ hB j (hE e (by rw [ep, he]))) (fun e he M2 j => x_qbS hB j (hE e (by rw [ep, he]))) (fun p2 o2 w2 S2 hx M2 h2 n2 y56 y57 => ?_)
        · exact this
        · have k2 := vc_sp (w := none) hP sp.2.2.1 trivial (by omega) hx
          obtain ⟨t1, t2, t3, t4⟩ := vc_shape hl' hx
          rw [hx] at ep
          simp only at ep
          have hls : ¬ lastS S2 < 0 := by
            unfold lastS at hl' ⊢
            rw [t1, t2]
            exact hl'
          refine ihE p2 o2 w2 S2 M2 (f' + 1) (f2 + 1) k2.2.2.2.1 (by rw [t3]; exact hlen) k2.2.2.1 k2.2.1 (by omega) (by omega) hls ?_ h2 n2 y56 y57 t4 (fun e he => hE e (by rw [ep]; exact he)) (fun S' he => hO S' (by rw [ep]; exact he))
          rw [t1, t2, show gNb (sVoice S) - 1 = gNb S - 1 from rfl, ev]
          omega
      · rw [if_neg g3] at en
        rw [en] at ep
        have g33 : gVo S (gNb S - 1) = 3 := by omega
        show wb_X7_readBar_100 _ (w_X7_readBar_100 _ (f2 + 1)) _ _ _ M26
        unfold wb_X7_readBar_100
        have vin : vp_in (zI ((60 + (gNb S - 1) : Nat) : Int)) 120 := by rw [zI_in (by omega) (by omega)]; omega
        rw [h26.2.2.2.1, zI_tn (by omega) (by omega), tn_nat, q57, lz3, zI_eq (by omega) (by omega) (by omega) (by omega), h26.2.2.1]
        refine ⟨fun z => absurd z one0, fun _ => ⟨fun z => absurd z (by decide), fun _ => ⟨vin, fun z => absurd (by omega) z, fun _ => ?_⟩⟩⟩
        refine x_fail h26.2.2.2.1 (fun M40 e40 => ?_)
        have j := XC_JF (f := p + 2) h26 (by omega) (by omega) e40
        exact x_153J (by omega) j (fun M' j' => x_qbJ hB j' (hE (p + 2) ep))
    · rw [if_neg g28] at e35
      subst e35
      exact ⟨fun _ => stop (fun z => g28 z.2), fun z => absurd rfl z⟩
end YRun
