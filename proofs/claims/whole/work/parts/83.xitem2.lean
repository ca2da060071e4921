section XItem2
variable {Mv M M' : Mem} {S S' : Mus} {c p q : Nat} {row : Nat → Int} {len : Int} {o : Bool} {t : Int} {w : Option Int} {y y' : Nat → Int32} {xs : List Int} {Q : Int32 → Mem → Prop}
theorem XI_y (h : XI Mv M S p o w t y xs) (e : ∀ a : Nat, a < 10 → y a = y' a) : XI Mv M S p o w t y' xs := ⟨h.1, fun a ha => (h.2.1 a ha).trans (e a ha), h.2.2⟩
theorem x_ahead {t1 : Int} {q0 : Nat} (hB : XB Mv c row len) (hv : MV S) (h : XI Mv M S p o w t y xs) (hp : p ≤ c) (ht : -1 ≤ t ∧ t ≤ 1) (hs : sizeP (pkF c row) p t = .ok (q0, t1)) (hE : ∀ e : Nat, openP (pkF c row) q0 o = .error e → ∀ M' : Mem, JS Mv M' e → Q 0 M') (hO : ∀ (q : Nat) (o1 : Bool), openP (pkF c row) q0 o = .ok (q, o1) → ∀ M' : Mem, XI Mv M' S q o1 w t1 y xs → Q 0 M') : w_X7_ahead M Q := by
  have hP := PK_x hB
  have hc := hB.2.1
  have s1 := size_sp hP hp ht hs
  have b0 := (hP p).2
  have b1 := (hP (p + 1)).2
  have go61 : ∀ (l1 : Int32) (M1 : Mem), XI Mv M1 S q0 o w t1 y xs → w_X7_ahead_61 Q l1 M1 := by
    intro l1 M1 h1
    have d0 := (hP q0).2
    have d1 := (hP (q0 + 1)).2
    unfold w_X7_ahead_61
    rw [h1.1.2.2.1]
    refine x_peek hB h1.1.1 (by omega) ?_
    rw [lz48, zI_eq (by omega) (by omega) (by omega) (by omega)]
    refine ⟨fun g => hO q0 o (by unfold openP; rw [if_neg (fun z => g z.1)]) M1 h1, fun g => ?_⟩
    rw [h1.1.2.2.1, lz1, zI_add]
    refine x_peek (q := q0 + 1) hB h1.1.1 (by omega) ?_
    rw [lz3, zI_eq (by omega) (by omega) (by omega) (by omega)]
    refine ⟨fun g2 => hO q0 o (by unfold openP; rw [if_neg (fun z => g2 z.2)]) M1 h1, fun g2 => ?_⟩
    have eo : openP (pkF c row) q0 o = if o = true then .error (q0 + 1) else .ok (q0 + 2, true) := by unfold openP; rw [if_pos ⟨g, g2⟩]
    rw [h1.1.2.2.2.2.1, h1.1.2.2.1]
    refine ⟨fun g3 => ?_, fun g3 => ?_⟩
    · have ho := bI_0.mp g3
      unfold w_X7_ahead_105
      intro M9 e9 M10 e10
      have h9 := XI_46 h1 (XR_o (o' := true) hv h1.1 rfl e9) e9
      rw [h9.1.2.2.1, lz2, zI_add] at e10
      exact hO (q0 + 2) true (by rw [eo, ho]; rfl) M10 (XI_at (q := q0 + 2) hv h9 e10)
    · have ho : o = true := by
        cases o with
        | true => rfl
        | false => exact absurd rfl g3
      rw [zI_add]
      refine x_fail h1.1.2.2.2.1 (fun M12 e12 => ?_)
      unfold w_X7_ahead_105
      intro M9 e9 M10 e10
      have j := JS_of (f := q0 + 1) h1.1 (by omega) (by omega) e12
      have j9 := JS_set j (by unfold kp; omega) (by omega) e9
      have e24 : M9 46 24 = zI q0 := by rw [e9, mset_j (by omega), e12, mset_j (by omega)]; exact h1.1.2.2.1
      rw [e24, lz2, zI_add] at e10
      exact hE (q0 + 1) (by rw [eo, if_pos ho]) M10 (JS_at (q := q0 + 2) j9 (by omega) e10)
  have go21 : (pkF c row p = 24 ∨ pkF c row p = 32) → w_X7_ahead_21 Q (zI (pkF c row p)) M := by
    intro g
    unfold w_X7_ahead_21
    rw [h.1.2.2.1, lz1, zI_add]
    refine x_peek (q := p + 1) hB h.1.1 (by omega) ?_
    rw [lz35, zI_eq (by omega) (by omega) (by omega) (by omega)]
    refine ⟨fun g2 => ?_, fun g2 z13 e13 M14 e14 M15 e15 => ?_⟩
    · have es : sizeP (pkF c row) p t = .ok (p, t) := by unfold sizeP; rw [if_neg (fun z => g2 z.2)]
      rw [es] at hs
      simp only [Except.ok.injEq, Prod.mk.injEq] at hs
      obtain ⟨rfl, rfl⟩ := hs
      exact go61 _ M h
    · have es : sizeP (pkF c row) p t = if pkF c row (p + 2) = 2 then .ok (p + 3, if pkF c row p = 24 then 0 else 1) else .error (p + 2) := by unfold sizeP; rw [if_pos ⟨g, g2⟩]
      rw [es] at hs
      split at hs
      · simp only [Except.ok.injEq, Prod.mk.injEq] at hs
        obtain ⟨hs1, hs2⟩ := hs
        have e13' : z13 = zI t1 := by
          have k : zI (pkF c row p) = 24 ↔ pkF c row p = 24 := by rw [lz24, zI_eq (by omega) (by omega) (by omega) (by omega)]
          simp only [k] at e13
          rw [e13, ← hs2]
          by_cases g4 : pkF c row p = 24
          · rw [if_pos g4, if_pos g4]; rfl
          · rw [if_neg g4, if_neg g4]
        have h14 := XI_46 h (XR_t hv h.1 e13' e14) e14
        rw [h14.1.2.2.1, lz3, zI_add] at e15
        have h15 := XI_at (q := p + 3) hv h14 e15
        rw [hs1] at h15
        exact go61 _ M15 h15
      · exact absurd hs (by simp)
  have no21 : ¬ (pkF c row p = 24 ∨ pkF c row p = 32) → XI Mv M S q0 o w t1 y xs := by
    intro g
    have es : sizeP (pkF c row) p t = .ok (p, t) := by unfold sizeP; rw [if_neg (fun z => g z.1)]
    rw [es] at hs
    simp only [Except.ok.injEq, Prod.mk.injEq] at hs
    obtain ⟨rfl, rfl⟩ := hs
    exact h
  unfold w_X7_ahead
  rw [h.1.2.2.1]
  refine x_peek hB h.1.1 (by omega) ?_
  rw [lz24, zI_eq (by omega) (by omega) (by omega) (by omega), lz32, zI_eq (by omega) (by omega) (by omega) (by omega)]
  exact ⟨fun g => go21 (Or.inl g), fun g => ⟨fun g2 => go61 _ M (no21 (by omega)), fun g2 => go21 (Or.inr g2)⟩⟩
def wnI (a b : Int) : Int := if 4 < (if a ≤ b then b - a else a - b) then 1 else if (if a ≤ b then b - a else a - b) ≤ 2 then 0 else if a / 7 = b / 7 then 0 else 1
theorem x_wnts {a b : Int} (ha : 0 ≤ a ∧ a ≤ 1000) (hb : 0 ≤ b ∧ b ≤ 1000) (h0 : wnI a b = 0 → Q 0 M) (h1 : ¬ wnI a b = 0 → Q 1 M) : w_X7_wantsSign (zI a) (zI b) M Q := by
  unfold w_X7_wantsSign
  intro z1 e1 z2 e2
  have k : zI a ≤ zI b ↔ a ≤ b := by rw [zI_le (by omega) (by omega) (by omega) (by omega)]
  have e1' : z1 = zI (if a ≤ b then b - a else a - b) := by
    rw [e1, zI_sub, zI_sub]
    simp only [k]
    by_cases g : a ≤ b
    · rw [if_pos g, if_pos g]
    · rw [if_neg g, if_neg g]
  unfold wnI at h0 h1
  have bd : 0 ≤ (if a ≤ b then b - a else a - b) ∧ (if a ≤ b then b - a else a - b) ≤ 1000 := by split <;> omega
  generalize (if a ≤ b then b - a else a - b) = d at e1' h0 h1 bd
  subst e1'
  rw [lz7, zI_div (by omega) (by omega) (by omega) (by omega), zI_div (by omega) (by omega) (by omega) (by omega)] at e2
  have k4 : (4 : Int32) < zI d ↔ 4 < d := by rw [lz4, zI_lt (by omega) (by omega) (by omega) (by omega)]
  have k2 : zI d ≤ (2 : Int32) ↔ d ≤ 2 := by rw [lz2, zI_le (by omega) (by omega) (by omega) (by omega)]
  have k7 : zI (a / 7) = zI (b / 7) ↔ a / 7 = b / 7 := by rw [zI_eq (by omega) (by omega) (by omega) (by omega)]
  simp only [k4, k2, k7] at e2
  by_cases g1 : 4 < d
  · rw [if_pos g1] at e2 h0 h1
    rw [e2]
    exact ⟨Or.inr rfl, h1 (by omega)⟩
  · rw [if_neg g1] at e2 h0 h1
    by_cases g2 : d ≤ 2
    · rw [if_pos g2] at e2 h0 h1
      rw [e2]
      exact ⟨Or.inl rfl, h0 rfl⟩
    · rw [if_neg g2] at e2 h0 h1
      by_cases g3 : a / 7 = b / 7
      · rw [if_pos g3] at e2 h0 h1
        rw [e2]
        exact ⟨Or.inl rfl, h0 rfl⟩
      · rw [if_neg g3] at e2 h0 h1
        rw [e2]
        exact ⟨Or.inr rfl, h1 (by omega)⟩
def nrS (q s : Int) : Nat → Int
  | 0 => -1
  | j + 1 => if (q + ((j : Int) - 4)) % 7 = s ∧ wnI q (q + ((j : Int) - 4)) = 0 then q + ((j : Int) - 4) else nrS q s j
theorem nr_near {q s : Int} (hq : 7 ≤ q ∧ q ≤ 55) (hs : 0 ≤ s ∧ s ≤ 6) : ((7 ≤ nrS q s 9 ∧ nrS q s 9 ≤ 55) → near q s = nrS q s 9) ∧ (¬ (7 ≤ nrS q s 9 ∧ nrS q s 9 ≤ 55) → ¬ (7 ≤ near q s ∧ near q s ≤ 55)) ∧ -1 ≤ nrS q s 9 ∧ nrS q s 9 ≤ 60 := by
  have a : ∀ (x : Fin 49) (z : Fin 7), ((7 ≤ nrS ((x.val : Nat) + 7 : Int) ((z.val : Nat) : Int) 9 ∧ nrS ((x.val : Nat) + 7 : Int) ((z.val : Nat) : Int) 9 ≤ 55) → near ((x.val : Nat) + 7 : Int) ((z.val : Nat) : Int) = nrS ((x.val : Nat) + 7 : Int) ((z.val : Nat) : Int) 9) ∧ (¬ (7 ≤ nrS ((x.val : Nat) + 7 : Int) ((z.val : Nat) : Int) 9 ∧ nrS ((x.val : Nat) + 7 : Int) ((z.val : Nat) : Int) 9 ≤ 55) → ¬ (7 ≤ near ((x.val : Nat) + 7 : Int) ((z.val : Nat) : Int) ∧ near ((x.val : Nat) + 7 : Int) ((z.val : Nat) : Int) ≤ 55)) ∧ -1 ≤ nrS ((x.val : Nat) + 7 : Int) ((z.val : Nat) : Int) 9 ∧ nrS ((x.val : Nat) + 7 : Int) ((z.val : Nat) : Int) 9 ≤ 60 := by decide +kernel
  have := a ⟨(q - 7).toNat, by omega⟩ ⟨s.toNat, by omega⟩
  rw [show ((((⟨(q - 7).toNat, by omega⟩ : Fin 49).val : Nat) : Int) + 7) = q by show (((q - 7).toNat : Nat) : Int) + 7 = q; omega, show (((⟨s.toNat, by omega⟩ : Fin 7).val : Nat) : Int) = s by show ((s.toNat : Nat) : Int) = s; omega] at this
  exact this
theorem nr_bd {q s : Int} (hq : 7 ≤ q ∧ q ≤ 55) : ∀ j : Nat, j ≤ 9 → -1 ≤ nrS q s j ∧ nrS q s j ≤ 60
  | 0, _ => by unfold nrS; omega
  | j + 1, hj => by
    have := nr_bd (s := s) hq j (by omega)
    unfold nrS
    split <;> omega
theorem kd_nt {x : Int} (hx : -1 ≤ x ∧ x ≤ 64) (h : 0 ≤ stI x) : ntI x / 7 = kdI x ∧ ntI x - ntI x / 7 * 7 = stI x ∧ 0 ≤ ntI x ∧ ntI x ≤ 27 := by
  have k := st_kd hx.1 hx.2 h
  unfold ntI
  rw [if_neg (by omega)]
  omega
theorem x_251 {pt : Int} {l2 l3 l4 : Int32} (hv : MV S) (hn : gNi S < 600) (h : XI Mv M S p o w t y xs) (h2 : y 2 = zI pt) (hpt : 7 ≤ pt ∧ pt ≤ 55) (hQ : ∀ M' : Mem, XI Mv M' S (p + 1) o (some pt) t y xs → Q 0 M') : w_X7_readNote_251 Q (zI ((600 + gNi S : Nat) : Int)) l2 l3 l4 M := by
  unfold w_X7_readNote_251
  intro M27 e27
  rw [zI_in (by omega) (by omega), zI_tn (by omega) (by omega), tn_nat]
  refine ⟨by omega, fun M29 e29 M30 e30 => ?_⟩
  have e60 : M27 60 (600 + gNi S) = zI pt := by
    rw [e27, mset_o (by omega), ← h2]
    exact h.2.1 2 (by omega)
  have r29 := XR_w hv h.1 hpt e60 e27 e29
  have h29 : XI Mv M29 S p o (some pt) t y xs := ⟨r29, fun a ha => by rw [e29, mset_o (by omega), e27, mset_o (by omega)]; exact h.2.1 a ha, fun k hk => by rw [e29, mset_o (by omega), e27, mset_o (by omega)]; exact h.2.2 k hk⟩
  rw [h29.1.2.2.1, lz1, zI_add] at e30
  exact hQ M30 (XI_at (q := p + 1) hv h29 e30)
theorem x_251J {f n : Nat} {l2 l3 l4 : Int32} (hn : n < 600) (h : JS Mv M f) (h24 : M 46 24 = zI p) (hp : p ≤ 4100) (hQ : ∀ M' : Mem, JS Mv M' f → Q 0 M') : w_X7_readNote_251 Q (zI ((600 + n : Nat) : Int)) l2 l3 l4 M := by
  unfold w_X7_readNote_251
  intro M27 e27
  rw [zI_in (by omega) (by omega)]
  refine ⟨by omega, fun M29 e29 M30 e30 => ?_⟩
  have j27 := JS_27 h (Or.inl rfl) e27
  have j29 := JS_set j27 (by unfold kp; omega) (by omega) e29
  have e24 : M29 46 24 = zI p := by rw [e29, mset_j (by omega), e27, mset_j (by omega)]; exact h24
  rw [e24, lz1, zI_add] at e30
  exact hQ M30 (JS_at (q := p + 1) j29 (by omega) e30)
theorem x_readNote (hB : XB Mv c row len) (hv : MV S) (hn : gNi S < 600) (h : XI Mv M S p o w t y xs) (hp : p ≤ c) (hE : ptP (pkF c row) p w < 0 → ∀ M' : Mem, JS Mv M' (p2P (pkF c row) p) → Q 0 M') (hO : 0 ≤ ptP (pkF c row) p w → ∀ M' : Mem, XI Mv M' S (p2P (pkF c row) p + 1) o (some (ptP (pkF c row) p w)) t (yu (yu (yu y 3 (zI (sgI (pkF c row p)))) 4 (zI (kdI (pkF c row (p2P (pkF c row) p))))) 2 (zI (ptP (pkF c row) p w))) xs → Q 0 M') : w_X7_readNote (zI ((600 + gNi S : Nat) : Int)) M Q := by
  have hP := PK_x hB
  have hc := hB.2.1
  have b0 := (hP p).2
  have sb := lSg_bd (pkF c row p)
  have vin1 : vp_in (zI ((600 + gNi S : Nat) : Int)) 1200 := by rw [zI_in (by omega) (by omega)]; omega
  have etn : Int32.toNatClampNeg (zI ((600 + gNi S : Nat) : Int)) = 600 + gNi S := by rw [zI_tn (by omega) (by omega), tn_nat]
  have p1 := p1_le (pk := pkF c row) p
  have p2 := p2_le (pk := pkF c row) p
  have b1 := (hP (p1P (pkF c row) p)).2
  have b2 := (hP (p2P (pkF c row) p)).2
  have obd := ixF_bd lOc (pkF c row (p1P (pkF c row) p))
  have ol : lOc.length = 7 := rfl
  unfold w_X7_readNote
  rw [h.1.2.2.1]
  refine x_peek hB h.1.1 (by omega) (x_signOf ⟨b0.1, b0.2.1⟩ ⟨vin1, fun M6 e6 => ⟨vin1, fun z8 e8 M9 e9 => ?_⟩⟩)
  rw [etn] at e6 e8
  have h6 := XI_f (a := 3) hv h (by omega) e6
  have e61 : M6 61 (600 + gNi S) = zI (sgI (pkF c row p)) := by rw [e6, mset_at]
  have h9 : XI Mv M9 S (p1P (pkF c row) p) o w t (yu y 3 (zI (sgI (pkF c row p)))) xs := by
    refine XI_at hv h6 ?_
    rw [e9, h6.1.2.2.1, e8, e61]
    have k : zI (sgI (pkF c row p)) ≤ 0 ↔ sgI (pkF c row p) ≤ 0 := by rw [lz0, zI_le (by omega) (by omega) (by omega) (by omega)]
    simp only [k]
    unfold p1P
    by_cases g : sgI (pkF c row p) ≤ 0
    · rw [if_pos g, if_pos g, lz0, zI_add, Int.add_zero]
    · rw [if_neg g, if_neg g, lz1, zI_add]; rfl
  rw [h9.1.2.2.1]
  refine x_peek hB h9.1.1 (by omega) (x_fOc hB h9.1.1 (by omega) (fun z14 e14 M15 e15 => ?_))
  have k12 : zI (ixF lOc (pkF c row (p1P (pkF c row) p))) < 0 ↔ ixF lOc (pkF c row (p1P (pkF c row) p)) < 0 := by rw [lz0, zI_lt (by omega) (by omega) (by omega) (by omega)]
  have h15 : XI Mv M15 S (p2P (pkF c row) p) o w t (yu y 3 (zI (sgI (pkF c row p)))) xs := by
    refine XI_at hv h9 ?_
    rw [e15, h9.1.2.2.1, e14]
    simp only [k12]
    unfold p2P
    by_cases g : ixF lOc (pkF c row (p1P (pkF c row) p)) < 0
    · rw [if_pos g, if_pos g, lz0, zI_add, Int.add_zero]
    · rw [if_neg g, if_neg g, lz1, zI_add]; rfl
  rw [h15.1.2.2.1]
  have nb := nt_st ⟨b2.1, b2.2.1⟩
  refine x_peek hB h15.1.1 (by omega) (x_noteOf hB h15.1.1 ⟨b2.1, b2.2.1⟩ ?_)
  rw [h15.1.2.2.1, k12]
  have kn : (0 : Int32) ≤ zI (ntI (pkF c row (p2P (pkF c row) p))) ↔ ¬ stI (pkF c row (p2P (pkF c row) p)) < 0 := by rw [lz0, zI_le (by omega) (by omega) (by omega) (by omega)]; omega
  rw [kn]
  refine ⟨fun gs => ⟨vin1, fun M21 e21 x22 e22 => ?_⟩, fun gs => x_fail h15.1.2.2.2.1 (fun M42 e42 => hE (pt_err (by omega)) M42 (JS_of h15.1 (by omega) (by omega) e42))⟩
  have kk := kd_nt ⟨b2.1, b2.2.1⟩ (by omega)
  have sk := st_kd b2.1 b2.2.1 (by omega)
  rw [etn, lz7, zI_div (by omega) (by omega) (by omega) (by omega), kk.1] at e21
  have h21 := XI_f (a := 4) hv h15 (by omega) e21
  have e22' : x22 = zI (stI (pkF c row (p2P (pkF c row) p))) := by
    rw [e22, lz7, zI_div (by omega) (by omega) (by omega) (by omega), zI_mul, zI_sub, kk.2.1]
  subst e22'
  have fin : ∀ (pt : Int) (l2 l3 l4 : Int32) (M40 : Mem), M40 = mset M21 60 (600 + gNi S) (zI pt) → ptP (pkF c row) p w = pt → 7 ≤ pt ∧ pt ≤ 55 → w_X7_readNote_251 Q (zI ((600 + gNi S : Nat) : Int)) l2 l3 l4 M40 := by
    intro pt l2 l3 l4 M40 e40 ept hpt
    have h40 := XI_f (a := 2) hv h21 (by omega) e40
    rw [ept] at hO
    exact x_251 hv hn h40 (by unfold yu; rw [if_pos rfl]) hpt (hO (by omega))
  refine ⟨fun go => ⟨fun g27 => ?_, fun g27 => ?_⟩, fun go => ⟨vin1, fun M40 e40 => ?_⟩⟩
  · cases w with
    | none =>
      have : M21 46 27 = 1 := h21.1.2.2.2.2.2.1
      exact absurd (this.symm.trans g27) one0
    | some q =>
      obtain ⟨w1, w2, w3, w4⟩ : M21 46 27 = 0 ∧ M21 46 28 = zI q ∧ 7 ≤ q ∧ q ≤ 55 := h21.1.2.2.2.2.2.1
      have nr := nr_near (q := q) (s := stI (pkF c row (p2P (pkF c row) p))) ⟨w3, w4⟩ ⟨by omega, by omega⟩
      have ev : ptP (pkF c row) p (some q) = if 7 ≤ near q (stI (pkF c row (p2P (pkF c row) p))) ∧ near q (stI (pkF c row (p2P (pkF c row) p))) ≤ 55 then near q (stI (pkF c row (p2P (pkF c row) p))) else -1 := by
        unfold ptP
        rw [if_neg gs, if_pos go]
      have key : ∀ (k j : Nat), j + k = 9 → ∀ (l2 l3 : Int32), w_X7_readNote_163 Q (k + 1) (zI ((600 + gNi S : Nat) : Int)) l2 l3 (zI (stI (pkF c row (p2P (pkF c row) p)))) (zI (nrS q (stI (pkF c row (p2P (pkF c row) p))) j)) (zI ((j : Int) - 4)) M21 := by
        intro k
        induction k with
        | zero =>
          intro j hj l2 l3
          have hj9 : j = 9 := by omega
          subst hj9
          show wb_X7_readNote_163 Q (w_X7_readNote_163 Q 0) _ _ _ _ _ _ M21
          unfold wb_X7_readNote_163
          have bad : ∀ (l5 l6 : Int32) (M24 : Mem), M24 = mset M21 60 (600 + gNi S) (zI (nrS q (stI (pkF c row (p2P (pkF c row) p))) 9)) → ¬ (7 ≤ nrS q (stI (pkF c row (p2P (pkF c row) p))) 9 ∧ nrS q (stI (pkF c row (p2P (pkF c row) p))) 9 ≤ 55) → w_X7_readNote_243 Q (zI ((600 + gNi S : Nat) : Int)) l2 l3 (zI (stI (pkF c row (p2P (pkF c row) p)))) l5 l6 M24 := by
            intro l5 l6 M24 e24 g
            have h24 := XI_f (a := 2) hv h21 (by omega) e24
            unfold w_X7_readNote_243
            rw [h24.1.2.2.1]
            refine x_fail h24.1.2.2.2.1 (fun M26 e26 => ?_)
            have j := JS_of (f := p2P (pkF c row) p) h24.1 (by omega) (by omega) e26
            exact x_251J hn j (by rw [e26, mset_j (by omega)]; exact h24.1.2.2.1) (by omega) (hE (by rw [ev, if_neg (nr.2.1 g)]; omega))
          rw [lz4, zI_lt (by omega) (by omega) (by omega) (by omega), etn]
          refine ⟨fun _ => ⟨vin1, fun M24 e24 => ?_⟩, fun z => absurd (by omega) z⟩
          rw [lz7, zI_lt (by omega) (by omega) (by omega) (by omega), lz55, zI_le (by omega) (by omega) (by omega) (by omega)]
          refine ⟨fun g => bad _ _ M24 e24 (by omega), fun g => ⟨fun g2 => fin _ _ _ _ M24 e24 ?_ (by omega), fun g2 => bad _ _ M24 e24 (by omega)⟩⟩
          have := nr.1 ⟨by omega, g2⟩
          rw [ev, this, if_pos (by omega)]
        | succ k ih =>
          intro j hj l2 l3
          have nbd := nr_bd (s := stI (pkF c row (p2P (pkF c row) p))) (q := q) ⟨w3, w4⟩ j (by omega)
          show wb_X7_readNote_163 Q (w_X7_readNote_163 Q (k + 1)) _ _ _ _ _ _ M21
          unfold wb_X7_readNote_163
          have em : (zI q + zI ((j : Int) - 4)) - (zI q + zI ((j : Int) - 4)) / 7 * 7 = zI ((q + ((j : Int) - 4)) % 7) := by
            rw [zI_add, lz7, zI_div (by omega) (by omega) (by omega) (by omega), zI_mul, zI_sub]
            congr 1
            omega
          rw [w2, em, lz4, zI_lt (by omega) (by omega) (by omega) (by omega), zI_eq (by omega) (by omega) (by omega) (by omega), zI_add]
          have en : nrS q (stI (pkF c row (p2P (pkF c row) p))) (j + 1) = if (q + ((j : Int) - 4)) % 7 = stI (pkF c row (p2P (pkF c row) p)) ∧ wnI q (q + ((j : Int) - 4)) = 0 then q + ((j : Int) - 4) else nrS q (stI (pkF c row (p2P (pkF c row) p))) j := rfl
          have e1 : ∀ x : Int32, x = zI ((j : Int) - 4) + 1 → x = zI (((j + 1 : Nat) : Int) - 4) := fun x hx => by
            rw [hx, lz1, zI_add]
            congr 1
            omega
          refine ⟨fun z => by omega, fun _ => ⟨fun g x31 e31 => ?_, fun g => ?_⟩⟩
          · have := ih (j + 1) (by omega) l2 l3
            rw [en, if_neg (fun z => g z.1)] at this
            rw [e1 x31 e31]
            exact this
          · refine x_wnts ⟨by omega, by omega⟩ ⟨by omega, by omega⟩ (fun gw z34 e34 x35 e35 => ?_) (fun gw z34 e34 x35 e35 => ?_)
            · have := ih (j + 1) (by omega) l2 l3
              rw [en, if_pos ⟨g, gw⟩] at this
              rw [if_pos rfl, w2, zI_add] at e34
              rw [e1 x35 e35, e34]
              exact this
            · have := ih (j + 1) (by omega) l2 l3
              rw [en, if_neg (fun z => gw z.2)] at this
              rw [if_neg one0] at e34
              rw [e1 x35 e35, e34]
              exact this
      refine ⟨10, ?_⟩
      have k0 := key 9 0 (by omega) (zI (ixF lOc (pkF c row (p1P (pkF c row) p)))) (zI (ntI (pkF c row (p2P (pkF c row) p))))
      rw [ln1, ln4]
      exact k0
  · have hw : w = none := by
      cases w with
      | none => rfl
      | some q => exact absurd (show M21 46 27 = 0 from (h21.1.2.2.2.2.2.1).1) g27
    rw [h21.1.2.2.1]
    refine x_fail h21.1.2.2.2.1 (fun M38 e38 => ?_)
    have j := JS_of (f := p2P (pkF c row) p) h21.1 (by omega) (by omega) e38
    refine x_251J hn j (by rw [e38, mset_j (by omega)]; exact h21.1.2.2.1) (by omega) (hE ?_)
    rw [hw]
    unfold ptP
    rw [if_neg gs, if_pos go]
    show (-1 : Int) < 0
    omega
  · rw [etn, lz7, lz1, zI_add, zI_mul, zI_add] at e40
    refine fin _ _ _ _ M40 e40 ?_ ⟨by omega, by omega⟩
    unfold ptP
    rw [if_neg gs, if_neg go]
theorem x_dotted (hB : XB Mv c row len) (hv : MV S) (hn : gNi S < 600) (h : XI Mv M S p o w t y xs) (h6 : y 6 = 0) (hp : p ≤ c) (hQ : ∀ M' : Mem, XI Mv M' S (p + dotN (pkF c row) p) o w t (yu y 6 (zI (dotN (pkF c row) p : Int))) xs → Q 0 M') : w_X7_dotted (zI ((600 + gNi S : Nat) : Int)) M Q := by
  have hP := PK_x hB
  have hc := hB.2.1
  have b0 := (hP p).2
  have b1 := (hP (p + 1)).2
  have b2 := (hP (p + 2)).2
  have vin1 : vp_in (zI ((600 + gNi S : Nat) : Int)) 1200 := by rw [zI_in (by omega) (by omega)]; omega
  have etn : Int32.toNatClampNeg (zI ((600 + gNi S : Nat) : Int)) = 600 + gNi S := by rw [zI_tn (by omega) (by omega), tn_nat]
  refine ⟨3, ?_⟩
  show wb_X7_dotted_0 Q (wb_X7_dotted_0 Q (wb_X7_dotted_0 Q (fun _ _ => False))) _ M
  have e64 : M 64 (600 + gNi S) = zI 0 := by rw [← lz0, ← h6]; exact h.2.1 6 (by omega)
  unfold wb_X7_dotted_0
  rw [h.1.2.2.1]
  refine x_peek hB h.1.1 (by omega) ?_
  rw [lz4, zI_eq (by omega) (by omega) (by omega) (by omega), etn, e64, lz2, zI_le (by omega) (by omega) (by omega) (by omega)]
  refine ⟨fun g => ?_, fun g => ⟨vin1, fun z => absurd z (by omega), fun _ => ⟨vin1, vin1, fun M6 e6 M7 e7 => ?_⟩⟩⟩
  · have hd : dotN (pkF c row) p = 0 := by unfold dotN; rw [if_neg g]
    rw [hd] at hQ
    refine hQ M (XI_y h (fun a _ => ?_))
    unfold yu
    by_cases ga : a = 6
    · rw [if_pos ga, ga, h6]; rfl
    · rw [if_neg ga]
  · rw [lz1, zI_add] at e6
    have h6' := XI_f (a := 6) hv h (by omega) e6
    have hin := (hP p).1 (by omega)
    rw [h6'.1.2.2.1, lz1, zI_add] at e7
    have h7 := XI_at (q := p + 1) hv h6' e7
    have e64' : M7 64 (600 + gNi S) = zI 1 := by rw [e7, mset_o (by omega), e6, mset_at]; rfl
    rw [h7.1.2.2.1]
    refine x_peek hB h7.1.1 (by omega) ?_
    rw [zI_eq (by omega) (by omega) (by omega) (by omega), e64', zI_le (by omega) (by omega) (by omega) (by omega)]
    refine ⟨fun g2 => ?_, fun g2 => ⟨vin1, fun z => absurd z (by omega), fun _ => ⟨vin1, vin1, fun M8 e8 M9 e9 => ?_⟩⟩⟩
    · have hd : dotN (pkF c row) p = 1 := by unfold dotN; rw [if_pos g, if_neg g2]
      rw [hd] at hQ
      exact hQ M7 h7
    · rw [lz1, zI_add] at e8
      have h8 := XI_f (a := 6) hv h7 (by omega) e8
      rw [h8.1.2.2.1, lz1, zI_add] at e9
      have h9 := XI_at (q := p + 2) hv h8 e9
      have hd : dotN (pkF c row) p = 2 := by unfold dotN; rw [if_pos g, if_pos g2]
      have e64'' : M9 64 (600 + gNi S) = zI 2 := by rw [e9, mset_o (by omega), e8, mset_at]; rfl
      rw [hd] at hQ
      have fin : Q 0 M9 := hQ M9 (XI_y h9 (fun a _ => by
        unfold yu
        by_cases ga : a = 6
        · rw [if_pos ga, if_pos ga]; rfl
        · rw [if_neg ga, if_neg ga, if_neg ga]))
      rw [h9.1.2.2.1]
      refine x_peek hB h9.1.1 (by omega) ⟨fun _ => fin, fun _ => ⟨vin1, fun _ => fin, fun z => absurd ?_ z⟩⟩
      rw [e64'', zI_le (by omega) (by omega) (by omega) (by omega)]
      omega
end XItem2
