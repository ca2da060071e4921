section XRun
variable {M0 M M' : Mem} {S S' : Mus} {c p q s n p' : Nat} {row : Nat → Int} {len : Int} {o o' : Bool} {t : Int} {w w' : Option Int} {Q Qx : Int32 → Mem → Prop}
theorem end_shape {pk : Nat → Int} (h : endV pk p o S s = .ok S') : gNb S' = gNb S ∧ gVo S' = gVo S ∧ gLen S' = gLen S ∧ ¬ (o = true ∧ pk p = 35 ∧ pk (p + 1) = 28) := by
  by_cases h1 : o = true ∧ pk p = 35 ∧ pk (p + 1) = 28
  · rw [endV_1 h1] at h
    exact absurd h (by simp)
  · by_cases h2 : isLn S s
    · rw [endV_2 h1 h2] at h
      simp only [Except.ok.injEq] at h
      subst h
      exact ⟨rfl, rfl, rfl, h1⟩
    · by_cases h3 : okS (smf S (gFo S s)) (ldG S (gFo S s) (gSz S s) 0) (nxS (wS S (gFo S s)) (gSz S s) (ldG S (gFo S s) (gSz S s) 0)) (suR S (gFo S s) (gSz S s) (ldG S (gFo S s) (gSz S s) 0))
      · rw [endV_3 h1 h2 rfl h3] at h
        simp only [Except.ok.injEq] at h
        subst h
        exact ⟨rfl, rfl, rfl, h1⟩
      · rw [endV_4 h1 h2 rfl h3] at h
        exact absurd h (by simp)
theorem vo_shape {pk : Nat → Int} : ∀ (k n p : Nat) (o : Bool) (t : Int) (w : Option Int) (S : Mus), voP pk s k n p o t w S = .ok (p', o', w', S') → gNb S' = gNb S ∧ gVo S' = gVo S ∧ gLen S' = gLen S ∧ ¬ (o' = true ∧ pk p' = 35 ∧ pk (p' + 1) = 28) := by
  intro k
  induction k with
  | zero =>
    intro n p o t w S h
    unfold voP at h
    exact absurd h (by simp)
  | succ k ih =>
    intro n p o t w S h
    unfold voP at h
    split at h
    · cases he : endV pk p o S s with
      | error e => rw [he] at h; exact absurd h (by simp)
      | ok S1 =>
        rw [he] at h
        simp only [Except.ok.injEq, Prod.mk.injEq] at h
        obtain ⟨rfl, rfl, rfl, rfl⟩ := h
        exact end_shape he
    · split at h
      · exact absurd h (by simp)
      · cases hi : itemP pk (gHd S) p o t w with
        | error e => rw [hi] at h; exact absurd h (by simp)
        | ok x =>
          obtain ⟨p1, o1, t1, w1, d⟩ := x
          rw [hi] at h
          simp only at h
          exact ih _ _ _ _ _ (sAdd S d) h
theorem vc_shape {pk : Nat → Int} (hl : ¬ lastS S < 0) (h : vcP pk p o w S = .ok (p', o', w', S')) : gNb S' = gNb S ∧ gVo S' = gVo S ∧ gLen S' = gLen S ∧ ¬ (o' = true ∧ pk p' = 35 ∧ pk (p' + 1) = 28) := by
  unfold vcP at h
  rw [if_neg hl] at h
  exact vo_shape _ _ _ _ _ _ _ h
def XC (M0 M : Mem) (S : Mus) (p : Nat) (o : Bool) (w : Option Int) : Prop := RG M0 M ∧ RI M S ∧ M 46 24 = zI p ∧ M 46 25 = -1 ∧ M 46 26 = bI o ∧ RWT M w
def BN (M : Mem) (S : Mus) (n : Nat) : Prop := M 53 1 = zI n ∧ ∀ b : Nat, b < n → M 57 (60 + b) = zI (gVo S b) ∧ M 56 (60 + b) = zI (if gVo S b = 0 then 1 else 0)
theorem BN_far (h : BN M S n) (e3 : M' 53 1 = M 53 1) (e : ∀ b : Nat, b < n → M' 57 (60 + b) = M 57 (60 + b) ∧ M' 56 (60 + b) = M 56 (60 + b)) : BN M' S n := ⟨by rw [e3]; exact h.1, fun b hb => by rw [(e b hb).1, (e b hb).2]; exact h.2 b hb⟩
theorem BN_46 {j : Nat} {v : Int32} (h : BN M S n) (e : M' = mset M 46 j v) : BN M' S n := BN_far h (by rw [e, mset_o (by omega)]) (fun b _ => ⟨by rw [e, mset_o (by omega)], by rw [e, mset_o (by omega)]⟩)
theorem XC_set {a b : Nat} {v : Int32} (hv : MV S) (h : XC M0 M S p o w) (h1 : ¬ kp0 a b) (h2 : ¬ ri (gNi S) a b) (h3 : ¬ a = 46) (e : M' = mset M a b v) : XC M0 M' S p o w := by
  obtain ⟨x1, x2, x3, x4, x5, x6⟩ := h
  have e46 : M' 46 = M 46 := by rw [e, mset_o (fun z => h3 z.symm)]
  exact ⟨RG_set x1 h1 e, RI_set hv x2 h2 e, by rw [e46]; exact x3, by rw [e46]; exact x4, by rw [e46]; exact x5, RWT_of x6 (by rw [e46]) (by rw [e46])⟩
theorem XC_at (hv : MV S) (h : XC M0 M S p o w) (e : M' = mset M 46 24 (zI q)) : XC M0 M' S q o w := by
  obtain ⟨x1, x2, x3, x4, x5, x6⟩ := h
  exact ⟨RG_set x1 (by unfold kp0; omega) e, RI_set hv x2 (by unfold ri; omega) e, by rw [e, mset_at], by rw [e, mset_j (by omega)]; exact x4, by rw [e, mset_j (by omega)]; exact x5, RWT_of x6 (by rw [e, mset_j (by omega)]) (by rw [e, mset_j (by omega)])⟩
theorem XC_27 {v : Int32} (hv : MV S) (h : XC M0 M S p o w) (hw : RWT M' w') (e : M' = mset M 46 27 v) : XC M0 M' S p o w' := by
  obtain ⟨x1, x2, x3, x4, x5, x6⟩ := h
  exact ⟨RG_set x1 (by unfold kp0; omega) e, RI_set hv x2 (by unfold ri; omega) e, by rw [e, mset_j (by omega)]; exact x3, by rw [e, mset_j (by omega)]; exact x4, by rw [e, mset_j (by omega)]; exact x5, hw⟩
theorem XC_JF {f : Nat} (h : XC M0 M S p o w) (hp : p ≤ 4100) (hf : f ≤ 4100) (e : M' = mset M 46 25 (zI f)) : JF M0 M' f := JF_fail h.1 h.2.2.1 (RWT_01 h.2.2.2.2.2) hp hf e
theorem or_0 {a : Int32} (h : b01 a) : a ||| 0 = a := by rcases h with rfl | rfl <;> decide
theorem or_1 {a : Int32} (h : b01 a) : a ||| 1 = 1 := by rcases h with rfl | rfl <;> decide
theorem x_qb {f : Nat} {v : Int32} (hB : XB M0 c row len) (hv : MV S) (h : XC M0 M S p o w) (hN : BN M S (gNb S)) (hp : p ≤ c) (hE : ((c ≤ p ∧ o = true) ∨ (p < c ∧ ¬ pkF c row p = 0 ∧ ¬ pkF c row p = 64)) → ∀ M' : Mem, JF M0 M' p → Q (zI (-10 - (p : Int))) M') (hD : c ≤ p → o = false → w_X7_read_206 Q 0 M) (hG : (pkF c row p = 0 ∨ pkF c row p = 64) → ∀ M' : Mem, XC M0 M' S (p + 1) o (if pkF c row p = 64 then none else w) → BN M' S (gNb S) → w_X7_read_99 Q (f + 1) 1 M') : QB Q (w_X7_read_99 Q (f + 1)) v M := by
  have hc := hB.2.1
  have hP := PK_x hB
  have b0 := (hP p).2
  have bin := (hP p).1
  unfold QB
  rw [h.2.2.1]
  refine x_peek (XB_0 hB h.1) RF_rf (by omega) (fun z38 e38 => ?_)
  have k0 : zI (pkF c row p) = 0 ↔ pkF c row p = 0 := by rw [lz0, zI_eq (by omega) (by omega) (by omega) (by omega)]
  have k64 : zI (pkF c row p) = 64 ↔ pkF c row p = 64 := by rw [lz64, zI_eq (by omega) (by omega) (by omega) (by omega)]
  have k1 : zI (pkF c row p) = -1 ↔ pkF c row p = -1 := by rw [ln1, zI_eq (by omega) (by omega) (by omega) (by omega)]
  rw [h.2.2.2.1, if_neg (by decide)] at e38
  simp only [k0, k64] at e38
  by_cases g : pkF c row p = 0 ∨ pkF c row p = 64
  · have e38' : z38 = 1 := by
      rw [e38]
      by_cases g0 : pkF c row p = 0
      · rw [if_pos g0]
      · rw [if_neg g0, if_pos (by omega)]
    subst e38'
    refine ⟨fun z => absurd z one0, fun _ z43 e43 => ?_⟩
    simp only [k64] at e43
    have h27 := RWT_01 h.2.2.2.2.2
    have h43 : b01 z43 := by
      rw [e43]
      split
      · exact Or.inr rfl
      · exact Or.inl rfl
    refine ⟨(or_b h27 h43).2, fun M45 e45 M46 e46 => ?_⟩
    have h45 : XC M0 M45 S p o (if pkF c row p = 64 then none else w) := by
      refine XC_27 hv h ?_ e45
      by_cases g6 : pkF c row p = 64
      · rw [if_pos g6]
        rw [if_pos g6] at e43
        show M45 46 27 = 1
        rw [e45, mset_at, e43, or_1 h27]
      · rw [if_neg g6]
        rw [if_neg g6] at e43
        refine RWT_of h.2.2.2.2.2 ?_ (by rw [e45, mset_j (by omega)])
        rw [e45, mset_at, e43, or_0 h27]
    rw [h45.2.2.1, lz1, zI_add] at e46
    exact hG g M46 (XC_at (q := p + 1) hv h45 e46) (BN_46 (BN_46 hN e45) e46)
  · rw [if_neg (by omega), if_neg (by omega)] at e38
    subst e38
    rw [h.2.2.1, k1, h.2.2.2.2.1]
    have bad : ((c ≤ p ∧ o = true) ∨ (p < c ∧ ¬ pkF c row p = 0 ∧ ¬ pkF c row p = 64)) → w_X7_fail (zI (p : Int)) M (fun _ M' => w_X7_read_99 Q (f + 1) 0 M') := fun gb => x_fail h.2.2.2.1 (fun M' e' => x_99J (XC_JF h (by omega) (by omega) e') (hE gb))
    refine ⟨fun _ => ⟨fun g1 => bad (Or.inr ⟨bin g1, by omega, by omega⟩), fun g1 => ⟨fun g2 => ?_, fun g2 => bad (Or.inl ⟨?_, ?_⟩)⟩⟩, fun z => absurd rfl z⟩
    · show wb_X7_read_99 Q (w_X7_read_99 Q f) _ M
      unfold wb_X7_read_99
      have hcp : c ≤ p := by
        rcases Nat.lt_or_ge p c with z | z
        · have := hB.2.2.1 p z
          unfold pkF at g1
          rw [if_pos z] at g1
          omega
        · exact z
      exact ⟨fun _ => hD hcp (bI_0.mp g2), fun z => absurd rfl z⟩
    · rcases Nat.lt_or_ge p c with z | z
      · have := hB.2.2.1 p z
        unfold pkF at g1
        rw [if_pos z] at g1
        omega
      · exact z
    · cases o with
      | true => rfl
      | false => exact absurd rfl g2
theorem x_vloop {f : Nat} (hB : XB M0 c row len) (hlen : len = gLen S) (hS : SV S) (hl : ¬ lastS S < 0) (h : XC M0 M S p o w) (hN : BN M S (gNb S - 1)) (h56 : M 56 (60 + (gNb S - 1)) = zI 0) (h57 : M 57 (60 + (gNb S - 1)) = zI ((gVo S (gNb S - 1) : Int) - 1)) (hp : p ≤ c) (hJ : ∀ e : Nat, vcP (pkF c row) p o w S = .error e → ∀ M' : Mem, JF M0 M' e → Qx 0 M') (hSf : ∀ e : Nat, vcP (pkF c row) p o w S = .error e → ∀ M' : Mem, SF c row M0 M' e → Qx 0 M') (hA : ∀ (p2 : Nat) (o2 : Bool) (w2 : Option Int) (S2 : Mus), vcP (pkF c row) p o w S = .ok (p2, o2, w2, S2) → ∀ M' : Mem, XC M0 M' S2 p2 o2 w2 → BN M' S2 (gNb S2 - 1) → M' 56 (60 + (gNb S2 - 1)) = zI 0 → M' 57 (60 + (gNb S2 - 1)) = zI (gVo S2 (gNb S2 - 1) : Int) → w_X7_readBar_153 Qx (w_X7_readBar_100 Qx (f + 1)) (zI ((gNb S2 : Int) - 1)) (zI ((60 + (gNb S2 - 1) : Nat) : Int)) 1 M') : w_X7_readBar_100 Qx (f + 2) (zI ((gNb S : Int) - 1)) (zI ((60 + (gNb S - 1) : Nat) : Int)) 1 M := by
  have hv := hS.1
  obtain ⟨l1, l2, l3⟩ := lastS_sp hl
  have v3 := hv.2.2.2.2.1 (gNb S - 1) l1
  have vnb := hv.2.2.1
  have hc := hB.2.1
  have vin : vp_in (zI ((60 + (gNb S - 1) : Nat) : Int)) 120 := by rw [zI_in (by omega) (by omega)]; omega
  show wb_X7_readBar_100 Qx (w_X7_readBar_100 Qx (f + 1)) _ _ _ M
  unfold wb_X7_readBar_100
  rw [h.2.2.2.1, zI_tn (by omega) (by omega), tn_nat, h57, lz3, zI_eq (by omega) (by omega) (by omega) (by omega)]
  refine ⟨fun z => absurd z one0, fun _ => ⟨fun z => absurd z (by decide), fun _ => ⟨vin, fun _ => ⟨vin, ?_⟩, fun z => by omega⟩⟩⟩
  refine x_voiceR (Mv := M) (XB_0 hB h.1) hlen hS hl ⟨RF_rf, h.2⟩ hp (fun e he M21 j => ⟨vin, vin, fun M24 e24 => ?_⟩) (fun p2 o2 w2 S2 hx M21 h21 => ⟨vin, vin, fun M24 e24 => ?_⟩)
  · rcases j with j | ⟨S3, o3, w3, t3, j, g0, g64, g1, g35⟩
    · exact x_153J (by omega) (JF_set (JF_of h.1 j) (by unfold kp0; omega) (by omega) e24) (hJ e he)
    · have hin := (PK_x hB e).1 g1
      have hsf : SF c row M0 M21 e := ⟨RG_RF h.1 j.1, j.2.2.1, j.2.2.2.1, RWT_01 j.2.2.2.2.2.1, by omega, g0, g64, g1, g35⟩
      exact x_153S hB (by omega) (SF_set hsf (by unfold kp0; omega) (by omega) e24) (hSf e he)
  · obtain ⟨s1, s2, s3, s4⟩ := vc_shape hl hx
    obtain ⟨r1, r2⟩ := h21
    have k := vc_sp (PK_x hB) hS (okW_RWT h.2.2.2.2.2) hp hx
    have x21 : XC M0 M21 S2 p2 o2 w2 := ⟨RG_RF h.1 r1, r2⟩
    have e57 : M21 57 (60 + (gNb S - 1)) = zI ((gVo S (gNb S - 1) : Int) - 1) := by rw [r1 57 _ (by unfold kp; omega)]; exact h57
    rw [e57, lz1, zI_add] at e24
    have x24 := XC_set k.2.2.2.1.1 x21 (by unfold kp0; omega) (by unfold ri; omega) (by omega) e24
    have hb2 := hA p2 o2 w2 S2 hx M24 x24
    rw [s1, s2] at hb2
    refine hb2 ⟨?_, fun b hb => ?_⟩ ?_ ?_
    · rw [e24, mset_o (by omega), r1 53 1 (by unfold kp; omega)]
      exact hN.1
    · rw [e24, mset_j (by omega), mset_o (by omega), r1 57 _ (by unfold kp; omega), r1 56 _ (by unfold kp; omega), s2]
      exact hN.2 b hb
    · rw [e24, mset_o (by omega), r1 56 _ (by unfold kp; omega)]
      exact h56
    · rw [e24, mset_at]
      congr 1
      omega
theorem x_233N {l1 l3 : Int32} (hv : MV S) (hnb : 0 < gNb S) (hvo : 0 < gVo S (gNb S - 1)) (h : XC M0 M S p o w) (hN : BN M S (gNb S - 1)) (h56 : M 56 (60 + (gNb S - 1)) = zI 0) (h57 : M 57 (60 + (gNb S - 1)) = zI (gVo S (gNb S - 1) : Int)) (hQ : ∀ M' : Mem, XC M0 M' S p o (entS S (gNb S) w) → BN M' S (gNb S) → Qx 0 M') : w_X7_readBar_233 Qx l1 (zI ((60 + (gNb S - 1) : Nat) : Int)) l3 M := by
  have v3 := hv.2.2.2.2.1 (gNb S - 1) (by omega)
  have vnb := hv.2.2.1
  have h27 := RWT_01 h.2.2.2.2.2
  unfold w_X7_readBar_233
  rw [zI_tn (by omega) (by omega), tn_nat, h57]
  refine ⟨by rw [zI_in (by omega) (by omega)]; omega, fun z11 e11 => ?_⟩
  have k1 : zI (gVo S (gNb S - 1) : Int) ≤ 1 ↔ gVo S (gNb S - 1) ≤ 1 := by rw [lz1, zI_le (by omega) (by omega) (by omega) (by omega)]; omega
  simp only [k1] at e11
  have h11 : b01 z11 := by
    rw [e11]
    split
    · exact Or.inl rfl
    · exact Or.inr rfl
  refine ⟨(or_b h27 h11).2, fun M13 e13 => ⟨vi1, vi1, fun M16 e16 => ?_⟩⟩
  have h13 : XC M0 M13 S p o (entS S (gNb S) w) := by
    refine XC_27 hv h ?_ e13
    unfold entS
    by_cases g : gVo S (gNb S - 1) ≤ 1
    · rw [if_pos g] at e11
      rw [if_pos ⟨hnb, by omega⟩]
      refine RWT_of h.2.2.2.2.2 ?_ (by rw [e13, mset_j (by omega)])
      rw [e13, mset_at, e11, or_0 h27]
    · rw [if_neg g] at e11
      rw [if_neg (by omega)]
      show M13 46 27 = 1
      rw [e13, mset_at, e11, or_1 h27]
  have n13 := BN_46 hN e13
  rw [tc1, n13.1, lz1, zI_add] at e16
  refine hQ M16 (XC_set hv h13 (by unfold kp0; omega) (by unfold ri; omega) (by omega) e16) ⟨?_, fun b hb => ?_⟩
  · rw [e16, mset_at]
    congr 1
    omega
  · rw [e16, mset_o (by omega), mset_o (by omega)]
    by_cases g : b = gNb S - 1
    · subst g
      rw [e13, mset_o (by omega), mset_o (by omega), h57, h56, if_neg (by omega)]
      exact ⟨rfl, rfl⟩
    · exact n13.2 b (by omega)
end XRun
