section CItem
variable {M0 M M' : Mem} {S S' : Mus} {c r m p q : Nat} {row : Nat → Int} {o : Bool} {t : Int} {w : Option Int} {Q : Int32 → Mem → Prop}
theorem and27 {x : Int} (h1 : 0 ≤ x) (h2 : x ≤ 64) : zI x &&& 27 = zI ((x.toNat &&& 27 : Nat) : Int) := by
  have a : ∀ y : Fin 65, zI ((y.val : Nat) : Int) &&& 27 = zI ((y.val &&& 27 : Nat) : Int) := by decide +kernel
  have := a ⟨x.toNat, by omega⟩
  rw [show (((⟨x.toNat, by omega⟩ : Fin 65).val : Nat) : Int) = x by show ((x.toNat : Nat) : Int) = x; omega] at this
  exact this
theorem and36 {x : Int} (h1 : 0 ≤ x) (h2 : x ≤ 64) : zI x &&& 36 = zI ((x.toNat &&& 36 : Nat) : Int) := by
  have a : ∀ y : Fin 65, zI ((y.val : Nat) : Int) &&& 36 = zI ((y.val &&& 36 : Nat) : Int) := by decide +kernel
  have := a ⟨x.toNat, by omega⟩
  rw [show (((⟨x.toNat, by omega⟩ : Fin 65).val : Nat) : Int) = x by show ((x.toNat : Nat) : Int) = x; omega] at this
  exact this
theorem and_le (n k : Nat) : ((n &&& k : Nat) : Int) ≤ k := by
  have : n &&& k ≤ k := Nat.and_le_right
  omega
theorem e_near {q s : Int} (hq : 7 ≤ q ∧ q ≤ 55) (hs : 0 ≤ s ∧ s ≤ 6) (h0 : M 41 0 = zI q) (hQ : Q (zI (near q s)) M) : w_X1_nearest 41 (zI s) M Q := by
  unfold w_X1_nearest
  intro x1 e1
  rw [h0, lz7, zI_div (by omega) (by omega) (by omega) (by omega), zI_mul, zI_add] at e1
  subst e1
  rw [h0]
  unfold near at hQ
  refine e_isLeap (by omega) (by omega) (fun g => ⟨fun _ z4 e4 => ?_, fun z => absurd z (by decide)⟩) (fun g => ⟨fun z => absurd rfl z, fun _ => ?_⟩)
  · rw [if_pos ((leapB_iff _ _).mpr g)] at hQ
    rw [h0, lz7, zI_add, zI_sub] at e4
    have k : zI (q / 7 * 7 + s) ≤ zI q ↔ q / 7 * 7 + s ≤ q := by rw [zI_le (by omega) (by omega) (by omega) (by omega)]
    simp only [k] at e4
    by_cases g2 : q / 7 * 7 + s ≤ q
    · rw [if_pos g2] at e4 hQ
      rw [e4]; exact hQ
    · rw [if_neg g2] at e4 hQ
      rw [e4]; exact hQ
  · rw [if_neg (fun z => g ((leapB_iff _ _).mp z))] at hQ
    exact hQ
theorem near_bd {q s : Int} (hq : 7 ≤ q ∧ q ≤ 55) (hs : 0 ≤ s ∧ s ≤ 6) : 0 ≤ near q s ∧ near q s ≤ 70 := by
  unfold near
  split
  · split <;> omega
  · omega
theorem e_readNote (hB : CB M0 r m c row) (hv : MV S) (hl : ¬ lastS S < 0) (hi : gNi S < 600) (ht : -1 ≤ t ∧ t ≤ 1) (h : CRt M0 M r m S p o t w) (hp : p ≤ c) (hE : ptP (pkF c row) p w < 0 → ∀ M' : Mem, CE M0 M' m (p2P (pkF c row) p) → Q 0 M') (hO : 0 ≤ ptP (pkF c row) p w → ∀ M' : Mem, CRt M0 M' r m (sAdd S (ptP (pkF c row) p w, sgI (pkF c row p), kdI (pkF c row (p2P (pkF c row) p)), t, (dotN (pkF c row) (p2P (pkF c row) p + 1) : Int), 0, 0, [])) (p2P (pkF c row) p + 1 + dotN (pkF c row) (p2P (pkF c row) p + 1)) o t (some (ptP (pkF c row) p w)) → Q 1 M') : w_X3_readNote r m M Q := by
  have hP := PK_pkF hB
  have hc := hB.2.2.2.2.1
  have hm := CB_m hB
  have b0 := (hP p).2
  unfold w_X3_readNote
  refine e_peek hB h.1 hp (tb_Sg (CF_TB hB h.1.1) (by omega) (fun x5 e5 z6 e6 M7 e7 => ?_))
  have sb := lSg_bd (pkF c row p)
  have e5' : x5 = zI (sgI (pkF c row p)) := by rw [e5, lz1, zI_add]; rfl
  subst e5'
  have p1 := p1_le (pk := pkF c row) p
  have hp1 : p1P (pkF c row) p ≤ c := by
    unfold p1P
    split
    · exact hp
    · next g =>
      have := (hP p).1 (fun z => by rw [z] at g; exact g (by decide))
      omega
  have h7 : CRt M0 M7 r m S (p1P (pkF c row) p) o t w := by
    refine CRt_at hB h ?_
    rw [e7, h.1.2.2.2.1, e6]
    have k : zI (sgI (pkF c row p)) ≤ 0 ↔ sgI (pkF c row p) ≤ 0 := by rw [lz0, zI_le (by omega) (by omega) (by omega) (by omega)]
    simp only [k]
    unfold p1P
    by_cases g : sgI (pkF c row p) ≤ 0
    · rw [if_pos g, if_pos g, lz0, zI_add, Int.add_zero]
    · rw [if_neg g, if_neg g, lz1, zI_add]; rfl
  have b1 := (hP (p1P (pkF c row) p)).2
  have ob := ixF_bd lOc (pkF c row (p1P (pkF c row) p))
  have ol : lOc.length = 7 := rfl
  refine e_peek hB h7.1 hp1 (tb_Oc (CF_TB hB h7.1.1) (by omega) (fun x12 e12 z13 e13 M14 e14 => ?_))
  have e12' : x12 = zI (ixF lOc (pkF c row (p1P (pkF c row) p)) + 1) := by rw [e12, lz1, zI_add]
  subst e12'
  have p2 := p2_le (pk := pkF c row) p
  have hp2 : p2P (pkF c row) p ≤ c := by
    unfold p2P
    split
    · exact hp1
    · next g =>
      have := (hP (p1P (pkF c row) p)).1 (fun z => by rw [z, m1_Oc] at g; omega)
      omega
  have k12 : zI (ixF lOc (pkF c row (p1P (pkF c row) p)) + 1) ≤ 0 ↔ ixF lOc (pkF c row (p1P (pkF c row) p)) < 0 := by rw [lz0, zI_le (by omega) (by omega) (by omega) (by omega)]; omega
  have k12' : zI (ixF lOc (pkF c row (p1P (pkF c row) p)) + 1) = 0 ↔ ixF lOc (pkF c row (p1P (pkF c row) p)) < 0 := by rw [lz0, zI_eq (by omega) (by omega) (by omega) (by omega)]; omega
  have h14 : CRt M0 M14 r m S (p2P (pkF c row) p) o t w := by
    refine CRt_at hB h7 ?_
    rw [e14, h7.1.2.2.2.1, e13]
    simp only [k12]
    unfold p2P
    by_cases g : ixF lOc (pkF c row (p1P (pkF c row) p)) < 0
    · rw [if_pos g, if_pos g, lz0, zI_add, Int.add_zero]
    · rw [if_neg g, if_neg g, lz1, zI_add]; rfl
  have b2 := (hP (p2P (pkF c row) p)).2
  refine e_peek hB h14.1 hp2 ?_
  rw [ln1, zI_eq (by omega) (by omega) (by omega) (by omega)]
  -- behind the step
  have fin : ∀ (s : Int) (Mx : Mem), CRt M0 Mx r m S (p2P (pkF c row) p) o t w → s = stI (pkF c row (p2P (pkF c row) p)) → w_X3_readNote_86 r m Q (zI (sgI (pkF c row p))) (zI (ixF lOc (pkF c row (p1P (pkF c row) p)) + 1)) (zI (pkF c row (p2P (pkF c row) p))) (zI s) Mx := by
    intro s Mx hx hs
    have sbd : -1 ≤ s ∧ s ≤ 6 := by
      rcases Int.lt_or_le s 0 with g | g
      · rw [hs] at g ⊢
        unfold stI at g ⊢
        split
        · omega
        · next g2 =>
          rw [if_neg g2] at g
          have := ixF_bd lSt (((pkF c row (p2P (pkF c row) p)).toNat &&& 27 : Nat) : Int)
          omega
      · have := st_kd (hP (p2P (pkF c row) p)).2.1 (hP (p2P (pkF c row) p)).2.2.1 (by rw [← hs]; exact g)
        omega
    unfold w_X3_readNote_86
    have ks : zI s < 0 ↔ s < 0 := by rw [lz0, zI_lt (by omega) (by omega) (by omega) (by omega)]
    rw [ks, k12']
    have pitch : ∀ (pt : Int) (My : Mem), 0 ≤ s → 0 ≤ pt → pt ≤ 100 → CRt M0 My r m S (p2P (pkF c row) p) o t w → ((7 ≤ pt ∧ pt ≤ 55) → ptP (pkF c row) p w = pt) → (¬ (7 ≤ pt ∧ pt ≤ 55) → ptP (pkF c row) p w < 0) → w_X3_readNote_132 r m Q (zI (sgI (pkF c row p))) (zI (ixF lOc (pkF c row (p1P (pkF c row) p)) + 1)) (zI (pkF c row (p2P (pkF c row) p))) (zI s) (zI pt) My := by
      intro pt My hs0 pb1 pb2 hy hyes hno
      have sk := st_kd (hP (p2P (pkF c row) p)).2.1 (hP (p2P (pkF c row) p)).2.2.1 (by rw [← hs]; exact hs0)
      have hin := (hP (p2P (pkF c row) p)).1 (by omega)
      unfold w_X3_readNote_132
      refine e_isPitch2 (by omega) (fun g1 g2 => ⟨fun _ => ?_, fun z => absurd z (by decide)⟩) (fun g => ⟨fun z => absurd rfl z, fun _ => hE (hno g) My (CE_of hy.1)⟩)
      have ept := hyes ⟨g1, g2⟩
      intro M1 e1 M2 e2 M25 e25
      have h1 := CR0_41 hB hy.1 e1
      have h2 := CR0_41 hB h1 e2
      have h2w : WT M2 41 (some pt) := ⟨by rw [e2, mset_at], by rw [e2, mset_j (by omega), e1, mset_at], g1, g2⟩
      have h2t : M2 40 6 = zI t := by rw [e2, mset_o (by omega), e1, mset_o (by omega)]; exact hy.2.1
      rw [h2.2.2.2.1, lz1, zI_add] at e25
      have h25 := CRt_at (q := p2P (pkF c row) p + 1) hB ⟨h2, h2t, h2w⟩ e25
      rw [and36 sk.1 b2.2.1]
      have al := and_le (pkF c row (p2P (pkF c row) p)).toNat 36
      refine tb_Kd (CF_TB hB h25.1.1) (by omega) ⟨h25.1.2.2.1, ?_⟩
      have ek : ixF lKd (((pkF c row (p2P (pkF c row) p)).toNat &&& 36 : Nat) : Int) = kdI (pkF c row (p2P (pkF c row) p)) := rfl
      rw [ek, h25.2.1]
      refine e_dots hB h25 (by omega) (fun M30 h30 => ?_)
      refine e_addItem h30.1.2.2.2.2.2 hv hl hi (fun M32 w32 o32 z33 e33 => ?_)
      have h32 := CRt_mus hB h30 w32 o32
      rw [sAdd_item, ← ept] at h32
      have hni : ¬ zI (gNi S : Int) = -1 := by rw [ln1, zI_eq (by omega) (by omega) (by omega) (by omega)]; omega
      rw [if_neg hni] at e33
      subst e33
      exact ⟨Or.inr rfl, hO (by omega) M32 h32⟩
    refine ⟨fun g => hE ?_ Mx (CE_of hx.1), fun g => ?_⟩
    · unfold ptP
      rw [if_pos (by rw [← hs]; exact g)]
      omega
    · have sk := st_kd (hP (p2P (pkF c row) p)).2.1 (hP (p2P (pkF c row) p)).2.2.1 (by rw [← hs]; omega)
      have oct : ¬ ixF lOc (pkF c row (p1P (pkF c row) p)) < 0 → w_X3_readNote_109 r m Q (zI (sgI (pkF c row p))) (zI (ixF lOc (pkF c row (p1P (pkF c row) p)) + 1)) (zI (pkF c row (p2P (pkF c row) p))) (zI s) Mx := by
        intro go
        unfold w_X3_readNote_109
        rw [k12, lz7, zI_mul, zI_add]
        have ev : ptP (pkF c row) p w = (ixF lOc (pkF c row (p1P (pkF c row) p)) + 1) * 7 + s := by
          unfold ptP
          rw [if_neg (by rw [← hs]; exact g), if_neg go, ← hs]
          omega
        refine ⟨fun z => absurd z go, fun _ => pitch _ Mx (by omega) (by omega) (by omega) hx (fun _ => ev) (fun z => by omega)⟩
      refine ⟨fun g2 => oct g2, fun g2 => ?_⟩
      cases hw : w with
      | none =>
        rw [hw] at hx
        have h41 : ¬ Mx 41 1 = 0 := hx.2.2
        refine ⟨fun z => absurd z h41, fun _ => hE ?_ Mx (CE_of hx.1)⟩
        rw [hw]
        unfold ptP
        rw [if_neg (by rw [← hs]; exact g), if_pos g2]
        show (-1 : Int) < 0
        omega
      | some q =>
        rw [hw] at hx
        obtain ⟨w1, w2, w3, w4⟩ : Mx 41 1 = 0 ∧ Mx 41 0 = zI q ∧ 7 ≤ q ∧ q ≤ 55 := hx.2.2
        refine ⟨fun _ => ?_, fun z => absurd w1 z⟩
        unfold w_X3_readNote_109
        rw [k12]
        refine ⟨fun _ => e_near ⟨w3, w4⟩ ⟨by omega, by omega⟩ w2 ?_, fun z => absurd g2 z⟩
        have nb := near_bd (s := s) ⟨w3, w4⟩ ⟨by omega, by omega⟩
        have ev : ptP (pkF c row) p w = if 7 ≤ near q s ∧ near q s ≤ 55 then near q s else -1 := by
          rw [hw]
          unfold ptP
          rw [if_neg (by rw [← hs]; exact g), if_pos g2, ← hs]
        have hx' : CRt M0 Mx r m S (p2P (pkF c row) p) o t w := by rw [hw]; exact hx
        exact pitch (near q s) Mx (by omega) nb.1 (by omega) hx' (fun z => by rw [ev, if_pos z]) (fun z => by rw [ev, if_neg z]; omega)
  refine ⟨fun g => ?_, fun g => ?_⟩
  · have hx0 : 0 ≤ pkF c row (p2P (pkF c row) p) := by omega
    rw [and27 hx0 b2.2.1]
    have al := and_le (pkF c row (p2P (pkF c row) p)).toNat 27
    refine tb_St (CF_TB hB h14.1.1) (by omega) (fin _ M14 h14 ?_)
    unfold stI
    rw [if_neg (by omega)]
  · refine fin (-1) M14 h14 ?_
    rw [g]
    decide
end CItem
