section ZZop
variable {M0 M M' : Mem} {S S' : Mus} {c p q r m : Nat} {row : Nat → Int} {Q : Int32 → Mem → Prop} {K : Int32 → Int32 → Mem → Prop} {R : Int32 → Mem → Prop}
theorem vc_len {pk : Nat → Int} {p p' : Nat} {o o' : Bool} {w w' : Option Int} (h : vcP pk p o w S = .ok (p', o', w', S')) : gLen S' = gLen S := by
  by_cases hl : lastS S < 0
  · unfold vcP at h
    rw [if_pos hl] at h
    simp only [Except.ok.injEq, Prod.mk.injEq] at h
    obtain ⟨-, -, -, rfl⟩ := h
    rfl
  · exact (vc_shape hl h).2.2.1
theorem bar_len {pk : Nat → Int} {p p' : Nat} {o : Bool} (h : barP pk p o S = .ok (p', S')) : gLen S' = gLen S := by
  unfold barP at h
  split at h
  · exact absurd h (by simp)
  · split at h
    · simp only [Except.ok.injEq, Prod.mk.injEq] at h
      obtain ⟨-, rfl⟩ := h
      rfl
    · simp only [Except.ok.injEq, Prod.mk.injEq] at h
      obtain ⟨-, rfl⟩ := h
      rfl
theorem next_len {pk : Nat → Int} {p p' : Nat} {o : Bool} {w w' : Option Int} (h : nextP pk p o w S = .ok (p', w', S')) : gLen S' = gLen S := by
  unfold nextP at h
  split at h
  · cases hb : barP pk (p + 1) o S with
    | error e => rw [hb] at h; exact absurd h (by simp)
    | ok x =>
      obtain ⟨p1, S1⟩ := x
      rw [hb] at h
      simp only [Except.ok.injEq, Prod.mk.injEq] at h
      obtain ⟨-, -, rfl⟩ := h
      exact bar_len hb
  · split at h
    · exact absurd h (by simp)
    · split at h
      · simp only [Except.ok.injEq, Prod.mk.injEq] at h
        obtain ⟨-, -, rfl⟩ := h
        rfl
      · exact absurd h (by simp)
theorem run_len {pk : Nat → Int} : ∀ (k p : Nat) (o : Bool) (w : Option Int) (S : Mus), runP pk c k p o w S = .ok S' → gLen S' = gLen S := by
  intro k
  induction k with
  | zero =>
    intro p o w S h
    unfold runP at h
    exact absurd h (by simp)
  | succ k ih =>
    intro p o w S h
    unfold runP at h
    split at h
    · split at h
      · exact absurd h (by simp)
      · simp only [Except.ok.injEq] at h
        subst h
        rfl
    · cases hn : nextP pk p o w S with
      | error e => rw [hn] at h; exact absurd h (by simp)
      | ok x =>
        obtain ⟨p1, w1, S1⟩ := x
        rw [hn] at h
        simp only at h
        cases hv : vcP pk p1 o w1 S1 with
        | error e => rw [hv] at h; exact absurd h (by simp)
        | ok y =>
          obtain ⟨p2, o2, w2, S2⟩ := y
          rw [hv] at h
          simp only at h
          rw [ih p2 o2 w2 S2 h, vc_len hv, next_len hn]
theorem rd_len {pk : Nat → Int} {x : Int} (h : readP pk c (sNil S x) = .ok S') : gLen S' = x := by
  unfold readP at h
  cases hb : barP pk (hdP pk).1 false (sHd (sNil S x) (hdP pk).2) with
  | error e => rw [hb] at h; exact absurd h (by simp)
  | ok y =>
    obtain ⟨p1, S1⟩ := y
    rw [hb] at h
    simp only at h
    cases hv : vcP pk p1 false none S1 with
    | error e => rw [hv] at h; exact absurd h (by simp)
    | ok z =>
      obtain ⟨p2, o2, w2, S2⟩ := z
      rw [hv] at h
      simp only at h
      rw [run_len _ _ _ _ _ h, vc_len hv, bar_len hb]
      rfl
theorem x_99 {p : Nat} {y : Int} (hB : XB M0 c row (gLen S)) (hx : 1 ≤ gLen S ∧ gLen S ≤ 2048) (hy : 0 ≤ y ∧ y ≤ 2) (hp : p ≤ c) (he : hdP (pkF c row) = (p, y)) (h : XC M0 M (sHd (sNil S (gLen S)) y) p false none) (hN : BN M (sHd (sNil S (gLen S)) y) 0) (hE : ∀ e : Nat, readP (pkF c row) c (sNil S (gLen S)) = .error e → ∀ M' : Mem, JF M0 M' e → Q (zI (-10 - (e : Int))) M') (hO : ∀ S' : Mus, readP (pkF c row) c (sNil S (gLen S)) = .ok S' → ∀ (M' : Mem) (p' : Nat) (o' : Bool) (w' : Option Int), XC M0 M' S' p' o' w' → BN M' S' (gNb S') → w_X7_read_206 Q 0 M') : ∃ k, w_X7_read_99 Q k 1 M := by
  have hP := PK_x hB
  have G0 : GD (sHd (sNil S (gLen S)) y) := GD_nil hx hy
  refine ⟨c + 4, ?_⟩
  show wb_X7_read_99 Q (w_X7_read_99 Q (c + 3)) _ M
  unfold wb_X7_read_99
  rw [h.2.2.2.1]
  have e0 : gNb (sHd (sNil S (gLen S)) y) = 0 := rfl
  refine ⟨fun z => absurd z one0, fun _ => ⟨fun z => absurd z (by decide), fun _ => ?_⟩⟩
  refine x_rbar (Qx := QB Q (w_X7_read_99 Q (c + 3))) hB G0.1 h hN hp (fun e hb M' j => x_qbJ hB j (hE e (by unfold readP; rw [he]; simp only; rw [hb]))) (fun hb M' h' n' => ?_) (fun hb M' h' n' g56 g57 => ⟨5, ?_⟩)
  · unfold barP at hb
    split at hb
    · exact absurd hb (by simp)
    · next g =>
      split at hb
      · next g2 => exact absurd (Or.inl ⟨g2, Or.inl e0⟩) g
      · simp only [Except.ok.injEq, Prod.mk.injEq] at hb
        omega
  · have sp := bar_sp hP G0 hp hb
    have ep : readP (pkF c row) c (sNil S (gLen S)) = (match vcP (pkF c row) p false none (sVoice (sBar (sHd (sNil S (gLen S)) y))) with
      | .error e => .error e
      | .ok (p2, o2, w2, S2) => runP (pkF c row) c (c + 1) p2 o2 w2 S2) := by
      unfold readP
      rw [he]
      simp only
      rw [hb]
      rfl
    have hl' : ¬ lastS (sVoice (sBar (sHd (sNil S (gLen S)) y))) < 0 := by rw [lastS_voice (S := sBar (sHd (sNil S (gLen S)) y)) (Nat.succ_pos _)]; omega
    refine x_vloop (f := 3) hB rfl sp.2.2.1 hl' h' n' g56 g57 hp (fun e he M2 j => x_qbJ hB j (hE e (by rw [ep, he]))) (fun e he M2 j => x_qbS hB j (hE e (by rw [ep, he]))) (fun p2 o2 w2 S2 hx M2 h2 n2 y56 y57 => ?_)
    have k2 := vc_sp (w := none) hP sp.2.2.1 trivial hp hx
    obtain ⟨t1, t2, t3, t4⟩ := vc_shape hl' hx
    rw [hx] at ep
    simp only at ep
    have hls : ¬ lastS S2 < 0 := by
      unfold lastS at hl' ⊢
      rw [t1, t2]
      exact hl'
    refine (x_EF hB (c + 1)).2 p2 o2 w2 S2 M2 (c + 3) 4 k2.2.2.2.1 (by rw [t3]; rfl) k2.2.2.1 k2.2.1 (by omega) (by omega) hls ?_ h2 n2 y56 y57 t4 (fun e he => hE e (by rw [ep]; exact he)) (fun S' he => hO S' (by rw [ep]; exact he))
    have ev : gVo (sVoice (sBar (sHd (sNil S (gLen S)) y))) (gNb (sVoice (sBar (sHd (sNil S (gLen S)) y))) - 1) = 1 := rfl
    rw [t1, t2, ev]
    omega
theorem x_read (h : RS M S c row) (hrow : ∀ j : Nat, j < c → 0 ≤ row j ∧ row j ≤ 64) (hE : ∀ e : Nat, readP (pkF c row) c (sNil S (gLen S)) = .error e → ∀ M' : Mem, RG M M' → Q (zI (-10 - (e : Int))) M') (hO : ∀ S' : Mus, readP (pkF c row) c (sNil S (gLen S)) = .ok S' → ∀ M' : Mem, RS M' S' c row → fl M M' → Q (zI (gNb S' : Int)) M') : w_X7_read M Q := by
  obtain ⟨r1, r2, r3, r4, r5, r6, r7⟩ := h
  have hlen := r7.1
  have hB : XB M c row (gLen S) := ⟨r1, r2, fun j hj => ⟨r4 j hj, hrow j hj⟩, r6, r3, hlen⟩
  have hP := PK_x hB
  have b0 := (hP 0).2
  have b1 := (hP 1).2
  have hE' : ∀ e : Nat, readP (pkF c row) c (sNil S (gLen S)) = .error e → ∀ M' : Mem, JF M M' e → Q (zI (-10 - (e : Int))) M' := fun e he M' j => hE e he M' j.1
  have hO' : ∀ S' : Mus, readP (pkF c row) c (sNil S (gLen S)) = .ok S' → ∀ (M' : Mem) (p' : Nat) (o' : Bool) (w' : Option Int), XC M M' S' p' o' w' → BN M' S' (gNb S') → w_X7_read_206 Q 0 M' := by
    intro S' he M' p' o' w' h' n'
    have hG := rd_sp hP hlen he
    have hl : gLen S' = gLen S := rd_len he
    refine x_206 hG.1 h' n' (fun M2 g1 g2 => hO S' he M2 ⟨?_, r2, ?_, fun j hj => ?_, g2, ?_, hG.1⟩ (fun k hk => ?_))
    · rw [g1 46 (by omega), h'.1 46 6 (by unfold kp0; omega)]
      exact r1
    · rw [g1 46 (by omega), h'.1 46 7 (by unfold kp0; omega), hl]
      exact r3
    · rw [g1 52 (by omega), h'.1 52 j (by unfold kp0; omega)]
      exact r4 j hj
    · have e : ∀ k : Nat, 47 ≤ k → k ≤ 51 → M2 k = M k := fun k h1 h2 => by
        rw [g1 k (by omega)]
        funext x
        exact h'.1 k x (by unfold kp0; omega)
      unfold RT
      rw [e 47 (by omega) (by omega), e 48 (by omega) (by omega), e 49 (by omega) (by omega), e 50 (by omega) (by omega), e 51 (by omega) (by omega)]
      exact r6
    · rw [g1 k (by omega)]
      funext x
      exact h'.1 k x (by unfold kp0; omega)
  unfold w_X7_read
  intro M1 e1 M2 e2 M3 e3 M4 e4
  refine ⟨vi1, fun M6 e6 => ⟨vi1, fun M8 e8 => ⟨vi1, fun M10 e10 => ?_⟩⟩⟩
  rw [tc1] at e6 e8 e10
  have G4 : RG M M4 := RG_set (RG_set (RG_set (RG_set RG_rf (by unfold kp0; omega) e1) (by unfold kp0; omega) e2) (by unfold kp0; omega) e3) (by unfold kp0; omega) e4
  have G10 : RG M M10 := RG_set (RG_set (RG_set G4 (by unfold kp0; omega) e6) (by unfold kp0; omega) e8) (by unfold kp0; omega) e10
  have f46 : M10 46 = M4 46 := by rw [e10, mset_o (by omega), e8, mset_o (by omega), e6, mset_o (by omega)]
  have q24 : M4 46 24 = zI ((0 : Nat) : Int) := by rw [e4, mset_j (by omega), e3, mset_j (by omega), e2, mset_j (by omega), e1, mset_at]; rfl
  have q25 : M4 46 25 = -1 := by rw [e4, mset_j (by omega), e3, mset_j (by omega), e2, mset_at]
  have q26 : M4 46 26 = bI false := by rw [e4, mset_j (by omega), e3, mset_at]; rfl
  have q27 : M4 46 27 = 1 := by rw [e4, mset_at]
  have q53 : M10 53 1 = zI ((0 : Nat) : Int) := by rw [e10, mset_o (by omega), e8, mset_o (by omega), e6, mset_at]; rfl
  have q54 : M10 54 1 = zI ((0 : Nat) : Int) := by rw [e10, mset_o (by omega), e8, mset_at]; rfl
  have q55 : M10 55 1 = zI 0 := by rw [e10, mset_at]; rfl
  have h10 : XC M M10 (sHd (sNil S (gLen S)) 0) 0 false none := ⟨G10, ⟨q54, q55, fun i a hi => absurd hi (Nat.not_lt_zero i), fun i k hi => absurd hi (Nat.not_lt_zero i)⟩, by rw [f46]; exact q24, by rw [f46]; exact q25, by rw [f46]; exact q26, by show M10 46 27 = 1; rw [f46]; exact q27⟩
  have n10 : BN M10 (sHd (sNil S (gLen S)) 0) 0 := ⟨q53, fun b hb => absurd hb (Nat.not_lt_zero b)⟩
  have hB10 := XB_0 hB G10
  have plain : ¬ (pkF c row 1 = 28 ∧ (pkF c row 0 = 40 ∨ pkF c row 0 = 56)) → ∃ k, w_X7_read_99 Q k 1 M10 := by
    intro g
    refine x_99 hB hlen (by omega) (Nat.zero_le _) ?_ h10 n10 hE' hO'
    unfold hdP
    rw [if_neg (fun z => g ⟨z.1, Or.inl z.2⟩), if_neg (fun z => g ⟨z.1, Or.inr z.2⟩)]
  have hand : pkF c row 1 = 28 → (pkF c row 0 = 40 ∨ pkF c row 0 = 56) → w_X7_read_71 Q M10 := by
    intro g1 g2
    unfold w_X7_read_71
    have hin := (hP 1).1 (by omega)
    rw [lz0]
    refine x_peek (q := 0) hB10 RF_rf (by omega) (fun z53 e53 => ⟨vi1, fun M55 e55 M56 e56 => ?_⟩)
    rw [tc1] at e55
    have k40 : zI (pkF c row 0) = 40 ↔ pkF c row 0 = 40 := by rw [lz40, zI_eq (by omega) (by omega) (by omega) (by omega)]
    simp only [k40] at e53
    have ed : hdP (pkF c row) = (2, if pkF c row 0 = 40 then 1 else 2) := by
      unfold hdP
      by_cases g : pkF c row 0 = 40
      · rw [if_pos ⟨g1, g⟩, if_pos g]
      · rw [if_neg (fun z => g z.2), if_pos ⟨g1, by omega⟩, if_neg g]
    have e53' : z53 = zI (if pkF c row 0 = 40 then 1 else 2) := by
      rw [e53]
      by_cases g : pkF c row 0 = 40
      · rw [if_pos g, if_pos g]; rfl
      · rw [if_neg g, if_neg g]; rfl
    rw [e53'] at e55
    have f46' : M55 46 = M10 46 := by rw [e55, mset_o (by omega)]
    have G56 : RG M M56 := RG_set (RG_set G10 (by unfold kp0; omega) e55) (by unfold kp0; omega) e56
    have f56 : ∀ k : Nat, ¬ k = 46 → ¬ k = 55 → M56 k = M10 k := fun k h1 h2 => by rw [e56, mset_o h1, e55, mset_o h2]
    have s46 : ∀ j : Nat, ¬ j = 24 → M56 46 j = M4 46 j := fun j hj => by rw [e56, mset_j hj, f46', f46]
    refine x_99 (p := 2) (y := if pkF c row 0 = 40 then 1 else 2) hB hlen (by split <;> omega) (by omega) ed ⟨G56, ⟨by rw [f56 54 (by omega) (by omega)]; exact q54, by rw [e56, mset_o (by omega), e55, mset_at]; rfl, fun i a hi => absurd hi (Nat.not_lt_zero i), fun i k hi => absurd hi (Nat.not_lt_zero i)⟩, by rw [e56, mset_at]; rfl, by rw [s46 25 (by omega)]; exact q25, by rw [s46 26 (by omega)]; exact q26, by show M56 46 27 = 1; rw [s46 27 (by omega)]; exact q27⟩ ⟨by rw [f56 53 (by omega) (by omega)]; exact q53, fun b hb => absurd hb (Nat.not_lt_zero b)⟩ hE' hO'
  rw [lz1]
  refine x_peek (q := 1) hB10 RF_rf (by omega) ?_
  rw [lz28, zI_eq (by omega) (by omega) (by omega) (by omega), lz0]
  refine ⟨fun g => plain (fun z => g z.1), fun g => x_peek (q := 0) hB10 RF_rf (by omega) ?_⟩
  rw [lz40, zI_eq (by omega) (by omega) (by omega) (by omega)]
  refine ⟨fun g2 => hand g (Or.inl g2), fun g2 => x_peek (q := 0) hB10 RF_rf (by omega) ?_⟩
  rw [lz56, zI_eq (by omega) (by omega) (by omega) (by omega)]
  exact ⟨fun g3 => plain (by omega), fun g3 => hand g (Or.inr g3)⟩
theorem CS_sp2 (h : CS M S c row r m) (hf : ∀ k : Nat, (k < 25 - m ∨ 25 - m + 14 < k) → (k < 35 ∨ 45 < k) → M' k = M k) : CS M' S c row r m := by
  obtain ⟨h1, h2, h3, h4, h5, h6, h7, h8, h9, h10, h11, h12⟩ := h
  have hr : 1 ≤ r ∧ r ≤ 3 := by rcases h1 with rfl | rfl <;> omega
  have hm : m = 5 ∨ m = 20 := h2
  exact ⟨h1, h2, by rw [hf 0 (by omega) (by omega)]; exact h3, by rw [hf 0 (by omega) (by omega)]; exact h4, by rw [hf 0 (by omega) (by omega)]; exact h5, by rw [hf 0 (by omega) (by omega)]; exact h6, TB_of h7 (fun k hk => hf k (by omega) (by omega)), by rw [hf r (by omega) (by omega)]; exact h8, h9, by rw [hf (r + 1) (by omega) (by omega)]; exact h10, MW_far h11 (fun k g1 g2 => hf k (by omega) (by omega)), h12⟩
theorem RS_RG (h : RS M S c row) (hf : RG M M') : RS M' S c row := by
  obtain ⟨r1, r2, r3, r4, ⟨m1, m2, m3, m4, m5, m6⟩, ⟨t1, t2, t3, t4, t5⟩, r7⟩ := h
  have vnb := r7.2.2.1
  have vni := r7.2.2.2.1
  refine ⟨by rw [hf 46 6 (by unfold kp0; omega)]; exact r1, r2, by rw [hf 46 7 (by unfold kp0; omega)]; exact r3, fun j hj => by rw [hf 52 j (by unfold kp0; omega)]; exact r4 j hj, ⟨by rw [hf 53 0 (by unfold kp0; omega)]; exact m1, by rw [hf 54 0 (by unfold kp0; omega)]; exact m2, by rw [hf 55 0 (by unfold kp0; omega)]; exact m3, fun b hb => ?_, fun i a hi ha => ?_, fun i k hi hk => ?_⟩, ⟨fun j hj => by rw [hf 47 j (by unfold kp0; omega)]; exact t1 j hj, fun j hj => by rw [hf 48 j (by unfold kp0; omega)]; exact t2 j hj, fun j hj => by rw [hf 49 j (by unfold kp0; omega)]; exact t3 j hj, fun j hj => by rw [hf 50 j (by unfold kp0; omega)]; exact t4 j hj, fun j hj => by rw [hf 51 j (by unfold kp0; omega)]; exact t5 j hj⟩, r7⟩
  · rw [hf 57 _ (by unfold kp0; omega), hf 56 _ (by unfold kp0; omega)]
    exact m4 b hb
  · rw [hf (58 + a) _ (by unfold kp0; omega)]
    exact m5 i a hi ha
  · have := (r7.2.2.2.2.2.1 i hi).2.2.2.2.2.2.2.2.2.1
    rw [hf 68 _ (by unfold kp0; omega)]
    exact m6 i k hi hk
theorem op_read (h : ST M S c row r m) (hR : ∀ v M1, fz M M1 → w_X7_read M1 (K v) → R v M1) (hK : ∀ v M2, INV M2 → ke M M2 → K v v M2) : w_X6_read r m (25 - m) M R := by
  obtain ⟨hC, hS, hG⟩ := h
  have hC0 := hC
  obtain ⟨c1, c2, c3, c4, c5, c6, c7, c8, c9, c10, c11, c12⟩ := hC
  have hr : 1 ≤ r ∧ r ≤ 3 := by rcases c1 with rfl | rfl <;> omega
  have hm : m = 5 ∨ m = 20 := c2
  have hlen := c12.1
  unfold w_X6_read
  rw [c11.1]
  refine ⟨c6, c5, e_empty (S := S) (fun M4 w4 o4 => ?_)⟩
  have f4 : ∀ k : Nat, ¬ k = 25 - m → M4 k = M k := fun k hk => o4 k hk
  refine ⟨by rw [f4 0 (by omega)]; exact c3, by rw [f4 0 (by omega)]; exact c6, ?_⟩
  have hB : CB M4 r (25 - m) c row := by
    refine ⟨c1, ?_, TB_of c7 (fun k hk => f4 k (by omega)), by rw [f4 r (by omega)]; exact c8, c9, by rw [f4 (r + 1) (by omega)]; exact c10⟩
    rcases hm with rfl | rfl
    · exact Or.inr rfl
    · exact Or.inl rfl
  have hP := PK_pkF hB
  have hrow : ∀ j : Nat, j < c → 0 ≤ row j ∧ row j ≤ 64 := fun j hj => (c10 j hj).2
  refine e_runR hB hlen w4 (fun e he M8 cf => ?_) (fun S' he M8 cf w8 => ?_)
  · have eb := rd_bd hP hlen he
    have f8 : ∀ k : Nat, (k < 25 - m ∨ 25 - m + 14 < k) → (k < 35 ∨ 45 < k) → M8 k = M k := fun k g1 g2 => by rw [cf k g1 g2, f4 k (by omega)]
    have z8 : fz M M8 := fun k hk => f8 k (by omega) (by omega)
    have hC8 := CS_sp2 hC0 f8
    have hS8 := RS_fz hS z8
    rw [lz0, zI_lt (by omega) (by omega) (by omega) (by omega)]
    refine ⟨fun _ => hR _ M8 z8 (x_read hS8 hrow (fun e' he' M2 g => ?_) (fun S2 he' M2 g1 g2 => ?_)), fun z => absurd (by omega) z⟩
    · rw [he] at he'
      simp only [Except.error.injEq] at he'
      subst he'
      have fl2 : fl M8 M2 := fun k hk => by
        funext x
        exact g k x (by unfold kp0; omega)
      exact hK _ M2 ⟨S, c, row, r, m, CS_fl hC8 fl2, RS_RG hS8 g, hG⟩ (ke_of z8 fl2)
    · rw [he] at he'
      exact absurd he' (by simp)
  · have hD := rd_sp hP hlen he
    have vnb := hD.1.2.2.1
    have f8 : ∀ k : Nat, (k < 25 - m ∨ 25 - m + 14 < k) → (k < 35 ∨ 45 < k) → M8 k = M k := fun k g1 g2 => by rw [cf k g1 g2, f4 k (by omega)]
    rw [lz0, zI_lt (by omega) (by omega) (by omega) (by omega)]
    refine ⟨fun z => by omega, fun _ => ⟨by rw [f8 0 (by omega) (by omega)]; exact c5, by rw [f8 0 (by omega) (by omega)]; exact c6, fun M11 e11 M12 e12 => ?_⟩⟩
    have f12 : ∀ k : Nat, ¬ k = 0 → M12 k = M8 k := fun k hk => by rw [e12, mset_o hk, e11, mset_o hk]
    have z12 : fz M M12 := fun k hk => by rw [f12 k (by omega)]; exact f8 k (by omega) (by omega)
    have hC12 : CS M12 S' c row r (25 - m) := by
      refine ⟨c1, hB.2.1, ?_, ?_, ?_, ?_, TB_of c7 (fun k hk => by rw [f12 k (by omega)]; exact f8 k (by omega) (by omega)), by rw [f12 r (by omega), f8 r (by omega) (by omega)]; exact c8, c9, by rw [f12 (r + 1) (by omega), f8 (r + 1) (by omega) (by omega)]; exact c10, MW_far w8 (fun k g1 g2 => f12 k (by omega)), hD.1⟩
      · rw [e12, mset_j (by omega), e11, mset_j (by omega), f8 0 (by omega) (by omega)]
        exact c3
      · rw [e12, mset_j (by omega), e11, mset_j (by omega), f8 0 (by omega) (by omega)]
        exact c4
      · rw [e12, mset_j (by omega), e11, mset_at]
      · rw [e12, mset_at, show 25 - (25 - m) = m by omega]
    have hS12 := RS_fz hS z12
    refine hR _ M12 z12 (x_read hS12 hrow (fun e' he' M2 g => ?_) (fun S2 he' M2 g1 g2 => ?_))
    · rw [he] at he'
      exact absurd he' (by simp)
    · rw [he] at he'
      simp only [Except.ok.injEq] at he'
      subst he'
      exact hK _ M2 ⟨S', c, row, r, 25 - m, CS_fl hC12 g2, g1, hD.2.1⟩ (ke_of z12 g2)
end ZZop
