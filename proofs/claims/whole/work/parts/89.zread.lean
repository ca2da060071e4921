section ZRead
variable {M0 M M' : Mem} {S S' : Mus} {c p q s n p' r m : Nat} {row : Nat → Int} {len : Int} {o o' : Bool} {t : Int} {w w' : Option Int} {Q Qx : Int32 → Mem → Prop} {pk : Nat → Int} {hd : Int} {e : Nat}
/-! where faults can be -/
theorem iv_bd {pt : Int} : ∀ (k p : Nat) (xs : List Int), PK pk c → p ≤ c → ivR pk hd pt k p xs = .error e → e ≤ c + 2
  | 0, p, xs, hp, hc, h => by
    unfold ivR at h
    exact absurd h (by simp)
  | k + 1, p, xs, hp, hc, h => by
    have p1 := p1_le (pk := pk) p
    unfold ivR at h
    split at h
    · exact absurd h (by simp)
    · next g =>
      have hlt := (hp (p1P pk p)).1 (fun z => by rw [z, m1_Dn] at g; omega)
      split at h
      · exact iv_bd k _ _ hp (by omega) h
      · simp only [Except.error.injEq] at h
        omega
theorem item_bd (hp : PK pk c) (hc : p ≤ c) (ht : -1 ≤ t ∧ t ≤ 1) (h : itemP pk hd p o t w = .error e) : e ≤ c + 2 := by
  unfold itemP at h
  cases hs : sizeP pk p t with
  | error e1 =>
    rw [hs] at h
    simp only [Except.error.injEq] at h
    unfold sizeP at hs
    split at hs
    · split at hs
      · exact absurd hs (by simp)
      · simp only [Except.error.injEq] at hs
        omega
    · exact absurd hs (by simp)
  | ok x =>
    obtain ⟨q0, t1⟩ := x
    rw [hs] at h
    simp only at h
    have s1 := size_sp hp hc ht hs
    cases ho : openP pk q0 o with
    | error e1 =>
      rw [ho] at h
      simp only [Except.error.injEq] at h
      unfold openP at ho
      split at ho
      · split at ho
        · simp only [Except.error.injEq] at ho
          omega
        · exact absurd ho (by simp)
      · exact absurd ho (by simp)
    | ok y =>
      obtain ⟨q, o1⟩ := y
      rw [ho] at h
      simp only at h
      have s2 := open_sp hp s1.2.1 ho
      have p1 := p1_le (pk := pk) q
      have p2 := p2_le (pk := pk) q
      split at h
      · exact absurd h (by simp)
      · split at h
        · simp only [Except.error.injEq] at h
          omega
        · next g g2 =>
          have s3 := pt_sp (p := q) (w := w) hp (by omega)
          have s4 := dot_sp (p := p2P pk q + 1) hp (by omega)
          cases hi : ivR pk hd (ptP pk q w) 4 (p2P pk q + 1 + dotN pk (p2P pk q + 1)) [] with
          | error e1 =>
            rw [hi] at h
            simp only [Except.error.injEq] at h
            have := iv_bd 4 _ _ hp s4.2 hi
            omega
          | ok z =>
            rw [hi] at h
            exact absurd h (by simp)
theorem end_bd (hc : p ≤ c) (h : endV pk p o S s = .error e) : e ≤ c + 2 := by
  by_cases h1 : o = true ∧ pk p = 35 ∧ pk (p + 1) = 28
  · rw [endV_1 h1] at h
    simp only [Except.error.injEq] at h
    omega
  · by_cases h2 : isLn S s
    · rw [endV_2 h1 h2] at h
      exact absurd h (by simp)
    · by_cases h3 : okS (smf S (gFo S s)) (ldG S (gFo S s) (gSz S s) 0) (nxS (wS S (gFo S s)) (gSz S s) (ldG S (gFo S s) (gSz S s) 0)) (suR S (gFo S s) (gSz S s) (ldG S (gFo S s) (gSz S s) 0))
      · rw [endV_3 h1 h2 rfl h3] at h
        exact absurd h (by simp)
      · rw [endV_4 h1 h2 rfl h3] at h
        simp only [Except.error.injEq] at h
        omega
theorem vo_bd (hp : PK pk c) : ∀ (k n p : Nat) (o : Bool) (t : Int) (w : Option Int) (S : Mus), okW w → p ≤ c → (-1 ≤ t ∧ t ≤ 1) → voP pk s k n p o t w S = .error e → e ≤ c + 2 := by
  intro k
  induction k with
  | zero =>
    intro n p o t w S _ hc _ h
    unfold voP at h
    simp only [Except.error.injEq] at h
    omega
  | succ k ih =>
    intro n p o t w S hw hc ht h
    unfold voP at h
    split at h
    · cases he : endV pk p o S s with
      | error e1 =>
        rw [he] at h
        simp only [Except.error.injEq] at h
        have := end_bd hc he
        omega
      | ok S1 => rw [he] at h; exact absurd h (by simp)
    · split at h
      · simp only [Except.error.injEq] at h
        omega
      · cases hi : itemP pk (gHd S) p o t w with
        | error e1 =>
          rw [hi] at h
          simp only [Except.error.injEq] at h
          have := item_bd hp hc ht hi
          omega
        | ok x =>
          obtain ⟨p1, o1, t1, w1, d⟩ := x
          rw [hi] at h
          simp only at h
          obtain ⟨i1, i2, i3, i4, i5, i6, i7⟩ := item_sp hp hc ht hw hi
          exact ih _ _ _ _ _ _ i5 i2 i3 h
theorem vc_bd (hp : PK pk c) (hw : okW w) (hc : p ≤ c) (h : vcP pk p o w S = .error e) : e ≤ c + 2 := by
  unfold vcP at h
  split at h
  · exact absurd h (by simp)
  · exact vo_bd hp _ _ _ _ _ _ _ hw hc (by omega) h
theorem bar_bd (hc : p ≤ c) (h : barP pk p o S = .error e) : e ≤ c + 2 := by
  unfold barP at h
  split at h
  · simp only [Except.error.injEq] at h
    omega
  · split at h
    · exact absurd h (by simp)
    · exact absurd h (by simp)
theorem next_bd (hp : PK pk c) (hc : p ≤ c) (h : nextP pk p o w S = .error e) : e ≤ c + 2 := by
  unfold nextP at h
  split at h
  · next g =>
    have := (hp p).1 (by omega)
    cases hb : barP pk (p + 1) o S with
    | error e1 =>
      rw [hb] at h
      simp only [Except.error.injEq] at h
      have := bar_bd (c := c) (by omega) hb
      omega
    | ok x => rw [hb] at h; exact absurd h (by simp)
  · split at h
    · simp only [Except.error.injEq] at h
      omega
    · split at h
      · exact absurd h (by simp)
      · simp only [Except.error.injEq] at h
        omega
theorem run_bd (hp : PK pk c) : ∀ (k p : Nat) (o : Bool) (w : Option Int) (S : Mus), GD S → okW w → p ≤ c → runP pk c k p o w S = .error e → e ≤ c + 2 := by
  intro k
  induction k with
  | zero =>
    intro p o w S _ _ hc h
    unfold runP at h
    simp only [Except.error.injEq] at h
    omega
  | succ k ih =>
    intro p o w S hG hw hc h
    unfold runP at h
    split at h
    · split at h
      · simp only [Except.error.injEq] at h
        omega
      · exact absurd h (by simp)
    · cases hn : nextP pk p o w S with
      | error e1 =>
        rw [hn] at h
        simp only [Except.error.injEq] at h
        have := next_bd hp hc hn
        omega
      | ok x =>
        obtain ⟨p1, w1, S1⟩ := x
        rw [hn] at h
        simp only at h
        have k1 := next_sp hp hG hw hc hn
        cases hv : vcP pk p1 o w1 S1 with
        | error e1 =>
          rw [hv] at h
          simp only [Except.error.injEq] at h
          have := vc_bd hp k1.2.2.2.1 k1.2.1 hv
          omega
        | ok y =>
          obtain ⟨p2, o2, w2, S2⟩ := y
          rw [hv] at h
          simp only at h
          have k2 := vc_sp hp k1.2.2.1 k1.2.2.2.1 k1.2.1 hv
          exact ih p2 o2 w2 S2 k2.2.2.2.1 k2.2.2.1 k2.2.1 h
theorem rd_bd {x : Int} (hp : PK pk c) (hx : 1 ≤ x ∧ x ≤ 2048) (h : readP pk c (sNil S x) = .error e) : e ≤ c + 2 := by
  have hh := hd_sp hp
  unfold readP at h
  cases hb : barP pk (hdP pk).1 false (sHd (sNil S x) (hdP pk).2) with
  | error e1 =>
    rw [hb] at h
    simp only [Except.error.injEq] at h
    have := bar_bd hh.1 hb
    omega
  | ok y =>
    obtain ⟨p1, S1⟩ := y
    rw [hb] at h
    simp only at h
    have k1 := bar_sp hp (GD_nil hx hh.2) hh.1 hb
    cases hv : vcP pk p1 false none S1 with
    | error e1 =>
      rw [hv] at h
      simp only [Except.error.injEq] at h
      have := vc_bd (w := none) hp trivial k1.2.1 hv
      omega
    | ok z =>
      obtain ⟨p2, o2, w2, S2⟩ := z
      rw [hv] at h
      simp only at h
      have k2 := vc_sp (w := none) hp k1.2.2.1 trivial k1.2.1 hv
      exact run_bd hp _ p2 o2 w2 S2 k2.2.2.2.1 k2.2.2.1 k2.2.1 h
/-! what was read is taken over -/
def TK (M M' : Mem) (i n : Nat) : Prop := (∀ k x : Nat, ¬ (58 ≤ k ∧ k < 58 + n ∧ x = i) → M' k x = M k x) ∧ ∀ a : Nat, a < n → M' (58 + a) i = M (58 + a) (600 + i)
theorem TK_s {M2 : Mem} {i : Nat} (hi : i < 600) (h : TK M M2 i n) (e : M' = mset M2 (58 + n) i (M2 (58 + n) (600 + i))) : TK M M' i (n + 1) := by
  refine ⟨fun k x hk => ?_, fun a ha => ?_⟩
  · rw [e, mset_g, if_neg (by omega)]
    exact h.1 k x (by omega)
  · by_cases g : a = n
    · subst g
      rw [e, mset_at]
      exact h.1 _ _ (by omega)
    · rw [e, mset_o (by omega)]
      exact h.2 a (by omega)
theorem x_take {i : Nat} (hi : i < 600) (hQ : ∀ M' : Mem, (∀ k x : Nat, ¬ ((58 ≤ k ∧ k ≤ 67 ∧ x = i) ∨ (k = 68 ∧ 4 * i ≤ x ∧ x < 4 * i + 4)) → M' k x = M k x) → (∀ a : Nat, a < 10 → M' (58 + a) i = M (58 + a) (600 + i)) → (∀ k : Nat, k < 4 → M' 68 (4 * i + k) = M 68 (4 * (600 + i) + k)) → Q 0 M') : w_X7_take (zI (i : Int)) M Q := by
  unfold w_X7_take
  intro x1 e1
  have e1' : x1 = zI ((600 + i : Nat) : Int) := by rw [e1, lz600, zI_add]; rfl
  subst e1'
  have v1 : vp_in (zI ((600 + i : Nat) : Int)) 1200 := by rw [zI_in (by omega) (by omega)]; omega
  have v2 : vp_in (zI (i : Int)) 1200 := by rw [zI_in (by omega) (by omega)]; omega
  have t1 : Int32.toNatClampNeg (zI ((600 + i : Nat) : Int)) = 600 + i := by rw [zI_tn (by omega) (by omega), tn_nat]
  have t2 : Int32.toNatClampNeg (zI (i : Int)) = i := by rw [zI_tn (by omega) (by omega), tn_nat]
  rw [t1, t2]
  refine ⟨v1, v2, fun M4 e4 => ⟨v1, v2, fun M7 e7 => ⟨v1, v2, fun M10 e10 => ⟨v1, v2, fun M13 e13 => ⟨v1, v2, fun M16 e16 => ⟨v1, v2, fun M19 e19 => ⟨v1, v2, fun M22 e22 => ⟨v1, v2, fun M25 e25 => ⟨v1, v2, fun M28 e28 => ⟨v1, v2, fun M31 e31 => ?_⟩⟩⟩⟩⟩⟩⟩⟩⟩⟩
  have k0 : TK M M i 0 := ⟨fun _ _ _ => rfl, fun a ha => absurd ha (Nat.not_lt_zero a)⟩
  have k1 := TK_s hi k0 e4
  have k2 := TK_s hi k1 e7
  have k3 := TK_s hi k2 e10
  have k4 := TK_s hi k3 e13
  have k5 := TK_s hi k4 e16
  have k6 := TK_s hi k5 e19
  have k7 := TK_s hi k6 e22
  have k8 := TK_s hi k7 e25
  have k9 := TK_s hi k8 e28
  have k10 := TK_s hi k9 e31
  refine ⟨5, ?_⟩
  have key : ∀ (d j : Nat) (M1 : Mem), j + d = 4 → (∀ k x : Nat, ¬ (k = 68 ∧ 4 * i ≤ x ∧ x < 4 * i + j) → M1 k x = M31 k x) → (∀ k : Nat, k < j → M1 68 (4 * i + k) = M31 68 (4 * (600 + i) + k)) → w_X7_take_128 Q (d + 1) (zI (i : Int)) (zI ((600 + i : Nat) : Int)) (zI (j : Int)) M1 := by
    intro d
    induction d with
    | zero =>
      intro j M1 hj h1 h2
      have hj4 : j = 4 := by omega
      subst hj4
      show wb_X7_take_128 Q (w_X7_take_128 Q 0) _ _ _ M1
      unfold wb_X7_take_128
      rw [lz4, zI_le (by omega) (by omega) (by omega) (by omega)]
      refine ⟨fun _ => hQ M1 (fun k x hk => ?_) (fun a ha => ?_) (fun k hk => ?_), fun z => absurd (by omega) z⟩
      · rw [h1 k x (by omega)]
        exact k10.1 k x (by omega)
      · rw [h1 (58 + a) i (by omega)]
        exact k10.2 a ha
      · rw [h2 k hk]
        exact k10.1 _ _ (by omega)
    | succ d ih =>
      intro j M1 hj h1 h2
      show wb_X7_take_128 Q (w_X7_take_128 Q (d + 1)) _ _ _ M1
      unfold wb_X7_take_128
      have ea : (4 : Int32) * zI ((600 + i : Nat) : Int) + zI (j : Int) = zI ((4 * (600 + i) + j : Nat) : Int) := by
        rw [lz4, zI_mul, zI_add]
        congr 1
      have eb : (4 : Int32) * zI (i : Int) + zI (j : Int) = zI ((4 * i + j : Nat) : Int) := by
        rw [lz4, zI_mul, zI_add]
        congr 1
      rw [ea, eb, lz4, zI_le (by omega) (by omega) (by omega) (by omega), zI_in (by omega) (by omega), zI_in (by omega) (by omega), zI_tn (by omega) (by omega), zI_tn (by omega) (by omega), tn_nat, tn_nat]
      refine ⟨fun z => by omega, fun _ => ⟨by omega, by omega, fun M34 e34 x35 e35 => ?_⟩⟩
      have e35' : x35 = zI ((j + 1 : Nat) : Int) := by rw [e35, lz1, zI_add]; rfl
      rw [e35']
      refine ih (j + 1) M34 (by omega) (fun k x hk => ?_) (fun k hk => ?_)
      · rw [e34, mset_g, if_neg (by omega)]
        exact h1 k x (by omega)
      · by_cases g : k = j
        · subst g
          rw [e34, mset_at]
          exact h1 _ _ (by omega)
        · rw [e34, mset_j (by omega)]
          exact h2 k (by omega)
  exact key 4 0 M31 (by omega) (fun _ _ _ => rfl) (fun k hk => absurd hk (Nat.not_lt_zero k))
theorem x_take_all {l : Int32} (hv : MV S) (hr : RI M S) (hQ : ∀ M' : Mem, (∀ k x : Nat, ¬ ((58 ≤ k ∧ k ≤ 67 ∧ x < 600) ∨ (k = 68 ∧ x < 2400)) → M' k x = M k x) → (∀ i a : Nat, i < gNi S → a < 10 → M' (58 + a) i = zI (rat (gIt S i) a)) → (∀ i k : Nat, i < gNi S → (k : Int) < gIt S i 9 → M' 68 (4 * i + k) = zI (gIt S i (10 + k))) → Q (M' 53 0) M') : ∃ k, w_X7_read_303 Q k l 0 M := by
  have vni := hv.2.2.2.1
  refine ⟨gNi S + 1, ?_⟩
  have key : ∀ (d j : Nat) (M1 : Mem), j + d = gNi S → (∀ k x : Nat, ¬ ((58 ≤ k ∧ k ≤ 67 ∧ x < 600) ∨ (k = 68 ∧ x < 2400)) → M1 k x = M k x) → (∀ i a : Nat, i < j → a < 10 → M1 (58 + a) i = M (58 + a) (600 + i)) → (∀ i k : Nat, i < j → k < 4 → M1 68 (4 * i + k) = M 68 (4 * (600 + i) + k)) → w_X7_read_303 Q (d + 1) l (zI (j : Int)) M1 := by
    intro d
    induction d with
    | zero =>
      intro j M1 hj h1 h2 h3
      have hjn : j = gNi S := by omega
      subst hjn
      show wb_X7_read_303 Q (w_X7_read_303 Q 0) _ _ M1
      unfold wb_X7_read_303
      have e54 : M1 54 1 = zI (gNi S : Int) := by rw [h1 54 1 (by omega)]; exact hr.1
      rw [tc1, e54, zI_le (by omega) (by omega) (by omega) (by omega), tc0]
      refine ⟨vi1, fun _ => ⟨vi0, hQ M1 h1 (fun i a hi ha => ?_) (fun i k hi hk => ?_)⟩, fun z => absurd (by omega) z⟩
      · rw [h2 i a hi ha]
        exact hr.2.2.1 i a hi ha
      · have := (hv.2.2.2.2.2.1 i hi).2.2.2.2.2.2.2.2.2.1
        rw [h3 i k hi (by omega)]
        exact hr.2.2.2 i k hi hk
    | succ d ih =>
      intro j M1 hj h1 h2 h3
      show wb_X7_read_303 Q (w_X7_read_303 Q (d + 1)) _ _ M1
      unfold wb_X7_read_303
      have e54 : M1 54 1 = zI (gNi S : Int) := by rw [h1 54 1 (by omega)]; exact hr.1
      rw [tc1, e54, zI_le (by omega) (by omega) (by omega) (by omega)]
      refine ⟨vi1, fun z => by omega, fun _ => x_take (by omega) (fun M25 g1 g2 g3 x26 e26 => ?_)⟩
      have e26' : x26 = zI ((j + 1 : Nat) : Int) := by rw [e26, lz1, zI_add]; rfl
      rw [e26']
      refine ih (j + 1) M25 (by omega) (fun k x hk => by rw [g1 k x (by omega)]; exact h1 k x hk) (fun i a hi ha => ?_) (fun i k hi hk => ?_)
      · by_cases g : i = j
        · subst g
          rw [g2 a ha]
          exact h1 _ _ (by omega)
        · rw [g1 _ _ (by omega)]
          exact h2 i a (by omega) ha
      · by_cases g : i = j
        · subst g
          rw [g3 k hk]
          exact h1 _ _ (by omega)
        · rw [g1 _ _ (by omega)]
          exact h3 i k (by omega) hk
  exact key (gNi S) 0 M (by omega) (fun _ _ _ => rfl) (fun i a hi => absurd hi (Nat.not_lt_zero i)) (fun i k hi => absurd hi (Nat.not_lt_zero i))
theorem x_206 {l : Int32} (hv : MV S) (h : XC M0 M S p o w) (hN : BN M S (gNb S)) (hQ : ∀ M' : Mem, (∀ k : Nat, (k < 53 ∨ 78 ≤ k) → M' k = M k) → RM M' 0 S → Q (zI (gNb S : Int)) M') : w_X7_read_206 Q l M := by
  have vnb := hv.2.2.1
  unfold w_X7_read_206
  rw [h.2.2.2.1, tc0, tc1]
  refine ⟨fun _ => ⟨vi1, vi0, fun M15 e15 => ⟨vi1, vi0, fun M18 e18 => ⟨vi1, vi0, fun M21 e21 => ⟨61, ?_⟩⟩⟩⟩, fun z => absurd (by decide) z⟩
  have f21 : ∀ k x : Nat, ¬ ((k = 53 ∨ k = 54 ∨ k = 55) ∧ x = 0) → M21 k x = M k x := fun k x hk => by rw [e21, mset_g, if_neg (by omega), e18, mset_g, if_neg (by omega), e15, mset_g, if_neg (by omega)]
  have a53 : M21 53 0 = zI (gNb S : Int) := by rw [e21, mset_o (by omega), e18, mset_o (by omega), e15, mset_at]; exact hN.1
  have a54 : M21 54 0 = zI (gNi S : Int) := by rw [e21, mset_o (by omega), e18, mset_at, e15, mset_o (by omega)]; exact h.2.1.1
  have a55 : M21 55 0 = zI (gHd S) := by rw [e21, mset_at, e18, mset_o (by omega), e15, mset_o (by omega)]; exact h.2.1.2.1
  have r21 : RI M21 S := RI_far hv h.2.1 (fun k j hk => f21 k j (by unfold ri at hk; omega))
  have key : ∀ (d j : Nat) (M1 : Mem), j + d = 60 → (∀ k x : Nat, ¬ ((k = 56 ∨ k = 57) ∧ x < 60) → M1 k x = M21 k x) → (∀ b : Nat, b < j → M1 56 b = M21 56 (60 + b) ∧ M1 57 b = M21 57 (60 + b)) → w_X7_read_259 Q (d + 1) l (zI (j : Int)) M1 := by
    intro d
    induction d with
    | zero =>
      intro j M1 hj h1 h2
      have hj6 : j = 60 := by omega
      subst hj6
      show wb_X7_read_259 Q (w_X7_read_259 Q 0) _ _ M1
      unfold wb_X7_read_259
      rw [lz60, zI_le (by omega) (by omega) (by omega) (by omega)]
      refine ⟨fun _ => x_take_all hv (RI_far hv r21 (fun k j hk => h1 k j (by unfold ri at hk; omega))) (fun M' g1 g2 g3 => ?_), fun z => absurd (by omega) z⟩
      have e53 : M' 53 0 = zI (gNb S : Int) := by rw [g1 53 0 (by omega), h1 53 0 (by omega)]; exact a53
      rw [e53]
      refine hQ M' (fun k hk => ?_) ⟨e53, by rw [g1 54 0 (by omega), h1 54 0 (by omega)]; exact a54, by rw [g1 55 0 (by omega), h1 55 0 (by omega)]; exact a55, fun b hb => ?_, fun i a hi ha => ?_, fun i k hi hk => ?_⟩
      · funext x
        rw [g1 k x (by omega), h1 k x (by omega), f21 k x (by omega)]
      · rw [show 60 * 0 + b = b by omega, g1 57 b (by omega), g1 56 b (by omega), (h2 b (by omega)).1, (h2 b (by omega)).2, f21 56 _ (by omega), f21 57 _ (by omega)]
        exact hN.2 b hb
      · rw [show 600 * 0 + i = i by omega]
        exact g2 i a hi ha
      · rw [show 600 * 0 + i = i by omega]
        exact g3 i k hi hk
    | succ d ih =>
      intro j M1 hj h1 h2
      show wb_X7_read_259 Q (w_X7_read_259 Q (d + 1)) _ _ M1
      unfold wb_X7_read_259
      have ea : (60 : Int32) + zI (j : Int) = zI ((60 + j : Nat) : Int) := by rw [lz60, zI_add]; rfl
      rw [ea, lz60, zI_le (by omega) (by omega) (by omega) (by omega), zI_in (by omega) (by omega), zI_in (by omega) (by omega), zI_tn (by omega) (by omega), zI_tn (by omega) (by omega), tn_nat, tn_nat]
      refine ⟨fun z => by omega, fun _ => ⟨by omega, by omega, fun M29 e29 => ⟨by omega, by omega, fun M32 e32 x33 e33 => ?_⟩⟩⟩
      have e33' : x33 = zI ((j + 1 : Nat) : Int) := by rw [e33, lz1, zI_add]; rfl
      rw [e33']
      refine ih (j + 1) M32 (by omega) (fun k x hk => ?_) (fun b hb => ?_)
      · rw [e32, mset_g, if_neg (by omega), e29, mset_g, if_neg (by omega)]
        exact h1 k x hk
      · by_cases g : b = j
        · subst g
          rw [e32, mset_o (by omega), mset_at, e29, mset_at, mset_o (by omega)]
          exact ⟨h1 _ _ (by omega), h1 _ _ (by omega)⟩
        · rw [e32, mset_o (by omega), mset_j (by omega), e29, mset_j (by omega), mset_o (by omega)]
          exact h2 b (by omega)
  exact key 60 0 M21 (by omega) (fun _ _ _ => rfl) (fun b hb => absurd hb (Nat.not_lt_zero b))
end ZRead
