section XBase
variable {Mv M M' : Mem} {S S' : Mus} {c p q : Nat} {row : Nat → Int} {len : Int} {o : Bool} {t : Int} {w : Option Int} {Q : Int32 → Mem → Prop}
/-- what the reference's reader stands on -/
def XB (Mv : Mem) (c : Nat) (row : Nat → Int) (len : Int) : Prop := Mv 46 6 = zI c ∧ c ≤ 4000 ∧ (∀ j : Nat, j < c → Mv 52 j = zI (row j) ∧ 0 ≤ row j ∧ row j ≤ 64) ∧ RT Mv ∧ Mv 46 7 = zI len ∧ 1 ≤ len ∧ len ≤ 2048
def kp (k j : Nat) : Prop := (k < 58 ∧ k ≠ 46 ∧ k ≠ 54) ∨ 78 ≤ k ∨ (k = 46 ∧ (j = 6 ∨ j = 7)) ∨ (k = 54 ∧ j = 0) ∨ (58 ≤ k ∧ k ≤ 67 ∧ j < 600) ∨ (k = 68 ∧ j < 2400)
/-- what a voice's reading leaves alone -/
def RF (Mv M : Mem) : Prop := ∀ k j : Nat, kp k j → M k j = Mv k j
theorem RF_rf : RF M M := fun _ _ _ => rfl
theorem RF_tr {M1 M2 M3 : Mem} (h1 : RF M1 M2) (h2 : RF M2 M3) : RF M1 M3 := fun k j h => (h2 k j h).trans (h1 k j h)
theorem RF_set {a b : Nat} {v : Int32} (h : RF Mv M) (hn : ¬ kp a b) (e : M' = mset M a b v) : RF Mv M' := fun k j hk => by
  rw [e, mset_g, if_neg (fun z => hn (by rw [← z.1, ← z.2]; exact hk))]
  exact h k j hk
theorem PK_x (hB : XB Mv c row len) : PK (pkF c row) c := by
  intro j
  unfold pkF
  by_cases g : j < c
  · have := hB.2.2.1 j g
    rw [if_pos g]
    exact ⟨fun _ => g, by omega, by omega, fun z => by omega⟩
  · rw [if_neg g]
    exact ⟨fun z => absurd rfl z, by omega, by omega, fun _ => rfl⟩
theorem XB_of {M1 : Mem} (hB : XB Mv c row len) (h : RF Mv M1) : XB M1 c row len := by
  obtain ⟨b1, b2, b3, ⟨r1, r2, r3, r4, r5⟩, b5, b6⟩ := hB
  exact ⟨by rw [h 46 6 (by unfold kp; omega)]; exact b1, b2, fun j hj => by rw [h 52 j (by unfold kp; omega)]; exact b3 j hj, ⟨fun j hj => by rw [h 47 j (by unfold kp; omega)]; exact r1 j hj, fun j hj => by rw [h 48 j (by unfold kp; omega)]; exact r2 j hj, fun j hj => by rw [h 49 j (by unfold kp; omega)]; exact r3 j hj, fun j hj => by rw [h 50 j (by unfold kp; omega)]; exact r4 j hj, fun j hj => by rw [h 51 j (by unfold kp; omega)]; exact r5 j hj⟩, by rw [h 46 7 (by unfold kp; omega)]; exact b5, b6⟩
/-- a fault has been found -/
def JS (Mv M : Mem) (e : Nat) : Prop := RF Mv M ∧ M 46 25 = zI e ∧ e ≤ 4100 ∧ (∃ a : Nat, a ≤ 4200 ∧ M 46 24 = zI a) ∧ (M 46 27 = 0 ∨ M 46 27 = 1)
theorem JS_set {a b e : Nat} {v : Int32} (h : JS Mv M e) (hn : ¬ kp a b) (h1 : ¬ (a = 46 ∧ (b = 24 ∨ b = 25 ∨ b = 27))) (e' : M' = mset M a b v) : JS Mv M' e := by
  obtain ⟨j1, j2, j3, ⟨x, j4, j5⟩, j6⟩ := h
  refine ⟨RF_set j1 hn e', ?_, j3, ⟨x, j4, ?_⟩, ?_⟩
  · rw [e', mset_g, if_neg (by omega)]; exact j2
  · rw [e', mset_g, if_neg (by omega)]; exact j5
  · rw [e', mset_g, if_neg (by omega)]; exact j6
theorem JS_at {e : Nat} (h : JS Mv M e) (hq : q ≤ 4200) (e' : M' = mset M 46 24 (zI q)) : JS Mv M' e := by
  obtain ⟨j1, j2, j3, j4, j6⟩ := h
  refine ⟨RF_set j1 (by unfold kp; omega) e', ?_, j3, ⟨q, hq, ?_⟩, ?_⟩
  · rw [e', mset_j (by omega)]; exact j2
  · rw [e', mset_at]
  · rw [e', mset_j (by omega)]; exact j6
theorem JS_27 {e : Nat} {v : Int32} (h : JS Mv M e) (hv : v = 0 ∨ v = 1) (e' : M' = mset M 46 27 v) : JS Mv M' e := by
  obtain ⟨j1, j2, j3, ⟨x, j4, j5⟩, j6⟩ := h
  refine ⟨RF_set j1 (by unfold kp; omega) e', ?_, j3, ⟨x, j4, ?_⟩, ?_⟩
  · rw [e', mset_j (by omega)]; exact j2
  · rw [e', mset_j (by omega)]; exact j5
  · rw [e', mset_at]; exact hv
theorem JS_25 {e : Nat} (h : JS Mv M e) (e' : M' = mset M 46 25 (zI e)) : JS Mv M' e := by
  obtain ⟨j1, j2, j3, ⟨x, j4, j5⟩, j6⟩ := h
  refine ⟨RF_set j1 (by unfold kp; omega) e', ?_, j3, ⟨x, j4, ?_⟩, ?_⟩
  · rw [e', mset_at]
  · rw [e', mset_j (by omega)]; exact j5
  · rw [e', mset_j (by omega)]; exact j6
theorem x_peek (hB : XB Mv c row len) (hf : RF Mv M) (hq : q ≤ 6000) (hQ : Q (zI (pkF c row q)) M) : w_X7_peek (zI q) M Q := by
  obtain ⟨b1, b2, b3, -⟩ := hB
  unfold w_X7_peek
  have k1 : zI (c : Int) ≤ zI (q : Int) ↔ c ≤ q := by rw [zI_le (by omega) (by omega) (by omega) (by omega)]; omega
  rw [hf 46 6 (by unfold kp; omega), b1, zI_in (by omega) (by omega), zI_tn (by omega) (by omega), tn_nat]
  simp only [k1]
  refine ⟨⟨fun _ => trivial, fun _ => ⟨by omega, trivial⟩⟩, fun z2 e2 => ?_⟩
  unfold pkF at hQ
  by_cases g : q < c
  · rw [if_neg (by omega), hf 52 q (by unfold kp; omega), (b3 q g).1] at e2
    rw [if_pos g] at hQ
    rw [e2]; exact hQ
  · rw [if_pos (by omega), ln1] at e2
    rw [if_neg g] at hQ
    rw [e2]; exact hQ
theorem x_fail {f : Int} (h : M 46 25 = -1) (hQ : ∀ M' : Mem, M' = mset M 46 25 (zI f) → Q 0 M') : w_X7_fail (zI f) M Q := by
  intro z1 e1 M2 e2
  rw [h, if_neg (by decide)] at e1
  rw [e1] at e2
  exact hQ M2 e2
theorem JS_nn {e : Nat} (h : JS Mv M e) : (0 : Int32) ≤ M 46 25 := by
  rw [h.2.1, lz0, zI_le (by omega) (by omega) (by have := h.2.2.1; omega) (by have := h.2.2.1; omega)]
  omega
theorem x_failJ {e : Nat} {f : Int32} (h : JS Mv M e) (hQ : ∀ M' : Mem, JS Mv M' e → Q 0 M') : w_X7_fail f M Q := by
  intro z1 e1 M2 e2
  rw [if_pos (JS_nn h), h.2.1] at e1
  rw [e1] at e2
  exact hQ M2 (JS_25 h e2)
theorem x_find {a : Nat} {l : List Int} {x : Int} (ha : (S0 a).2 = l.length) (hx : -1000 ≤ x ∧ x ≤ 1000) (hl : l.length ≤ 100) (hv : ∀ j : Nat, j < l.length → M a j = zI (l.getD j 0) ∧ 0 ≤ l.getD j 0 ∧ l.getD j 0 ≤ 64) (hQ : Q (zI (ixF l x)) M) : w_X7_find a (zI x) M Q := by
  refine ⟨l.length + 1, ?_⟩
  have fin : ∀ (z : Int32) (v : Int), (z = if (nI (S0 a).2) ≤ zI v then -1 else zI v) → True := fun _ _ _ => trivial
  have key : ∀ (k j : Nat), j + k = l.length → ixF l x = ixG l x k j → w_X7_find_2 a Q (k + 1) (zI x) (zI j) M := by
    intro k
    induction k with
    | zero =>
      intro j hj he
      show wb_X7_find_2 a Q (w_X7_find_2 a Q 0) _ _ M
      unfold wb_X7_find_2 w_X7_find_21
      have kl : zI (l.length : Int) ≤ zI (j : Int) ↔ l.length ≤ j := by rw [zI_le (by omega) (by omega) (by omega) (by omega)]; omega
      rw [ha, zI_nI]
      simp only [kl]
      refine ⟨fun g z1 e1 => ?_, fun g => by omega⟩
      rw [if_pos g, ln1] at e1
      rw [he] at hQ
      rw [e1]
      exact hQ
    | succ k ih =>
      intro j hj he
      show wb_X7_find_2 a Q (w_X7_find_2 a Q (k + 1)) _ _ M
      unfold wb_X7_find_2 w_X7_find_21
      have hvj := hv j (by omega)
      have kl : zI (l.length : Int) ≤ zI (j : Int) ↔ l.length ≤ j := by rw [zI_le (by omega) (by omega) (by omega) (by omega)]; omega
      rw [ha, zI_nI]
      simp only [kl]
      rw [zI_in (by omega) (by omega), zI_tn (by omega) (by omega), tn_nat, hvj.1, zI_eq (by omega) (by omega) (by omega) (by omega)]
      have eg : ixG l x (k + 1) j = if l.getD j 0 = x then (j : Int) else ixG l x k (j + 1) := rfl
      rw [eg] at he
      refine ⟨fun g => by omega, fun g => ⟨by omega, fun g2 z1 e1 => ?_, fun g2 x4 e4 => ?_⟩⟩
      · rw [if_neg g] at e1
        rw [if_pos g2] at he
        rw [he] at hQ
        rw [e1]
        exact hQ
      · have e4' : x4 = zI ((j + 1 : Nat) : Int) := by rw [e4, lz1, zI_add]; rfl
        subst e4'
        rw [if_neg g2] at he
        exact ih (j + 1) (by omega) he
  exact key l.length 0 (by omega) rfl
theorem x_fRs (hB : XB Mv c row len) (hf : RF Mv M) {x : Int} (hx : -1000 ≤ x ∧ x ≤ 1000) (hQ : Q (zI (ixF lRs x)) M) : w_X7_find 49 (zI x) M Q := by
  obtain ⟨-, -, u, -⟩ := hB.2.2.2.1
  have b : ∀ j : Fin 4, 0 ≤ lRs.getD j.val 0 ∧ lRs.getD j.val 0 ≤ 64 := by decide
  exact x_find (l := lRs) (by decide) hx (by decide) (fun j hj => ⟨by rw [hf 49 j (by unfold kp; omega)]; exact u j hj, b ⟨j, hj⟩⟩) hQ
theorem x_fOc (hB : XB Mv c row len) (hf : RF Mv M) {x : Int} (hx : -1000 ≤ x ∧ x ≤ 1000) (hQ : Q (zI (ixF lOc x)) M) : w_X7_find 50 (zI x) M Q := by
  obtain ⟨-, -, -, u, -⟩ := hB.2.2.2.1
  have b : ∀ j : Fin 7, 0 ≤ lOc.getD j.val 0 ∧ lOc.getD j.val 0 ≤ 64 := by decide
  exact x_find (l := lOc) (by decide) hx (by decide) (fun j hj => ⟨by rw [hf 50 j (by unfold kp; omega)]; exact u j hj, b ⟨j, hj⟩⟩) hQ
theorem x_fDn (hB : XB Mv c row len) (hf : RF Mv M) {x : Int} (hx : -1000 ≤ x ∧ x ≤ 1000) (hQ : Q (zI (ixF lDn x)) M) : w_X7_find 51 (zI x) M Q := by
  obtain ⟨-, -, -, -, u⟩ := hB.2.2.2.1
  have b : ∀ j : Fin 7, 0 ≤ lDn.getD j.val 0 ∧ lDn.getD j.val 0 ≤ 64 := by decide
  exact x_find (l := lDn) (by decide) hx (by decide) (fun j hj => ⟨by rw [hf 51 j (by unfold kp; omega)]; exact u j hj, b ⟨j, hj⟩⟩) hQ
theorem x_signOf {x : Int} (hx : -1 ≤ x ∧ x ≤ 64) (hQ : Q (zI (sgI x)) M) : w_X7_signOf (zI x) M Q := by
  intro z1 e1
  have k1 : zI x = 41 ↔ x = 41 := by rw [lz41, zI_eq (by omega) (by omega) (by omega) (by omega)]
  have k2 : zI x = 35 ↔ x = 35 := by rw [lz35, zI_eq (by omega) (by omega) (by omega) (by omega)]
  have k3 : zI x = 33 ↔ x = 33 := by rw [lz33, zI_eq (by omega) (by omega) (by omega) (by omega)]
  simp only [k1, k2, k3] at e1
  have e : sgI x = if x = 41 then 1 else if x = 35 then 2 else if x = 33 then 3 else 0 := by
    have a : ∀ y : Fin 66, sgI ((y.val : Nat) - 1 : Int) = if ((y.val : Nat) - 1 : Int) = 41 then 1 else if ((y.val : Nat) - 1 : Int) = 35 then 2 else if ((y.val : Nat) - 1 : Int) = 33 then 3 else 0 := by decide +kernel
    have := a ⟨(x + 1).toNat, by omega⟩
    rw [show ((((⟨(x + 1).toNat, by omega⟩ : Fin 66).val : Nat) : Int) - 1) = x by show (((x + 1).toNat : Nat) : Int) - 1 = x; omega] at this
    exact this
  rw [e] at hQ
  have e1' : z1 = zI (if x = 41 then 1 else if x = 35 then 2 else if x = 33 then 3 else 0) := by
    rw [e1]
    split
    · rfl
    · split
      · rfl
      · split
        · rfl
        · rfl
  rw [e1']
  exact hQ
def nv (n : Nat) : Nat := (lSt.getD (n % 7) 0).toNat ||| (lKd.getD (n / 7) 0).toNat
def nofR (x : Int) : Nat → Int
  | 0 => -1
  | n + 1 => if x = (nv n : Int) then (n : Int) else nofR x n
def ntI (x : Int) : Int := if stI x < 0 then -1 else 7 * kdI x + stI x
theorem nof_is {x : Int} (hx : -1 ≤ x ∧ x ≤ 64) : nofR x 28 = ntI x := by
  have a : ∀ y : Fin 66, nofR ((y.val : Nat) - 1 : Int) 28 = ntI ((y.val : Nat) - 1 : Int) := by decide +kernel
  have := a ⟨(x + 1).toNat, by omega⟩
  rw [show ((((⟨(x + 1).toNat, by omega⟩ : Fin 66).val : Nat) : Int) - 1) = x by show (((x + 1).toNat : Nat) : Int) - 1 = x; omega] at this
  exact this
theorem nv_bd (n : Fin 28) : nv n.val ≤ 64 := by
  revert n
  decide +kernel
theorem nv_or (n : Fin 28) : zI (lSt.getD (n.val % 7) 0) ||| zI (lKd.getD (n.val / 7) 0) = zI ((nv n.val : Nat) : Int) := by
  revert n
  decide +kernel
theorem x_noteOf {x : Int} (hB : XB Mv c row len) (hf : RF Mv M) (hx : -1 ≤ x ∧ x ≤ 64) (hQ : Q (zI (ntI x)) M) : w_X7_noteOf (zI x) M Q := by
  obtain ⟨u1, u2, -⟩ := hB.2.2.2.1
  rw [← nof_is hx] at hQ
  refine ⟨5, ?_⟩
  have key : ∀ (k j : Nat), j + k = 4 → w_X7_noteOf_4 Q (k + 1) (zI x) (zI (nofR x (7 * j))) (zI (j : Int)) M := by
    intro k
    induction k with
    | zero =>
      intro j hj
      have hj4 : j = 4 := by omega
      subst hj4
      show wb_X7_noteOf_4 Q (w_X7_noteOf_4 Q 0) _ _ _ M
      unfold wb_X7_noteOf_4
      rw [lz4, zI_le (by omega) (by omega) (by omega) (by omega)]
      exact ⟨fun _ => hQ, fun z => absurd (by omega) z⟩
    | succ k ih =>
      intro j hj
      show wb_X7_noteOf_4 Q (w_X7_noteOf_4 Q (k + 1)) _ _ _ M
      unfold wb_X7_noteOf_4
      rw [lz4, zI_le (by omega) (by omega) (by omega) (by omega)]
      refine ⟨fun z => by omega, fun _ => ⟨8, ?_⟩⟩
      have inner : ∀ (d s : Nat), s + d = 7 → w_X7_noteOf_12 Q (w_X7_noteOf_4 Q (k + 1)) (d + 1) (zI x) (zI (nofR x (7 * j + s))) (zI (j : Int)) (zI (s : Int)) M := by
        intro d
        induction d with
        | zero =>
          intro s hs
          have hs7 : s = 7 := by omega
          subst hs7
          show wb_X7_noteOf_12 Q (w_X7_noteOf_4 Q (k + 1)) (w_X7_noteOf_12 Q (w_X7_noteOf_4 Q (k + 1)) 0) _ _ _ _ M
          unfold wb_X7_noteOf_12
          rw [lz7, zI_le (by omega) (by omega) (by omega) (by omega)]
          refine ⟨fun _ x1 e1 => ?_, fun z => absurd (by omega) z⟩
          have e1' : x1 = zI ((j + 1 : Nat) : Int) := by rw [e1, lz1, zI_add]; rfl
          rw [e1', show 7 * j + 7 = 7 * (j + 1) by omega]
          exact ih (j + 1) (by omega)
        | succ d ihd =>
          intro s hs
          show wb_X7_noteOf_12 Q (w_X7_noteOf_4 Q (k + 1)) (w_X7_noteOf_12 Q (w_X7_noteOf_4 Q (k + 1)) (d + 1)) _ _ _ _ M
          unfold wb_X7_noteOf_12
          have nb := nv_bd ⟨7 * j + s, by omega⟩
          have no := nv_or ⟨7 * j + s, by omega⟩
          simp only at nb no
          rw [show (7 * j + s) % 7 = s by omega, show (7 * j + s) / 7 = j by omega] at no
          have e47 : M 47 s = zI (lSt.getD s 0) := by rw [hf 47 s (by unfold kp; omega)]; exact u1 s (by omega)
          have e48 : M 48 j = zI (lKd.getD j 0) := by rw [hf 48 j (by unfold kp; omega)]; exact u2 j (by omega)
          rw [lz7, zI_le (by omega) (by omega) (by omega) (by omega), zI_in (by omega) (by omega), zI_in (by omega) (by omega), zI_tn (by omega) (by omega), zI_tn (by omega) (by omega), tn_nat, tn_nat, e47, e48, no, zI_mul, zI_add]
          refine ⟨fun z => by omega, fun _ => ⟨by omega, by omega, fun z4 e4 x5 e5 => ?_⟩⟩
          have e5' : x5 = zI ((s + 1 : Nat) : Int) := by rw [e5, lz1, zI_add]; rfl
          have e4' : z4 = zI (nofR x (7 * j + (s + 1))) := by
            have k1 : zI x = zI ((nv (7 * j + s) : Nat) : Int) ↔ x = ((nv (7 * j + s) : Nat) : Int) := by rw [zI_eq (by omega) (by omega) (by omega) (by omega)]
            simp only [k1] at e4
            rw [e4]
            show _ = zI (if x = ((nv (7 * j + s) : Nat) : Int) then ((7 * j + s : Nat) : Int) else nofR x (7 * j + s))
            by_cases g : x = ((nv (7 * j + s) : Nat) : Int)
            · rw [if_pos g, if_pos g]; rfl
            · rw [if_neg g, if_neg g]
          rw [e4', e5']
          exact ihd (s + 1) (by omega)
      exact inner 7 0 (by omega)
  have k := key 4 0 (by omega)
  have e : zI (nofR x (7 * 0)) = -1 := by rw [ln1]; rfl
  rw [e] at k
  exact k
theorem nt_st {x : Int} (hx : -1 ≤ x ∧ x ≤ 64) : (ntI x < 0 ↔ stI x < 0) ∧ -1 ≤ ntI x ∧ ntI x ≤ 27 := by
  unfold ntI
  split
  · omega
  · next g =>
    have := st_kd hx.1 hx.2 (by omega)
    omega
theorem x_isNote {x : Int} (hB : XB Mv c row len) (hf : RF Mv M) (hx : -1 ≤ x ∧ x ≤ 64) (h1 : 0 ≤ stI x → Q 1 M) (h0 : stI x < 0 → Q 0 M) : w_X7_isNote (zI x) M Q := by
  have k := nt_st hx
  unfold w_X7_isNote
  refine x_noteOf hB hf hx (fun z3 e3 => ?_)
  have k1 : zI (ntI x) < 0 ↔ stI x < 0 := by rw [lz0, zI_lt (by omega) (by omega) (by omega) (by omega)]; exact k.1
  simp only [k1] at e3
  by_cases g : stI x < 0
  · rw [if_pos g] at e3
    subst e3
    exact ⟨Or.inl rfl, h0 g⟩
  · rw [if_neg g] at e3
    subst e3
    exact ⟨Or.inr rfl, h1 (by omega)⟩
theorem x_isOct {x : Int} (hB : XB Mv c row len) (hf : RF Mv M) (hx : -1 ≤ x ∧ x ≤ 64) (h1 : 0 ≤ ixF lOc x → Q 1 M) (h0 : ixF lOc x < 0 → Q 0 M) : w_X7_isOctave (zI x) M Q := by
  have b := ixF_bd lOc x
  have e : lOc.length = 7 := rfl
  unfold w_X7_isOctave
  refine x_fOc hB hf (by omega) (fun z3 e3 => ?_)
  have k1 : zI (ixF lOc x) < 0 ↔ ixF lOc x < 0 := by rw [lz0, zI_lt (by omega) (by omega) (by omega) (by omega)]
  simp only [k1] at e3
  by_cases g : ixF lOc x < 0
  · rw [if_pos g] at e3
    subst e3
    exact ⟨Or.inl rfl, h0 g⟩
  · rw [if_neg g] at e3
    subst e3
    exact ⟨Or.inr rfl, h1 (by omega)⟩
end XBase
