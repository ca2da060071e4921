section CReader
variable {M0 M M' : Mem} {S S' : Mus} {c r m p q : Nat} {row : Nat → Int} {o : Bool} {t : Int} {w : Option Int} {Q : Int32 → Mem → Prop}
def bI (o : Bool) : Int32 := if o = true then 1 else 0
theorem bI_0 {o : Bool} : bI o = 0 ↔ o = false := by cases o <;> decide
def CB (M0 : Mem) (r m c : Nat) (row : Nat → Int) : Prop := RW r ∧ MU m ∧ TB M0 ∧ M0 r 1 = zI c ∧ c ≤ 4000 ∧ ∀ j : Nat, j < c → M0 (r + 1) j = zI (row j) ∧ 0 ≤ row j ∧ row j ≤ 64
def pkF (c : Nat) (row : Nat → Int) : Nat → Int := fun j => if j < c then row j else -1
theorem PK_pkF (hB : CB M0 r m c row) : PK (pkF c row) c := by
  intro j
  unfold pkF
  by_cases g : j < c
  · have := hB.2.2.2.2.2 j g
    rw [if_pos g]
    exact ⟨fun _ => g, by omega, by omega, fun z => by omega⟩
  · rw [if_neg g]
    exact ⟨fun z => absurd rfl z, by omega, by omega, fun _ => rfl⟩
def CF (M0 M : Mem) (m : Nat) : Prop := ∀ k : Nat, (k < m ∨ m + 14 < k) → (k < 35 ∨ 45 < k) → M k = M0 k
def CR0 (M0 M : Mem) (r m : Nat) (S : Mus) (p : Nat) (o : Bool) : Prop := CF M0 M m ∧ M 40 2 = nI r ∧ M 40 3 = nI m ∧ M 40 4 = zI p ∧ M 40 5 = bI o ∧ MW M m S
def CRt (M0 M : Mem) (r m : Nat) (S : Mus) (p : Nat) (o : Bool) (t : Int) (w : Option Int) : Prop := CR0 M0 M r m S p o ∧ M 40 6 = zI t ∧ WT M 41 w
def CE (M0 M : Mem) (m e : Nat) : Prop := CF M0 M m ∧ M 40 4 = zI e
theorem CB_m (hB : CB M0 r m c row) : 5 ≤ m ∧ m ≤ 20 := by rcases hB.2.1 with rfl | rfl <;> omega
theorem CB_r (hB : CB M0 r m c row) : 1 ≤ r ∧ r ≤ 3 := by rcases hB.1 with rfl | rfl <;> omega
theorem CF_TB (hB : CB M0 r m c row) (h : CF M0 M m) : TB M := TB_of hB.2.2.1 (fun k hk => h k (by have := CB_m hB; omega) (by omega))
theorem CF_40 (hB : CB M0 r m c row) {j : Nat} {x : Int32} (h : CF M0 M m) (e : M' = mset M 40 j x) : CF M0 M' m := fun k g1 g2 => by rw [e, mset_o (by omega)]; exact h k g1 g2
theorem CF_41 (hB : CB M0 r m c row) {j : Nat} {x : Int32} (h : CF M0 M m) (e : M' = mset M 41 j x) : CF M0 M' m := fun k g1 g2 => by rw [e, mset_o (by omega)]; exact h k g1 g2
theorem CR0_at (hB : CB M0 r m c row) (h : CR0 M0 M r m S p o) (e : M' = mset M 40 4 (zI q)) : CR0 M0 M' r m S q o := by
  have hm := CB_m hB
  obtain ⟨h1, h2, h3, h4, h5, h6⟩ := h
  exact ⟨CF_40 hB h1 e, by rw [e, mset_j (by omega)]; exact h2, by rw [e, mset_j (by omega)]; exact h3, by rw [e, mset_at], by rw [e, mset_j (by omega)]; exact h5, MW_far h6 (fun k g1 g2 => by rw [e, mset_o (by omega)])⟩
theorem CRt_at (hB : CB M0 r m c row) (h : CRt M0 M r m S p o t w) (e : M' = mset M 40 4 (zI q)) : CRt M0 M' r m S q o t w := ⟨CR0_at hB h.1 e, by rw [e, mset_j (by omega)]; exact h.2.1, WT_of h.2.2 (by rw [e, mset_o (by omega)])⟩
theorem CR0_o (hB : CB M0 r m c row) {o' : Bool} {x : Int32} (h : CR0 M0 M r m S p o) (hx : x = bI o') (e : M' = mset M 40 5 x) : CR0 M0 M' r m S p o' := by
  have hm := CB_m hB
  obtain ⟨h1, h2, h3, h4, h5, h6⟩ := h
  exact ⟨CF_40 hB h1 e, by rw [e, mset_j (by omega)]; exact h2, by rw [e, mset_j (by omega)]; exact h3, by rw [e, mset_j (by omega)]; exact h4, by rw [e, mset_at]; exact hx, MW_far h6 (fun k g1 g2 => by rw [e, mset_o (by omega)])⟩
theorem CRt_o (hB : CB M0 r m c row) {o' : Bool} {x : Int32} (h : CRt M0 M r m S p o t w) (hx : x = bI o') (e : M' = mset M 40 5 x) : CRt M0 M' r m S p o' t w := ⟨CR0_o hB h.1 hx e, by rw [e, mset_j (by omega)]; exact h.2.1, WT_of h.2.2 (by rw [e, mset_o (by omega)])⟩
theorem CRt_t (hB : CB M0 r m c row) {t' : Int} (h : CRt M0 M r m S p o t w) (e : M' = mset M 40 6 (zI t')) : CRt M0 M' r m S p o t' w := by
  have hm := CB_m hB
  obtain ⟨⟨h1, h2, h3, h4, h5, h6⟩, h7, h8⟩ := h
  exact ⟨⟨CF_40 hB h1 e, by rw [e, mset_j (by omega)]; exact h2, by rw [e, mset_j (by omega)]; exact h3, by rw [e, mset_j (by omega)]; exact h4, by rw [e, mset_j (by omega)]; exact h5, MW_far h6 (fun k g1 g2 => by rw [e, mset_o (by omega)])⟩, by rw [e, mset_at], WT_of h8 (by rw [e, mset_o (by omega)])⟩
theorem CR0_mus (hB : CB M0 r m c row) (h : CR0 M0 M r m S p o) (hW : MW M' m S') (hO : onlyM M M' m) : CR0 M0 M' r m S' p o := by
  have hm := CB_m hB
  obtain ⟨h1, h2, h3, h4, h5, h6⟩ := h
  have e := hO 40 (by omega)
  exact ⟨fun k g1 g2 => by rw [hO k g1]; exact h1 k g1 g2, by rw [e]; exact h2, by rw [e]; exact h3, by rw [e]; exact h4, by rw [e]; exact h5, hW⟩
theorem CRt_mus (hB : CB M0 r m c row) (h : CRt M0 M r m S p o t w) (hW : MW M' m S') (hO : onlyM M M' m) : CRt M0 M' r m S' p o t w := by
  have hm := CB_m hB
  exact ⟨CR0_mus hB h.1 hW hO, by rw [hO 40 (by omega)]; exact h.2.1, WT_of h.2.2 (hO 41 (by omega))⟩
theorem CR0_41 (hB : CB M0 r m c row) {j : Nat} {x : Int32} (h : CR0 M0 M r m S p o) (e : M' = mset M 41 j x) : CR0 M0 M' r m S p o := by
  have hm := CB_m hB
  obtain ⟨h1, h2, h3, h4, h5, h6⟩ := h
  have e40 : M' 40 = M 40 := by rw [e, mset_o (by omega)]
  exact ⟨CF_41 hB h1 e, by rw [e40]; exact h2, by rw [e40]; exact h3, by rw [e40]; exact h4, by rw [e40]; exact h5, MW_far h6 (fun k g1 g2 => by rw [e, mset_o (by omega)])⟩
theorem CE_of (h : CR0 M0 M r m S p o) : CE M0 M m p := ⟨h.1, h.2.2.2.1⟩
theorem CE_at (hB : CB M0 r m c row) (h : CR0 M0 M r m S p o) (e : M' = mset M 40 4 (zI q)) : CE M0 M' m q := ⟨CF_40 hB h.1 e, by rw [e, mset_at]⟩
theorem e_rg (hB : CB M0 r m c row) (hf : CF M0 M m) (hq : q ≤ 6000) (hQ : Q (zI (pkF c row q)) M) : w_X2_get r (zI q) M Q := by
  have hm := CB_m hB
  have hr := CB_r hB
  obtain ⟨-, -, -, b1, b2, b3⟩ := hB
  unfold w_X2_get
  have k0 : zI (q : Int) < 0 ↔ False := by rw [lz0, zI_lt (by omega) (by omega) (by omega) (by omega)]; exact ⟨fun z => by omega, fun z => z.elim⟩
  have k1 : zI (c : Int) ≤ zI (q : Int) ↔ c ≤ q := by rw [zI_le (by omega) (by omega) (by omega) (by omega)]; omega
  have k2 : (4000 : Int32) ≤ zI (q : Int) ↔ 4000 ≤ q := by rw [lz4000, zI_le (by omega) (by omega) (by omega) (by omega)]; omega
  rw [hf r (by omega) (by omega), hf (r + 1) (by omega) (by omega), b1, zI_in (by omega) (by omega), zI_tn (by omega) (by omega), tn_nat]
  simp only [k0, k1, k2]
  refine ⟨⟨fun _ => trivial, fun _ => ⟨fun _ => trivial, fun _ => ⟨fun _ => trivial, fun _ => ⟨by omega, trivial⟩⟩⟩⟩, fun z2 e2 => ?_⟩
  rw [if_neg (fun z => z)] at e2
  unfold pkF at hQ
  by_cases g : q < c
  · rw [if_neg (by omega), if_neg (by omega), (b3 q g).1] at e2
    rw [if_pos g] at hQ
    rw [e2]
    exact hQ
  · rw [if_pos (by omega), ln1] at e2
    rw [if_neg g] at hQ
    rw [e2]
    exact hQ
theorem e_peek (hB : CB M0 r m c row) (h : CR0 M0 M r m S p o) (hp : p ≤ c) (hQ : Q (zI (pkF c row p)) M) : w_X3_peek r m M Q := by
  have := hB.2.2.2.2.1
  refine ⟨h.2.1, ?_⟩
  rw [h.2.2.2.1]
  exact e_rg hB h.1 (by omega) hQ
theorem e_sees {a b : Int} (hB : CB M0 r m c row) (h : CR0 M0 M r m S p o) (hp : p ≤ c) (ha : 0 ≤ a ∧ a ≤ 64) (hb : 0 ≤ b ∧ b ≤ 64) (h1 : pkF c row p = a ∧ pkF c row (p + 1) = b → Q 1 M) (h0 : ¬ (pkF c row p = a ∧ pkF c row (p + 1) = b) → Q 0 M) : w_X3_sees r m (zI a) (zI b) M Q := by
  have hc := hB.2.2.2.2.1
  have k1 := (PK_pkF hB p).2
  have k2 := (PK_pkF hB (p + 1)).2
  unfold w_X3_sees
  refine ⟨h.2.1, ?_⟩
  rw [h.2.2.2.1]
  refine e_rg hB h.1 (by omega) ?_
  rw [zI_eq (by omega) (by omega) (by omega) (by omega)]
  refine ⟨fun g => h0 (fun z => g z.1), fun g => ⟨h.2.1, ?_⟩⟩
  rw [h.2.2.2.1, lz1, zI_add]
  refine e_rg (q := p + 1) hB h.1 (by omega) (fun z7 e7 => ?_)
  have k3 : zI (pkF c row (p + 1)) = zI b ↔ pkF c row (p + 1) = b := by rw [zI_eq (by omega) (by omega) (by omega) (by omega)]
  simp only [k3] at e7
  by_cases g2 : pkF c row (p + 1) = b
  · rw [if_pos g2] at e7
    subst e7
    exact ⟨Or.inr rfl, h1 ⟨g, g2⟩⟩
  · rw [if_neg g2] at e7
    subst e7
    exact ⟨Or.inl rfl, h0 (fun z => g2 z.2)⟩
theorem e_indexIn {i : Nat} {l : List Int} {x : Int} (hx : -1000 ≤ x ∧ x ≤ 1000) (hn : M 110 i = zI (l.length : Int)) (hl : l.length ≤ 100) (hv : ∀ j : Nat, j < l.length → M (100 + i) j = zI (l.getD j 0) ∧ 0 ≤ l.getD j 0 ∧ l.getD j 0 ≤ 64) (hQ : Q (zI (ixF l x)) M) : w_X6_indexIn i (zI x) M Q := by
  refine ⟨l.length + 1, ?_⟩
  have key : ∀ (k j : Nat), j + k = l.length → ixF l x = ixG l x k j → w_X6_indexIn_2 i Q (k + 1) (zI x) (zI j) M := by
    intro k
    induction k with
    | zero =>
      intro j hj he
      show wb_X6_indexIn_2 i Q (w_X6_indexIn_2 i Q 0) _ _ M
      unfold wb_X6_indexIn_2
      rw [hn, zI_tn (by omega) (by omega), tn_nat, zI_nI, zI_le (by omega) (by omega) (by omega) (by omega)]
      refine ⟨fun _ => ?_, fun q => by omega⟩
      rw [he] at hQ
      rw [ln1]
      exact hQ
    | succ k ih =>
      intro j hj he
      show wb_X6_indexIn_2 i Q (w_X6_indexIn_2 i Q (k + 1)) _ _ M
      unfold wb_X6_indexIn_2
      have hvj := hv j (by omega)
      rw [hn, zI_tn (a := (l.length : Int)) (by omega) (by omega), tn_nat, zI_nI, zI_le (by omega) (by omega) (by omega) (by omega), zI_in (by omega) (by omega), zI_tn (by omega) (by omega), tn_nat, hvj.1, zI_eq (by omega) (by omega) (by omega) (by omega)]
      have eg : ixG l x (k + 1) j = if l.getD j 0 = x then (j : Int) else ixG l x k (j + 1) := rfl
      rw [eg] at he
      refine ⟨fun q => by omega, fun q => ⟨by omega, fun g x2 e2 => ?_, fun g => ?_⟩⟩
      · have e2' : x2 = zI ((j + 1 : Nat) : Int) := by rw [e2, lz1, zI_add]; rfl
        subst e2'
        rw [if_neg g] at he
        exact ih (j + 1) (by omega) he
      · rw [if_pos g] at he
        rw [he] at hQ
        exact hQ
  exact key l.length 0 (by omega) rfl
theorem tb_St (hT : TB M) {x : Int} (hx : -1000 ≤ x ∧ x ≤ 1000) (hQ : Q (zI (ixF lSt x)) M) : w_X6_indexIn 0 (zI x) M Q := by
  obtain ⟨⟨t0, -⟩, u0, -⟩ := hT
  refine e_indexIn (l := lSt) hx t0 (by decide) (fun j hj => ⟨u0 j hj, ?_⟩) hQ
  have : ∀ j : Fin 7, 0 ≤ lSt.getD j.val 0 ∧ lSt.getD j.val 0 ≤ 64 := by decide
  exact this ⟨j, hj⟩
theorem tb_Kd (hT : TB M) {x : Int} (hx : -1000 ≤ x ∧ x ≤ 1000) (hQ : Q (zI (ixF lKd x)) M) : w_X6_indexIn 1 (zI x) M Q := by
  obtain ⟨⟨-, t1, -⟩, -, u1, -⟩ := hT
  refine e_indexIn (l := lKd) hx t1 (by decide) (fun j hj => ⟨u1 j hj, ?_⟩) hQ
  have : ∀ j : Fin 4, 0 ≤ lKd.getD j.val 0 ∧ lKd.getD j.val 0 ≤ 64 := by decide
  exact this ⟨j, hj⟩
theorem tb_Rs (hT : TB M) {x : Int} (hx : -1000 ≤ x ∧ x ≤ 1000) (hQ : Q (zI (ixF lRs x)) M) : w_X6_indexIn 2 (zI x) M Q := by
  obtain ⟨⟨-, -, t2, -⟩, -, -, u2, -⟩ := hT
  refine e_indexIn (l := lRs) hx t2 (by decide) (fun j hj => ⟨u2 j hj, ?_⟩) hQ
  have : ∀ j : Fin 4, 0 ≤ lRs.getD j.val 0 ∧ lRs.getD j.val 0 ≤ 64 := by decide
  exact this ⟨j, hj⟩
theorem tb_Oc (hT : TB M) {x : Int} (hx : -1000 ≤ x ∧ x ≤ 1000) (hQ : Q (zI (ixF lOc x)) M) : w_X6_indexIn 3 (zI x) M Q := by
  obtain ⟨⟨-, -, -, t3, -⟩, -, -, -, u3, -⟩ := hT
  refine e_indexIn (l := lOc) hx t3 (by decide) (fun j hj => ⟨u3 j hj, ?_⟩) hQ
  have : ∀ j : Fin 7, 0 ≤ lOc.getD j.val 0 ∧ lOc.getD j.val 0 ≤ 64 := by decide
  exact this ⟨j, hj⟩
theorem tb_Sg (hT : TB M) {x : Int} (hx : -1000 ≤ x ∧ x ≤ 1000) (hQ : Q (zI (ixF lSg x)) M) : w_X6_indexIn 4 (zI x) M Q := by
  obtain ⟨⟨-, -, -, -, t4, -⟩, -, -, -, -, u4, -⟩ := hT
  refine e_indexIn (l := lSg) hx t4 (by decide) (fun j hj => ⟨u4 j hj, ?_⟩) hQ
  have : ∀ j : Fin 3, 0 ≤ lSg.getD j.val 0 ∧ lSg.getD j.val 0 ≤ 64 := by decide
  exact this ⟨j, hj⟩
theorem tb_Dn (hT : TB M) {x : Int} (hx : -1000 ≤ x ∧ x ≤ 1000) (hQ : Q (zI (ixF lDn x)) M) : w_X6_indexIn 5 (zI x) M Q := by
  obtain ⟨⟨-, -, -, -, -, t5, -⟩, -, -, -, -, -, u5, -⟩ := hT
  refine e_indexIn (l := lDn) hx t5 (by decide) (fun j hj => ⟨u5 j hj, ?_⟩) hQ
  have : ∀ j : Fin 7, 0 ≤ lDn.getD j.val 0 ∧ lDn.getD j.val 0 ≤ 64 := by decide
  exact this ⟨j, hj⟩
theorem e_sizeSign (hB : CB M0 r m c row) (h : CRt M0 M r m S p o t w) (hp : p ≤ c) (hE : ∀ e : Nat, sizeP (pkF c row) p t = .error e → ∀ M' : Mem, CE M0 M' m e → Q 0 M') (hO : ∀ (q : Nat) (t1 : Int), sizeP (pkF c row) p t = .ok (q, t1) → ∀ M' : Mem, CRt M0 M' r m S q o t1 w → Q 1 M') : w_X3_readSizeSign r m M Q := by
  have hc := hB.2.2.2.2.1
  have k0 := (PK_pkF hB p).2
  have k1 := (PK_pkF hB (p + 1)).2
  have k2 := (PK_pkF hB (p + 2)).2
  have no : ¬ ((pkF c row p = 24 ∨ pkF c row p = 32) ∧ pkF c row (p + 1) = 35) → Q 1 M := fun g => hO p t (by unfold sizeP; rw [if_neg g]) M h
  have go : (pkF c row p = 24 ∨ pkF c row p = 32) → w_X3_readSizeSign_17 r m Q (zI (pkF c row p)) M := by
    intro g
    unfold w_X3_readSizeSign_17
    refine ⟨h.1.2.1, ?_⟩
    rw [h.1.2.2.2.1, lz1, zI_add]
    refine e_rg (q := p + 1) hB h.1.1 (by omega) ?_
    rw [lz35, zI_eq (by omega) (by omega) (by omega) (by omega)]
    refine ⟨fun g2 M6 e6 => ?_, fun g2 => no (fun z => g2 z.2)⟩
    rw [h.1.2.2.2.1, lz2, zI_add] at e6
    have hin := (PK_pkF hB (p + 1)).1 (by omega)
    have h6 := CRt_at (q := p + 2) hB h e6
    refine e_peek hB h6.1 (by omega) ?_
    rw [lz2, zI_eq (by omega) (by omega) (by omega) (by omega)]
    have es : sizeP (pkF c row) p t = if pkF c row (p + 2) = 2 then .ok (p + 3, if pkF c row p = 24 then 0 else 1) else .error (p + 2) := by
      unfold sizeP
      rw [if_pos ⟨g, g2⟩]
    refine ⟨fun g3 M9 e9 z10 e10 M11 e11 => ?_, fun g3 => hE (p + 2) (by rw [es, if_neg g3]) M6 (CE_of h6.1)⟩
    rw [h6.1.2.2.2.1, zI_add] at e9
    have h9 := CRt_at (q := p + 3) hB h6 e9
    have e10' : z10 = zI (if pkF c row p = 24 then 0 else 1) := by
      rw [e10]
      have : zI (pkF c row p) = 24 ↔ pkF c row p = 24 := by rw [lz24, zI_eq (by omega) (by omega) (by omega) (by omega)]
      simp only [this]
      by_cases g4 : pkF c row p = 24
      · rw [if_pos g4, if_pos g4]; rfl
      · rw [if_neg g4, if_neg g4]
    rw [e10'] at e11
    exact hO (p + 3) _ (by rw [es, if_pos g3]) M11 (CRt_t hB h9 e11)
  unfold w_X3_readSizeSign
  refine e_peek hB h.1 hp ?_
  rw [lz24, zI_eq (by omega) (by omega) (by omega) (by omega), lz32, zI_eq (by omega) (by omega) (by omega) (by omega)]
  exact ⟨fun g => go (Or.inl g), fun g => ⟨fun g2 => no (by omega), fun g2 => go (Or.inr g2)⟩⟩
theorem e_open (hB : CB M0 r m c row) (h : CRt M0 M r m S p o t w) (hp : p ≤ c) (hE : ∀ e : Nat, openP (pkF c row) p o = .error e → ∀ M' : Mem, CE M0 M' m e → Q 0 M') (hO : ∀ (q : Nat) (o1 : Bool), openP (pkF c row) p o = .ok (q, o1) → ∀ M' : Mem, CRt M0 M' r m S q o1 t w → Q 1 M') : w_X3_readOpen r m M Q := by
  unfold w_X3_readOpen
  rw [lz48, lz3]
  refine e_sees hB h.1 hp (by omega) (by omega) (fun g => ⟨fun _ => ?_, fun z => absurd z (by decide)⟩) (fun g => ⟨fun z => absurd rfl z, fun _ => hO p o (by unfold openP; rw [if_neg g]) M h⟩)
  have es : openP (pkF c row) p o = if o = true then .error (p + 1) else .ok (p + 2, true) := by
    unfold openP
    rw [if_pos g]
  rw [h.1.2.2.2.2.1, h.1.2.2.2.1]
  refine ⟨fun g2 M3 e3 M4 e4 => ?_, fun g2 M5 e5 => ?_⟩
  · have ho := bI_0.mp g2
    have h3 := CRt_o (o' := true) hB h rfl e3
    rw [h3.1.2.2.2.1, lz2, zI_add] at e4
    exact hO (p + 2) true (by rw [es, ho]; rfl) M4 (CRt_at (q := p + 2) hB h3 e4)
  · have ho : o = true := by
      cases o with
      | true => rfl
      | false => exact absurd rfl g2
    rw [lz1, zI_add] at e5
    exact hE (p + 1) (by rw [es, if_pos ho]) M5 (CE_at (q := p + 1) hB h.1 e5)
theorem e_dots (hB : CB M0 r m c row) (h : CRt M0 M r m S p o t w) (hp : p ≤ c) (hQ : ∀ M' : Mem, CRt M0 M' r m S (p + dotN (pkF c row) p) o t w → Q (zI (dotN (pkF c row) p : Int)) M') : w_X3_readDots r m M Q := by
  have hP := PK_pkF hB
  refine ⟨3, ?_⟩
  have k0 := (hP p).2
  have k1 := (hP (p + 1)).2
  show wb_X3_readDots_2 r m Q (wb_X3_readDots_2 r m Q (wb_X3_readDots_2 r m Q (fun _ _ => False))) 0 M
  unfold wb_X3_readDots_2
  refine ⟨fun z => absurd z (by decide), fun _ => e_peek hB h.1 hp ?_⟩
  rw [lz4, zI_eq (by omega) (by omega) (by omega) (by omega)]
  refine ⟨fun g => ?_, fun g x3 e3 M4 e4 => ?_⟩
  · have hd : dotN (pkF c row) p = 0 := by unfold dotN; rw [if_neg g]
    rw [hd] at hQ
    exact hQ M h
  · rw [h.1.2.2.2.1, lz1, zI_add] at e4
    have hin := (hP p).1 (by omega)
    have h4 := CRt_at (q := p + 1) hB h e4
    subst e3
    refine ⟨fun z => absurd z (by decide +kernel), fun _ => e_peek hB h4.1 (by omega) ?_⟩
    rw [zI_eq (by omega) (by omega) (by omega) (by omega)]
    refine ⟨fun g2 => ?_, fun g2 x3 e3 M5 e5 => ?_⟩
    · have hd : dotN (pkF c row) p = 1 := by unfold dotN; rw [if_pos g, if_neg g2]
      rw [hd] at hQ
      exact hQ M4 h4
    · rw [h4.1.2.2.2.1, lz1, zI_add] at e5
      have h5 := CRt_at (q := p + 2) hB h4 e5
      subst e3
      have hd : dotN (pkF c row) p = 2 := by unfold dotN; rw [if_pos g, if_pos g2]
      rw [hd] at hQ
      exact ⟨fun _ => hQ M5 h5, fun z => absurd (by decide +kernel) z⟩
end CReader
