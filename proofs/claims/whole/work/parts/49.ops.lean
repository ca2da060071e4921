/-- class and reference hold one and the same -/
def ST (M : Mem) (S : Mus) (c : Nat) (row : Nat → Int) (r m : Nat) : Prop := CS M S c row r m ∧ RS M S c row ∧ GV S
def INV (M : Mem) : Prop := ∃ (S : Mus) (c : Nat) (row : Nat → Int) (r m : Nat), ST M S c row r m
def ke (M M' : Mem) : Prop := ∀ k : Nat, 100 ≤ k → M' k = M k
theorem ke_of {M M1 M2 : Mem} (h1 : fz M M1) (h2 : fl M1 M2) : ke M M2 := fun k hk => (h2 k (by omega)).trans (h1 k (by omega))
theorem zI_inj {a b : Int} (h : zI a = zI b) (ha : -2147483648 ≤ a) (ha2 : a < 2147483648) (hb : -2147483648 ≤ b) (hb2 : b < 2147483648) : a = b := (zI_eq ha ha2 hb hb2).mp h
section Ops
variable {M : Mem} {S : Mus} {c r m : Nat} {row : Nat → Int} {K : Int32 → Int32 → Mem → Prop} {R : Int32 → Mem → Prop}
theorem fz_rf : fz M M := fun _ _ => rfl
theorem fl_rf : fl M M := fun _ _ => rfl
theorem ke_rf : ke M M := fun _ _ => rfl
theorem inv_of {M1 M2 : Mem} {S : Mus} {c r m : Nat} {row : Nat → Int} (h1 : CS M1 S c row r m) (h2 : fl M1 M2) (h3 : RS M2 S c row) (h4 : GV S) : INV M2 := ⟨S, c, row, r, m, CS_fl h1 h2, h3, h4⟩
theorem op_clear (h : ST M S c row r m) (hR : ∀ v M1, fz M M1 → w_X7_clear M1 (K v) → R v M1) (hK : ∀ v1 v2 M2, INV M2 → ke M M2 → K v1 v2 M2) : w_X6_clear r m M R := by
  refine c_clear h.1 (fun M1 h1 f1 => hR _ _ f1 (x_clear (RS_fz h.2.1 f1) (fun M2 h2 f2 => hK _ _ _ (inv_of h1 f2 h2 GV_nil) (ke_of f1 f2))))
theorem op_cell (h : ST M S c row r m) (p : Int32) (hR : ∀ v M1, fz M M1 → w_X7_cell p M1 (K v) → R v M1) (hK : ∀ v M2, INV M2 → ke M M2 → K v v M2) : w_X6_cell r p M R := by
  have hc := h.1.2.2.2.2.2.2.2.2.1
  have same : INV M := ⟨S, c, row, r, m, h⟩
  refine c_cell p h.1 (fun a e g b1 b2 => ?_) (fun a e g1 g2 g3 => ?_) (fun a e g1 g2 g3 M1 h1 f1 => ?_)
  · subst e
    exact hR _ _ fz_rf (x_cell h.2.1 ⟨b1, b2⟩ (fun _ => hK _ _ same ke_rf) (fun k1 k2 => by omega) (fun k1 k2 => by omega))
  · subst e
    exact hR _ _ fz_rf (x_cell h.2.1 (by omega) (fun k => by omega) (fun _ _ _ => hK _ _ same ke_rf) (fun _ _ k => by omega))
  · subst e
    exact hR _ _ f1 (x_cell (RS_fz h.2.1 f1) (by omega) (fun k => by omega) (fun _ _ k => by omega) (fun _ _ _ M2 h2 f2 => hK _ _ (inv_of h1 f2 h2 h.2.2) (ke_of f1 f2)))
theorem op_cut (h : ST M S c row r m) (p : Int32) (hR : ∀ v M1, fz M M1 → w_X7_cut p M1 (K v) → R v M1) (hK : ∀ v M2, INV M2 → ke M M2 → K v v M2) : w_X6_cut r p M R := by
  have hc := h.1.2.2.2.2.2.2.2.2.1
  have same : INV M := ⟨S, c, row, r, m, h⟩
  refine c_cut p h.1 (fun a e g b1 b2 => ?_) (fun a e g1 M1 h1 f1 => ?_)
  · subst e
    exact hR _ _ fz_rf (x_cut h.2.1 ⟨b1, b2⟩ (fun _ => hK _ _ same ke_rf) (fun k1 k2 => by omega))
  · subst e
    refine hR _ _ f1 (x_cut (RS_fz h.2.1 f1) (by omega) (fun k => by omega) (fun _ _ M2 h2 f2 => ?_))
    rw [tn_nat] at h2
    exact hK _ _ (inv_of h1 f2 h2 h.2.2) (ke_of f1 f2)
theorem op_at (h : ST M S c row r m) (p : Int32) (hR : ∀ v M1, fz M M1 → w_X7_at p M1 (K v) → R v M1) (hK : ∀ v M2, INV M2 → ke M M2 → K v v M2) : w_X6_at r p M R := by
  have hc := h.1.2.2.2.2.2.2.2.2.1
  have same : INV M := ⟨S, c, row, r, m, h⟩
  refine c_at p h.1 (fun a e g b1 b2 => ?_) (fun a e g1 => ?_)
  · subst e
    exact hR _ _ fz_rf (x_at h.2.1 ⟨b1, b2⟩ (fun _ => hK _ _ same ke_rf) (fun k1 k2 => by omega))
  · subst e
    refine hR _ _ fz_rf (x_at h.2.1 (by omega) (fun k => by omega) (fun _ _ => ?_))
    rw [tn_nat]
    exact hK _ _ same ke_rf
theorem op_meter (h : ST M S c row r m) (p1 p2 : Int32) (hR : ∀ v M1, fz M M1 → w_X7_meter p1 p2 M1 (K v) → R v M1) (hK : ∀ v M2, INV M2 → ke M M2 → K v v M2) : w_X6_meter m p1 p2 M R := by
  have same : INV M := ⟨S, c, row, r, m, h⟩
  have hv := h.2.1.2.2.2.2.2.2
  have bd : ∀ u d : Int, okMet u d → (-2147483648 ≤ u ∧ u < 2147483648) ∧ (-2147483648 ≤ d ∧ d < 2147483648) := fun u d k => by unfold okMet at k; omega
  refine c_meter p1 p2 h.1 (fun u d e1 e2 b1 b2 b3 b4 g => ?_) (fun u d e1 e2 g1 g2 => ?_) (fun u d e1 e2 g1 g2 M1 h1 f1 => ?_)
  · subst e1 e2
    exact hR _ _ fz_rf (x_meter h.2.1 ⟨b1, b2⟩ ⟨b3, b4⟩ (fun _ => hK _ _ same ke_rf) (fun k => absurd k g) (fun k => absurd k g))
  · subst e1 e2
    exact hR _ _ fz_rf (x_meter h.2.1 (bd u d g1).1 (bd u d g1).2 (fun k => absurd g1 k) (fun _ _ => hK _ _ same ke_rf) (fun _ k => by omega))
  · subst e1 e2
    exact hR _ _ f1 (x_meter (RS_fz h.2.1 f1) (bd u d g1).1 (bd u d g1).2 (fun k => absurd g1 k) (fun _ k => by omega) (fun _ _ M2 h2 f2 => hK _ _ (inv_of h1 f2 h2 (GV_len hv g2 h.2.2)) (ke_of f1 f2)))
theorem op_hand (h : ST M S c row r m) (p : Int32) (hR : ∀ v M1, fz M M1 → w_X7_hand p M1 (K v) → R v M1) (hK : ∀ v M2, INV M2 → ke M M2 → K v v M2) : w_X6_hand m p M R := by
  have same : INV M := ⟨S, c, row, r, m, h⟩
  refine c_hand p h.1 (fun a e g b1 b2 => ?_) (fun a e g1 g2 g3 => ?_) (fun a e g1 g2 g3 M1 h1 f1 => ?_)
  · subst e
    exact hR _ _ fz_rf (x_hand h.2.1 ⟨b1, b2⟩ h.2.2 (fun _ => hK _ _ same ke_rf) (fun k1 k2 => by omega) (fun k1 k2 => by omega))
  · subst e
    exact hR _ _ fz_rf (x_hand h.2.1 (by omega) h.2.2 (fun k => by omega) (fun _ _ _ => hK _ _ same ke_rf) (fun _ _ k => absurd k g3))
  · subst e
    exact hR _ _ f1 (x_hand (RS_fz h.2.1 f1) (by omega) h.2.2 (fun k => by omega) (fun _ _ k => absurd g3 k) (fun _ _ _ M2 h2 f2 => hK _ _ (inv_of h1 f2 h2 (GV_hd h.2.2)) (ke_of f1 f2)))
theorem op_bar (h : ST M S c row r m) (p : Int32) (hR : ∀ v M1, fz M M1 → w_X7_bar p M1 (K v) → R v M1) (hK : ∀ v M2, INV M2 → ke M M2 → K v v M2) : w_X6_bar m p M R := by
  have same : INV M := ⟨S, c, row, r, m, h⟩
  have hv := h.2.1.2.2.2.2.2.2
  refine c_bar p h.1 (fun g => ?_) (fun g1 g2 g3 => ?_) (fun g1 g2 g3 g4 M1 h1 f1 => ?_) (fun g1 g2 g3 M1 h1 f1 => ?_)
  · refine hR _ _ fz_rf (x_bar p h.2.1 (fun _ => hK _ _ same ke_rf) (fun k1 k2 => ?_) (fun k1 k2 k3 => ?_) (fun k1 k2 => ?_))
    · rcases g with g | g
      · exact absurd k1 g
      · exact absurd g.1 (by rcases k2 with k2 | k2; exact fun z => z k2; exact absurd g.2 k2)
    · rcases g with g | g
      · exact absurd k1 g
      · exact absurd g.2 k3
    · rcases g with g | g
      · exact absurd k1 g
      · exact absurd k2 g.1
  · refine hR _ _ fz_rf (x_bar p h.2.1 (fun k => ?_) (fun _ _ _ => hK _ _ same ke_rf) (fun _ _ _ k => by omega) (fun _ _ k => by omega))
    rcases k with k | k
    · exact absurd g1 k
    · rcases g2 with g2 | g2
      · exact absurd g2 k.1
      · exact absurd k.2 g2
  · refine hR _ _ f1 (x_bar p (RS_fz h.2.1 f1) (fun k => ?_) (fun _ _ k => by omega) (fun _ _ _ _ M2 h2 f2 => hK _ _ (inv_of h1 f2 h2 (GV_bar hv h.2.2 g1)) (ke_of f1 f2)) (fun _ k => absurd k g2))
    rcases k with k | k
    · exact absurd g1 k
    · exact absurd k.2 g3
  · refine hR _ _ f1 (x_bar p (RS_fz h.2.1 f1) (fun k => ?_) (fun _ _ k => by omega) (fun _ k => absurd g2 k) (fun _ _ _ M2 h2 f2 => hK _ _ (inv_of h1 f2 h2 ?_) (ke_of f1 f2)))
    · rcases k with k | k
      · exact absurd g1 k
      · exact absurd g2 k.1
    · have hvb := MV_bar hv g3
      refine GV_voice hvb (GV_bar hv h.2.2 g1) (Nat.succ_pos _) ?_
      have hgb := GV_bar hv h.2.2 g1
      refine whole_all hvb hgb (Or.inl ?_)
      unfold lastS
      have e : gVo (sBar S) (gNb (sBar S) - 1) = 0 := by
        show (if gNb S + 1 - 1 = gNb S then 0 else gVo S (gNb S + 1 - 1)) = 0
        rw [if_pos (by omega)]
      rw [if_pos (Or.inr e)]
      omega
theorem op_voice (h : ST M S c row r m) (hR : ∀ v M1, fz M M1 → w_X7_voice M1 (K v) → R v M1) (hK : ∀ v M2, INV M2 → ke M M2 → K v v M2) : w_X6_voice m M R := by
  have same : INV M := ⟨S, c, row, r, m, h⟩
  have hv := h.2.1.2.2.2.2.2.2
  refine c_voice h.1 (fun g => ?_) (fun g1 g2 g3 => ?_) (fun g1 g2 g3 M1 h1 f1 => ?_)
  · exact hR _ _ fz_rf (x_voice h.2.1 (fun _ => hK _ _ same ke_rf) (fun k1 k2 => absurd g (by rintro (z | z); exact k1 z; exact z k2)) (fun k1 k2 => absurd g (by rintro (z | z); exact k1 z; exact z k2)))
  · exact hR _ _ fz_rf (x_voice h.2.1 (fun k => absurd k (by rintro (z | z); exact g1 z; exact z g2)) (fun _ _ _ => hK _ _ same ke_rf) (fun _ _ k => by omega))
  · have hn : 0 < gNb S := by have := (lastS_sp g1).1; omega
    exact hR _ _ f1 (x_voice (RS_fz h.2.1 f1) (fun k => absurd k (by rintro (z | z); exact g1 z; exact z g2)) (fun _ _ k => by omega) (fun _ _ _ M2 h2 f2 => hK _ _ (inv_of h1 f2 h2 (GV_voice hv h.2.2 hn (whole_all hv h.2.2 g2))) (ke_of f1 f2)))
theorem op_note (h : ST M S c row r m) (p1 p2 p3 p4 p5 : Int32) (hR : ∀ v M1, fz M M1 → w_X7_note p1 p2 p3 p4 p5 M1 (K v) → R v M1) (hK : ∀ v M2, INV M2 → ke M M2 → K v v M2) : w_X6_note m p1 p2 p3 p4 p5 M R := by
  have same : INV M := ⟨S, c, row, r, m, h⟩
  have hv := h.2.1.2.2.2.2.2.2
  obtain ⟨a2, rfl, x1, y1⟩ := zI_ex p1
  obtain ⟨a3, rfl, x2, y2⟩ := zI_ex p2
  obtain ⟨a4, rfl, x3, y3⟩ := zI_ex p3
  obtain ⟨a5, rfl, x4, y4⟩ := zI_ex p4
  obtain ⟨a6, rfl, x5, y5⟩ := zI_ex p5
  refine c_note h.1 ⟨x1, y1⟩ ⟨x2, y2⟩ ⟨x3, y3⟩ ⟨x4, y4⟩ ⟨x5, y5⟩ (fun g => ?_) (fun g => ?_)
  · exact hR _ _ fz_rf (x_note h.2.1 ⟨x1, y1⟩ ⟨x2, y2⟩ ⟨x3, y3⟩ ⟨x4, y4⟩ ⟨x5, y5⟩ (fun _ => hK _ _ same ke_rf) (fun k => absurd k g) (fun k => absurd k g) (fun k => absurd k g))
  · have g' := g
    unfold okNote at g'
    have e5 : (if a5 = 2 then gLen S else lenI a4 a5 a6) = lenI a4 a5 a6 := if_neg (by omega)
    refine c_timed h.1 (Or.inr g'.1) g'.2.1 g'.2.2.1 (by omega) g'.2.2.2.2 (fun k => ?_) (fun k1 k2 k3 => ?_) (fun k1 k2 k3 k4 M1 h1 f1 => ?_)
    · rw [e5] at k
      exact hR _ _ fz_rf (x_note h.2.1 ⟨x1, y1⟩ ⟨x2, y2⟩ ⟨x3, y3⟩ ⟨x4, y4⟩ ⟨x5, y5⟩ (fun z => absurd g z) (fun _ _ => hK _ _ same ke_rf) (fun _ z1 z2 => by omega) (fun _ z1 z2 => by omega))
    · rw [e5] at k2
      exact hR _ _ fz_rf (x_note h.2.1 ⟨x1, y1⟩ ⟨x2, y2⟩ ⟨x3, y3⟩ ⟨x4, y4⟩ ⟨x5, y5⟩ (fun z => absurd g z) (fun _ z => by omega) (fun _ _ _ _ => hK _ _ same ke_rf) (fun _ _ _ z3 z4 => by omega))
    · have k2' := k2
      rw [e5] at k2
      exact hR _ _ f1 (x_note (RS_fz h.2.1 f1) ⟨x1, y1⟩ ⟨x2, y2⟩ ⟨x3, y3⟩ ⟨x4, y4⟩ ⟨x5, y5⟩ (fun z => absurd g z) (fun _ z => by omega) (fun _ _ _ z => by omega) (fun _ _ _ _ _ M2 h2 f2 => hK _ _ (inv_of h1 f2 h2 (GV_item hv h.2.2 k1 (by omega) (fun z => by omega) k2')) (ke_of f1 f2)))
theorem op_rest (h : ST M S c row r m) (p1 p2 p3 : Int32) (hR : ∀ v M1, fz M M1 → w_X7_rest p1 p2 p3 M1 (K v) → R v M1) (hK : ∀ v M2, INV M2 → ke M M2 → K v v M2) : w_X6_rest m p1 p2 p3 M R := by
  have same : INV M := ⟨S, c, row, r, m, h⟩
  have hv := h.2.1.2.2.2.2.2.2
  obtain ⟨a4, rfl, x3, y3⟩ := zI_ex p1
  obtain ⟨a5, rfl, x4, y4⟩ := zI_ex p2
  obtain ⟨a6, rfl, x5, y5⟩ := zI_ex p3
  refine c_rest h.1 ⟨x3, y3⟩ ⟨x4, y4⟩ ⟨x5, y5⟩ (fun g => ?_) (fun g => ?_)
  · exact hR _ _ fz_rf (x_rest h.2.1 ⟨x3, y3⟩ ⟨x4, y4⟩ ⟨x5, y5⟩ (fun _ => hK _ _ same ke_rf) (fun k => absurd k g) (fun k => absurd k g) (fun k => absurd k g))
  · have g' := g
    unfold okRest at g'
    refine c_timed h.1 (Or.inl rfl) (by omega) g'.1 g'.2.1 g'.2.2.1 (fun k => ?_) (fun k1 k2 k3 => ?_) (fun k1 k2 k3 k4 M1 h1 f1 => ?_)
    · exact hR _ _ fz_rf (x_rest h.2.1 ⟨x3, y3⟩ ⟨x4, y4⟩ ⟨x5, y5⟩ (fun z => absurd g z) (fun _ _ => hK _ _ same ke_rf) (fun _ z1 z2 => by omega) (fun _ z1 z2 => by omega))
    · exact hR _ _ fz_rf (x_rest h.2.1 ⟨x3, y3⟩ ⟨x4, y4⟩ ⟨x5, y5⟩ (fun z => absurd g z) (fun _ z => by omega) (fun _ _ _ _ => hK _ _ same ke_rf) (fun _ _ _ z3 z4 => by omega))
    · exact hR _ _ f1 (x_rest (RS_fz h.2.1 f1) ⟨x3, y3⟩ ⟨x4, y4⟩ ⟨x5, y5⟩ (fun z => absurd g z) (fun _ z => by omega) (fun _ _ _ z => by omega) (fun _ _ _ _ _ M2 h2 f2 => hK _ _ (inv_of h1 f2 h2 (GV_item hv h.2.2 k1 (by omega) (fun z => ⟨rfl, (g'.2.2.2 z).1, (g'.2.2.2 z).2⟩) k2)) (ke_of f1 f2)))
theorem op_interval (h : ST M S c row r m) (p1 p2 : Int32) (hR : ∀ v M1, fz M M1 → w_X7_interval p1 p2 M1 (K v) → R v M1) (hK : ∀ v M2, INV M2 → ke M M2 → K v v M2) : w_X6_interval m p1 p2 M R := by
  have same : INV M := ⟨S, c, row, r, m, h⟩
  have hv := h.2.1.2.2.2.2.2.2
  obtain ⟨n, rfl, x1, y1⟩ := zI_ex p1
  obtain ⟨s, rfl, x2, y2⟩ := zI_ex p2
  refine c_interval h.1 ⟨x1, y1⟩ ⟨x2, y2⟩ (fun g => ?_) (fun g1 g2 => ?_) (fun g1 g2 g3 g4 g5 => ?_) (fun g1 g2 g3 g4 g5 M1 h1 f1 => ?_)
  · exact hR _ _ fz_rf (x_interval h.2.1 ⟨x1, y1⟩ ⟨x2, y2⟩ (fun _ => hK _ _ same ke_rf) (fun k => absurd k g) (fun k => absurd k g) (fun k => absurd k g))
  · have no : 0 < gNi S → ¬ gIt S (gNi S - 1) 2 = 0 → (7 ≤ ivP S n ∧ ivP S n ≤ 55) → False := fun q1 q2 q3 => by
      rcases g2 with g2 | g2 | g2
      · omega
      · exact q2 g2
      · exact g2 q3
    exact hR _ _ fz_rf (x_interval h.2.1 ⟨x1, y1⟩ ⟨x2, y2⟩ (fun k => absurd g1 k) (fun _ _ => hK _ _ same ke_rf) (fun _ q1 q2 q3 => (no q1 q2 q3).elim) (fun _ q1 q2 q3 => (no q1 q2 q3).elim))
  · have no : (gNi S = 0 ∨ gIt S (gNi S - 1) 2 = 0 ∨ ¬ (7 ≤ ivP S n ∧ ivP S n ≤ 55)) → False := fun q => by
      rcases q with q | q | q
      · omega
      · exact g3 q
      · exact q g4
    exact hR _ _ fz_rf (x_interval h.2.1 ⟨x1, y1⟩ ⟨x2, y2⟩ (fun k => absurd g1 k) (fun _ q => (no q).elim) (fun _ _ _ _ _ => hK _ _ same ke_rf) (fun _ _ _ _ q => by omega))
  · have no : (gNi S = 0 ∨ gIt S (gNi S - 1) 2 = 0 ∨ ¬ (7 ≤ ivP S n ∧ ivP S n ≤ 55)) → False := fun q => by
      rcases q with q | q | q
      · omega
      · exact g3 q
      · exact q g4
    have h9 := (hv.2.2.2.2.2.1 (gNi S - 1) (by omega)).2.2.2.2.2.2.2.2.2.1.1
    exact hR _ _ f1 (x_interval (RS_fz h.2.1 f1) ⟨x1, y1⟩ ⟨x2, y2⟩ (fun k => absurd g1 k) (fun _ q => (no q).elim) (fun _ _ _ _ q => by omega) (fun _ _ _ _ _ M2 h2 f2 => hK _ _ (inv_of h1 f2 h2 (GV_iv h.2.2 h9 g3)) (ke_of f1 f2)))
theorem op_tie (h : ST M S c row r m) (p : Int32) (hR : ∀ v M1, fz M M1 → w_X7_tie p M1 (K v) → R v M1) (hK : ∀ v M2, INV M2 → ke M M2 → K v v M2) : w_X6_tie m p M R := by
  have same : INV M := ⟨S, c, row, r, m, h⟩
  refine c_tie p h.1 (fun g => ?_) (fun g1 g2 M1 h1 f1 => ?_)
  · exact hR _ _ fz_rf (x_tie p h.2.1 (fun _ => hK _ _ same ke_rf) (fun k1 k2 => absurd g (by rintro (z | z); omega; exact k2 z)))
  · exact hR _ _ f1 (x_tie p (RS_fz h.2.1 f1) (fun k => absurd k (by rintro (z | z); omega; exact g2 z)) (fun _ _ M2 h2 f2 => hK _ _ (inv_of h1 f2 h2 (GV_set h.2.2 (Or.inl rfl) (fun _ => g2))) (ke_of f1 f2)))
theorem op_slur (h : ST M S c row r m) (p1 p2 : Int32) (hR : ∀ v M1, fz M M1 → w_X7_slur p1 p2 M1 (K v) → R v M1) (hK : ∀ v M2, INV M2 → ke M M2 → K v v M2) : w_X6_slur m p1 p2 M R := by
  have same : INV M := ⟨S, c, row, r, m, h⟩
  have hni := h.2.1.2.2.2.2.2.2.2.2.2.1
  refine c_slur p1 p2 h.1 (fun a e g b1 b2 => ?_) (fun i e g1 M1 h1 f1 => ?_)
  · subst e
    exact hR _ _ fz_rf (x_slur p2 h.2.1 ⟨b1, b2⟩ (fun _ => hK _ _ same ke_rf) (fun k1 k2 => by omega))
  · subst e
    refine hR _ _ f1 (x_slur p2 (RS_fz h.2.1 f1) (by omega) (fun k => by omega) (fun _ _ M2 h2 f2 => ?_))
    rw [tn_nat] at h2 ⊢
    exact hK _ _ (inv_of h1 f2 h2 (GV_set h.2.2 (Or.inr rfl) (fun z => by omega))) (ke_of f1 f2)
theorem op_wants (h : ST M S c row r m) (p1 p2 : Int32) (hR : ∀ v M1, fz M M1 → w_X7_wants p1 p2 M1 (K v) → R v M1) (hK : ∀ v M2, INV M2 → ke M M2 → K v v M2) : w_X6_wants p1 p2 M R := by
  have same : INV M := ⟨S, c, row, r, m, h⟩
  obtain ⟨a, rfl, x1, y1⟩ := zI_ex p1
  obtain ⟨b, rfl, x2, y2⟩ := zI_ex p2
  refine c_wants ⟨x1, y1⟩ ⟨x2, y2⟩ (fun g => ?_) (fun g1 g2 g3 => ?_) (fun g1 g2 g3 => ?_)
  · exact hR _ _ fz_rf (x_wants ⟨x1, y1⟩ ⟨x2, y2⟩ (fun _ => hK _ _ same ke_rf) (fun k1 k2 => absurd ⟨k1, k2⟩ g) (fun k1 k2 => absurd ⟨k1, k2⟩ g))
  · exact hR _ _ fz_rf (x_wants ⟨x1, y1⟩ ⟨x2, y2⟩ (fun k => absurd ⟨g1, g2⟩ k) (fun _ _ _ => hK _ _ same ke_rf) (fun _ _ k => absurd g3 k))
  · exact hR _ _ fz_rf (x_wants ⟨x1, y1⟩ ⟨x2, y2⟩ (fun k => absurd ⟨g1, g2⟩ k) (fun _ _ k => absurd k g3) (fun _ _ _ => hK _ _ same ke_rf))
theorem op_barOf (h : ST M S c row r m) (p1 p2 : Int32) (hR : ∀ v M1, fz M M1 → w_X7_barOf p1 p2 M1 (K v) → R v M1) (hK : ∀ v M2, INV M2 → ke M M2 → K v v M2) : w_X6_barOf m p1 p2 M R := by
  have same : INV M := ⟨S, c, row, r, m, h⟩
  obtain ⟨a, rfl, x1, y1⟩ := zI_ex p1
  have d01 : ¬ (0 : Int32) = 1 := by decide
  have d02 : ¬ (0 : Int32) = 2 := by decide
  have d12 : ¬ (1 : Int32) = 2 := by decide
  refine c_barOf p2 h.1 ⟨x1, y1⟩ (fun g => ?_) (fun g1 g2 g3 g4 g5 => ?_) (fun g1 g2 g3 => ?_) (fun g1 g2 g3 => ?_) (fun g1 g2 g3 => ?_)
  · exact hR _ _ fz_rf (x_barOf p2 h.2.1 h.2.2 ⟨x1, y1⟩ (fun _ => hK _ _ same ke_rf) (fun k1 k2 => by omega) (fun k1 k2 => by omega) (fun k1 k2 => by omega) (fun k1 k2 => by omega))
  · exact hR _ _ fz_rf (x_barOf p2 h.2.1 h.2.2 ⟨x1, y1⟩ (fun k => by omega) (fun _ _ _ _ _ => hK _ _ same ke_rf) (fun _ _ k => absurd k g3) (fun _ _ k => absurd k g4) (fun _ _ k => absurd k g5))
  · exact hR _ _ fz_rf (x_barOf p2 h.2.1 h.2.2 ⟨x1, y1⟩ (fun k => by omega) (fun _ _ k _ _ => absurd g3 k) (fun _ _ _ => hK _ _ same ke_rf) (fun _ _ k => absurd (g3.symm.trans k) d01) (fun _ _ k => absurd (g3.symm.trans k) d02))
  · exact hR _ _ fz_rf (x_barOf p2 h.2.1 h.2.2 ⟨x1, y1⟩ (fun k => by omega) (fun _ _ _ k _ => absurd g3 k) (fun _ _ k => absurd (k.symm.trans g3) d01) (fun _ _ _ => hK _ _ same ke_rf) (fun _ _ k => absurd (g3.symm.trans k) d12))
  · exact hR _ _ fz_rf (x_barOf p2 h.2.1 h.2.2 ⟨x1, y1⟩ (fun k => by omega) (fun _ _ _ _ k => absurd g3 k) (fun _ _ k => absurd (k.symm.trans g3) d02) (fun _ _ k => absurd (k.symm.trans g3) d12) (fun _ _ _ => hK _ _ same ke_rf))
theorem RS_78 {M' : Mem} (h : RS M S c row) (hf : ∀ k : Nat, k ≠ 78 → M' k = M k) : RS M' S c row := by
  obtain ⟨k1, k2, k3, k4, k5, k6, k7⟩ := h
  refine ⟨by rw [hf 46 (by omega)]; exact k1, k2, by rw [hf 46 (by omega)]; exact k3, fun j hj => by rw [hf 52 (by omega)]; exact k4 j hj, ⟨by rw [hf _ (by omega)]; exact k5.1, by rw [hf _ (by omega)]; exact k5.2.1, by rw [hf _ (by omega)]; exact k5.2.2.1, fun b hb => by rw [hf _ (by omega), hf _ (by omega)]; exact k5.2.2.2.1 b hb, fun i a hi ha => by rw [hf _ (by omega)]; exact k5.2.2.2.2.1 i a hi ha, fun i k hi hk => by rw [hf _ (by omega)]; exact k5.2.2.2.2.2 i k hi hk⟩, ?_, k7⟩
  unfold RT at k6 ⊢
  rw [hf 47 (by omega), hf 48 (by omega), hf 49 (by omega), hf 50 (by omega), hf 51 (by omega)]
  exact k6
theorem CS_78 {M' : Mem} (h : CS M S c row r m) (hf : ∀ k : Nat, k ≠ 78 → M' k = M k) : CS M' S c row r m := by
  obtain ⟨h1, h2, h3, h4, h5, h6, h7, h8, h9, h10, h11, h12⟩ := h
  have m5 : 5 ≤ m ∧ m ≤ 20 := by rcases h2 with rfl | rfl <;> omega
  have r4 : r ≤ 3 ∧ 1 ≤ r := by rcases h1 with rfl | rfl <;> omega
  have e0 := hf 0 (by omega)
  exact ⟨h1, h2, by rw [e0]; exact h3, by rw [e0]; exact h4, by rw [e0]; exact h5, by rw [e0]; exact h6, TB_of h7 (fun k hk => hf k (by omega)), by rw [hf r (by omega)]; exact h8, h9, fun j hj => by rw [hf (r + 1) (by omega)]; exact h10 j hj, MW_far h11 (fun k g1 g2 => hf k (by omega)), h12⟩
theorem op_item (h : ST M S c row r m) (p1 p2 : Int32) (hR : ∀ v M1, fz M M1 → w_X7_item p1 p2 M1 (K v) → R v M1) (hK : ∀ v M2, INV M2 → ke M M2 → K v v M2) : w_X6_item m p1 p2 M R := by
  have same : INV M := ⟨S, c, row, r, m, h⟩
  obtain ⟨a, rfl, x1, y1⟩ := zI_ex p1
  refine c_item p2 h.1 ⟨x1, y1⟩ (fun g => ?_) (fun g1 g2 g3 => ?_) (fun g1 g2 w g3 g4 => ?_)
  · exact hR _ _ fz_rf (x_item p2 h.2.1 ⟨x1, y1⟩ (fun _ => hK _ _ same ke_rf) (fun k1 k2 => by omega) (fun k1 k2 => by omega))
  · exact hR _ _ fz_rf (x_item p2 h.2.1 ⟨x1, y1⟩ (fun k => by omega) (fun _ _ _ => hK _ _ same ke_rf) (fun _ _ w hw e => absurd e (g3 w hw)))
  · refine hR _ _ fz_rf (x_item p2 h.2.1 ⟨x1, y1⟩ (fun k => by omega) (fun _ _ k => absurd g4 (k w g3)) (fun _ _ w' hw e M2 f2 => ?_))
    have : w' = w := by
      rw [g4, zI_eq (by omega) (by omega) (by omega) (by omega)] at e
      omega
    subst this
    exact hK _ _ ⟨S, c, row, r, m, CS_78 h.1 f2, RS_78 h.2.1 f2, h.2.2⟩ (fun k hk => f2 k (by omega))
theorem op_loose (h : ST M S c row r m) (hR : ∀ v M1, fz M M1 → w_X7_loose M1 (K v) → R v M1) (hK : ∀ v M2, INV M2 → ke M M2 → K v v M2) : w_X6_loose m M R :=
  c_loose h.1 (hR _ _ fz_rf (x_loose h.2.1 (hK _ _ ⟨S, c, row, r, m, h⟩ ke_rf)))
theorem op_told (h : ST M S c row r m) (p : Int32) (hR : ∀ v M1, fz M M1 → w_X7_told p M1 (K v) → R v M1) (hK : ∀ v M2, INV M2 → ke M M2 → K v v M2) : w_X6_told r m p M R := by
  have same : INV M := ⟨S, c, row, r, m, h⟩
  refine c_told p h.1 (fun g => ?_) (fun w g1 g2 => ?_)
  · exact hR _ _ fz_rf (x_told p h.2.1 (fun _ => hK _ _ same ke_rf) (fun w hw e => absurd e (g w hw)))
  · refine hR _ _ fz_rf (x_told p h.2.1 (fun k => absurd g2 (k w g1)) (fun w' hw e => ?_))
    have : w' = w := by
      rw [g2, zI_eq (by omega) (by omega) (by omega) (by omega)] at e
      omega
    subst this
    exact hK _ _ same ke_rf
end Ops
