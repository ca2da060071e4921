section XBar
variable {M0 M M' : Mem} {S S' : Mus} {c p q : Nat} {row : Nat → Int} {len : Int} {o : Bool} {w : Option Int} {Q Qx : Int32 → Mem → Prop}
def kp0 (k j : Nat) : Prop := (k < 53 ∧ k ≠ 46) ∨ 78 ≤ k ∨ (k = 46 ∧ (j = 6 ∨ j = 7)) ∨ (53 ≤ k ∧ k ≤ 55 ∧ j = 0) ∨ (56 ≤ k ∧ k ≤ 57 ∧ j < 60) ∨ (58 ≤ k ∧ k ≤ 67 ∧ j < 600) ∨ (k = 68 ∧ j < 2400)
/-- what reading leaves alone -/
def RG (M0 M : Mem) : Prop := ∀ k j : Nat, kp0 k j → M k j = M0 k j
theorem RG_rf : RG M M := fun _ _ _ => rfl
theorem RG_set {a b : Nat} {v : Int32} (h : RG M0 M) (hn : ¬ kp0 a b) (e : M' = mset M a b v) : RG M0 M' := fun k j hk => by
  rw [e, mset_g, if_neg (fun z => hn (by rw [← z.1, ← z.2]; exact hk))]
  exact h k j hk
theorem RG_RF (h1 : RG M0 M) (h2 : RF M M') : RG M0 M' := fun k j h => (h2 k j (by unfold kp0 at h; unfold kp; omega)).trans (h1 k j h)
theorem XB_0 (hB : XB M0 c row len) (h : RG M0 M) : XB M c row len := by
  obtain ⟨b1, b2, b3, ⟨r1, r2, r3, r4, r5⟩, b5, b6⟩ := hB
  exact ⟨by rw [h 46 6 (by unfold kp0; omega)]; exact b1, b2, fun j hj => by rw [h 52 j (by unfold kp0; omega)]; exact b3 j hj, ⟨fun j hj => by rw [h 47 j (by unfold kp0; omega)]; exact r1 j hj, fun j hj => by rw [h 48 j (by unfold kp0; omega)]; exact r2 j hj, fun j hj => by rw [h 49 j (by unfold kp0; omega)]; exact r3 j hj, fun j hj => by rw [h 50 j (by unfold kp0; omega)]; exact r4 j hj, fun j hj => by rw [h 51 j (by unfold kp0; omega)]; exact r5 j hj⟩, by rw [h 46 7 (by unfold kp0; omega)]; exact b5, b6⟩
def JF (M0 M : Mem) (e : Nat) : Prop := RG M0 M ∧ M 46 25 = zI e ∧ e ≤ 4100 ∧ (∃ a : Nat, a ≤ 4200 ∧ M 46 24 = zI a) ∧ (M 46 27 = 0 ∨ M 46 27 = 1)
theorem JF_of {e : Nat} (h1 : RG M0 M) (h2 : JS M M' e) : JF M0 M' e := ⟨RG_RF h1 h2.1, h2.2⟩
theorem JF_nn {e : Nat} (h : JF M0 M e) : (0 : Int32) ≤ M 46 25 := by
  rw [h.2.1, lz0, zI_le (by omega) (by omega) (by have := h.2.2.1; omega) (by have := h.2.2.1; omega)]
  omega
theorem JF_set {a b e : Nat} {v : Int32} (h : JF M0 M e) (hn : ¬ kp0 a b) (h1 : ¬ (a = 46 ∧ (b = 24 ∨ b = 25 ∨ b = 27))) (e' : M' = mset M a b v) : JF M0 M' e := by
  obtain ⟨j1, j2, j3, ⟨x, j4, j5⟩, j6⟩ := h
  refine ⟨RG_set j1 hn e', ?_, j3, ⟨x, j4, ?_⟩, ?_⟩
  · rw [e', mset_g, if_neg (by omega)]; exact j2
  · rw [e', mset_g, if_neg (by omega)]; exact j5
  · rw [e', mset_g, if_neg (by omega)]; exact j6
theorem JF_27 {e : Nat} {v : Int32} (h : JF M0 M e) (hv : v = 0 ∨ v = 1) (e' : M' = mset M 46 27 v) : JF M0 M' e := by
  obtain ⟨j1, j2, j3, ⟨x, j4, j5⟩, j6⟩ := h
  refine ⟨RG_set j1 (by unfold kp0; omega) e', ?_, j3, ⟨x, j4, ?_⟩, ?_⟩
  · rw [e', mset_j (by omega)]; exact j2
  · rw [e', mset_j (by omega)]; exact j5
  · rw [e', mset_at]; exact hv
theorem JF_at {e : Nat} (h : JF M0 M e) (hq : q ≤ 4200) (e' : M' = mset M 46 24 (zI q)) : JF M0 M' e := by
  obtain ⟨j1, j2, j3, j4, j6⟩ := h
  refine ⟨RG_set j1 (by unfold kp0; omega) e', ?_, j3, ⟨q, hq, ?_⟩, ?_⟩
  · rw [e', mset_j (by omega)]; exact j2
  · rw [e', mset_at]
  · rw [e', mset_j (by omega)]; exact j6
theorem x_failF {e : Nat} {f : Int32} (h : JF M0 M e) (hQ : ∀ M' : Mem, JF M0 M' e → Q 0 M') : w_X7_fail f M Q := by
  intro z1 e1 M2 e2
  rw [if_pos (JF_nn h), h.2.1] at e1
  rw [e1] at e2
  obtain ⟨j1, j2, j3, ⟨x, j4, j5⟩, j6⟩ := h
  exact hQ M2 ⟨RG_set j1 (by unfold kp0; omega) e2, by rw [e2, mset_at], j3, ⟨x, j4, by rw [e2, mset_j (by omega)]; exact j5⟩, by rw [e2, mset_j (by omega)]; exact j6⟩
/-- what comes behind a bar -/
def QB (Q : Int32 → Mem → Prop) (B99 : Int32 → Mem → Prop) : Int32 → Mem → Prop := fun _ M35 => w_X7_peek (M35 46 24) M35 (fun v36 M37 => ∀ z38 : Int32, z38 = (if 0 ≤ (M37 46 25) then 0 else (if v36 = 0 then 1 else (if v36 = 64 then 1 else 0))) → ((z38 = 0) → ((¬ (v36 = (-1)) → (w_X7_fail (M37 46 24) M37 (fun _ M40 => B99 z38 M40))) ∧ ((v36 = (-1)) → ((((M37 46 26) = 0) → (B99 z38 M37)) ∧ (¬ ((M37 46 26) = 0) → (w_X7_fail (M37 46 24) M37 (fun _ M42 => B99 z38 M42))))))) ∧ (¬ (z38 = 0) → (∀ z43 : Int32, z43 = (if v36 = 64 then 1 else 0) → (((M37 46 27) ||| z43) = 0 ∨ ((M37 46 27) ||| z43) = 1) ∧ (∀ M45 : Mem, M45 = (mset M37 46 27 ((M37 46 27) ||| z43)) → ∀ M46 : Mem, M46 = (mset M45 46 24 ((M45 46 24) + 1)) → B99 z38 M46))))
theorem x_99J {e f : Nat} (h : JF M0 M e) (hQ : ∀ M' : Mem, JF M0 M' e → Q (zI (-10 - (e : Int))) M') {l : Int32} : w_X7_read_99 Q (f + 1) l M := by
  have h3 := h.2.2.1
  have g : w_X7_read_206 Q l M := by
    unfold w_X7_read_206
    rw [h.2.1, ln10, zI_sub, lz0, zI_lt (by omega) (by omega) (by omega) (by omega)]
    exact ⟨fun z => by omega, fun _ => hQ M h⟩
  show wb_X7_read_99 Q (w_X7_read_99 Q f) _ M
  unfold wb_X7_read_99
  exact ⟨fun _ => g, fun _ => ⟨fun _ => g, fun z => absurd (JF_nn h) z⟩⟩
theorem x_qbJ {e f : Nat} {v : Int32} (hB : XB M0 c row len) (h : JF M0 M e) (hQ : ∀ M' : Mem, JF M0 M' e → Q (zI (-10 - (e : Int))) M') : QB Q (w_X7_read_99 Q (f + 1)) v M := by
  obtain ⟨a, ha, ea⟩ := h.2.2.2.1
  unfold QB
  rw [ea]
  refine x_peek (XB_0 hB h.1) RF_rf (by omega) (fun z38 e38 => ?_)
  rw [if_pos (JF_nn h)] at e38
  subst e38
  refine ⟨fun _ => ⟨fun _ => x_failF h (fun M' h' => x_99J h' hQ), fun _ => ⟨fun _ => x_99J h hQ, fun _ => x_failF h (fun M' h' => x_99J h' hQ)⟩⟩, fun z => absurd rfl z⟩
theorem x_257J {e : Nat} {l1 l2 : Int32} (h : JF M0 M e) (hQ : ∀ M' : Mem, JF M0 M' e → Qx 0 M') : w_X7_readBar_257 Qx l1 l2 M := by
  refine ⟨vi1, vi1, fun M16 e16 => ?_⟩
  rw [tc1] at e16
  exact hQ M16 (JF_set h (by unfold kp0; omega) (by omega) e16)
theorem x_233J {e b : Nat} {l1 l3 : Int32} (hb : b < 60) (h : JF M0 M e) (hQ : ∀ M' : Mem, JF M0 M' e → Qx 0 M') : w_X7_readBar_233 Qx l1 (zI ((60 + b : Nat) : Int)) l3 M := by
  unfold w_X7_readBar_233
  refine ⟨by rw [zI_in (by omega) (by omega)]; omega, fun z11 e11 => ?_⟩
  have h11 : b01 z11 := by
    rw [e11]
    split
    · exact Or.inl rfl
    · exact Or.inr rfl
  have o1 := or_b h.2.2.2.2 h11
  exact ⟨o1.2, fun M13 e13 => x_257J (JF_27 h o1.2 e13) hQ⟩
theorem x_100J {e b f : Nat} {l1 l3 : Int32} (hb : b < 60) (h : JF M0 M e) (hQ : ∀ M' : Mem, JF M0 M' e → Qx 0 M') : w_X7_readBar_100 Qx (f + 1) l1 (zI ((60 + b : Nat) : Int)) l3 M := by
  show wb_X7_readBar_100 Qx (w_X7_readBar_100 Qx f) _ _ _ M
  unfold wb_X7_readBar_100
  exact ⟨fun _ => x_233J hb h hQ, fun _ => ⟨fun _ => x_233J hb h hQ, fun z => absurd (JF_nn h) z⟩⟩
theorem x_153J {e b f : Nat} {l1 l3 : Int32} (hb : b < 60) (h : JF M0 M e) (hQ : ∀ M' : Mem, JF M0 M' e → Qx 0 M') : w_X7_readBar_153 Qx (w_X7_readBar_100 Qx (f + 1)) l1 (zI ((60 + b : Nat) : Int)) l3 M := ⟨fun _ => ⟨fun _ => x_100J hb h hQ, fun z => absurd rfl z⟩, fun z => absurd (JF_nn h) z⟩
/-- no voice goes on here, and no bar -/
def SF (c : Nat) (row : Nat → Int) (M0 M : Mem) (e : Nat) : Prop := RG M0 M ∧ M 46 24 = zI e ∧ M 46 25 = -1 ∧ (M 46 27 = 0 ∨ M 46 27 = 1) ∧ e ≤ c ∧ ¬ pkF c row e = 0 ∧ ¬ pkF c row e = 64 ∧ ¬ pkF c row e = -1 ∧ ¬ (pkF c row e = 35 ∧ pkF c row (e + 1) = 28)
theorem SF_set {a b e : Nat} {v : Int32} (h : SF c row M0 M e) (hn : ¬ kp0 a b) (h1 : ¬ (a = 46 ∧ (b = 24 ∨ b = 25 ∨ b = 27))) (e' : M' = mset M a b v) : SF c row M0 M' e := by
  obtain ⟨j1, j2, j3, j4, j5⟩ := h
  refine ⟨RG_set j1 hn e', ?_, ?_, ?_, j5⟩
  · rw [e', mset_g, if_neg (by omega)]; exact j2
  · rw [e', mset_g, if_neg (by omega)]; exact j3
  · rw [e', mset_g, if_neg (by omega)]; exact j4
theorem SF_27 {e : Nat} {v : Int32} (h : SF c row M0 M e) (hv : v = 0 ∨ v = 1) (e' : M' = mset M 46 27 v) : SF c row M0 M' e := by
  obtain ⟨j1, j2, j3, j4, j5⟩ := h
  refine ⟨RG_set j1 (by unfold kp0; omega) e', ?_, ?_, ?_, j5⟩
  · rw [e', mset_j (by omega)]; exact j2
  · rw [e', mset_j (by omega)]; exact j3
  · rw [e', mset_at]; exact hv
theorem JF_fail {e f : Nat} (h1 : RG M0 M) (h2 : M 46 24 = zI e) (h4 : M 46 27 = 0 ∨ M 46 27 = 1) (he : e ≤ 4100) (hf : f ≤ 4100) (e' : M' = mset M 46 25 (zI f)) : JF M0 M' f := ⟨RG_set h1 (by unfold kp0; omega) e', by rw [e', mset_at], hf, ⟨e, by omega, by rw [e', mset_j (by omega)]; exact h2⟩, by rw [e', mset_j (by omega)]; exact h4⟩
theorem x_qbS {e f : Nat} {v : Int32} (hB : XB M0 c row len) (h : SF c row M0 M e) (hQ : ∀ M' : Mem, JF M0 M' e → Q (zI (-10 - (e : Int))) M') : QB Q (w_X7_read_99 Q (f + 1)) v M := by
  have hc := hB.2.1
  obtain ⟨j1, j2, j3, j4, j5, g0, g64, g1, g35⟩ := h
  have b0 := (PK_x hB e).2
  unfold QB
  rw [j2]
  refine x_peek (XB_0 hB j1) RF_rf (by omega) (fun z38 e38 => ?_)
  have k0 : zI (pkF c row e) = 0 ↔ pkF c row e = 0 := by rw [lz0, zI_eq (by omega) (by omega) (by omega) (by omega)]
  have k64 : zI (pkF c row e) = 64 ↔ pkF c row e = 64 := by rw [lz64, zI_eq (by omega) (by omega) (by omega) (by omega)]
  have k1 : zI (pkF c row e) = -1 ↔ pkF c row e = -1 := by rw [ln1, zI_eq (by omega) (by omega) (by omega) (by omega)]
  rw [j3, if_neg (by decide)] at e38
  simp only [k0, k64] at e38
  rw [if_neg g0, if_neg g64] at e38
  subst e38
  rw [j2, k1]
  exact ⟨fun _ => ⟨fun _ => x_fail j3 (fun M' e' => x_99J (JF_fail j1 j2 j4 (by omega) (by omega) e') hQ), fun z => absurd z g1⟩, fun z => absurd rfl z⟩
theorem x_233S {e b : Nat} {l1 l3 : Int32} (hb : b < 60) (h : SF c row M0 M e) (hQ : ∀ M' : Mem, SF c row M0 M' e → Qx 0 M') : w_X7_readBar_233 Qx l1 (zI ((60 + b : Nat) : Int)) l3 M := by
  unfold w_X7_readBar_233
  refine ⟨by rw [zI_in (by omega) (by omega)]; omega, fun z11 e11 => ?_⟩
  have h11 : b01 z11 := by
    rw [e11]
    split
    · exact Or.inl rfl
    · exact Or.inr rfl
  have o1 := or_b h.2.2.2.1 h11
  refine ⟨o1.2, fun M13 e13 => ⟨vi1, vi1, fun M16 e16 => ?_⟩⟩
  rw [tc1] at e16
  exact hQ M16 (SF_set (SF_27 h o1.2 e13) (by unfold kp0; omega) (by omega) e16)
theorem x_153S {e b f : Nat} {l1 l3 : Int32} (hB : XB M0 c row len) (hb : b < 60) (h : SF c row M0 M e) (hQ : ∀ M' : Mem, SF c row M0 M' e → Qx 0 M') : w_X7_readBar_153 Qx (w_X7_readBar_100 Qx (f + 1)) l1 (zI ((60 + b : Nat) : Int)) l3 M := by
  have hc := hB.2.1
  have g100 : w_X7_readBar_100 Qx (f + 1) l1 (zI ((60 + b : Nat) : Int)) 0 M := by
    show wb_X7_readBar_100 Qx (w_X7_readBar_100 Qx f) _ _ _ M
    unfold wb_X7_readBar_100
    exact ⟨fun _ => x_233S hb h hQ, fun z => absurd rfl z⟩
  obtain ⟨j1, j2, j3, j4, j5, g0, g64, g1, g35⟩ := h
  have b0 := (PK_x hB e).2
  have b1 := (PK_x hB (e + 1)).2
  unfold w_X7_readBar_153
  rw [j3, j2]
  refine ⟨fun z => absurd z (by decide), fun _ => x_peek (XB_0 hB j1) RF_rf (by omega) ?_⟩
  rw [lz35, zI_eq (by omega) (by omega) (by omega) (by omega), j2, lz1, zI_add]
  refine ⟨fun _ => ⟨fun _ => g100, fun z => absurd rfl z⟩, fun g => x_peek (q := e + 1) (XB_0 hB j1) RF_rf (by omega) (fun z35 e35 => ?_)⟩
  have k : zI (pkF c row (e + 1)) = 28 ↔ pkF c row (e + 1) = 28 := by rw [lz28, zI_eq (by omega) (by omega) (by omega) (by omega)]
  simp only [k] at e35
  rw [if_neg (fun z => g35 ⟨g, z⟩)] at e35
  subst e35
  exact ⟨fun _ => g100, fun z => absurd rfl z⟩
end XBar
