def wb_X4_isBroken_2 (r m : Nat) (Q : Int32 → Mem → Prop) (B2 : Int32 → Int32 → Int32 → Mem → Prop) (l1 : Int32) (l2 : Int32) (l3 : Int32) (M : Mem) : Prop := ((l2 ≤ l3) → (Q 0 M)) ∧ (¬ (l2 ≤ l3) → ((M 42 5 = nI m) ∧ ((vp_in (l3 + 1) 600) ∧ ((M 42 5 = nI m) ∧ ((vp_in l3 600) ∧ (∀ x5 : Int32, x5 = ((M (m + 4) (Int32.toNatClampNeg (l3 + 1))) - (M (m + 4) (Int32.toNatClampNeg l3))) → ((1 < x5) → (Q 1 M)) ∧ (¬ (1 < x5) → ((¬ (x5 = 0) → (∀ x6 : Int32, x6 = l3 + 1 → B2 l1 l2 x6 M)) ∧ ((x5 = 0) → ((M 42 5 = nI m) ∧ ((vp_in (l3 + 1) 600) ∧ ((M 42 5 = nI m) ∧ ((vp_in l3 600) ∧ ((((M (m + 5) (Int32.toNatClampNeg (l3 + 1))) = (M (m + 5) (Int32.toNatClampNeg l3))) → (∀ x11 : Int32, x11 = l3 + 1 → B2 l1 l2 x11 M)) ∧ (¬ ((M (m + 5) (Int32.toNatClampNeg (l3 + 1))) = (M (m + 5) (Int32.toNatClampNeg l3))) → (Q 1 M))))))))))))))))
def w_X4_isBroken_2 (r m : Nat) (Q : Int32 → Mem → Prop) : Nat → Int32 → Int32 → Int32 → Mem → Prop
  | 0 => fun _ _ _ _ => False
  | k + 1 => wb_X4_isBroken_2 r m Q  (w_X4_isBroken_2 r m Q  k)
theorem t_X4_isBroken_2 (r m : Nat) (hr : RW r) (hm : MU m) (Q : Int32 → Mem → Prop) : ∀ (k : Nat) (l1 : Int32) (l2 : Int32) (l3 : Int32) (M : Mem), w_X4_isBroken_2 r m Q  k l1 l2 l3 M → Ex true mX4_isBroken 78 78 0 0 2 [.ref 42, .int l1, .int l2, .int l3, .null] [] M Q := by
  intro k
  induction k with
  | zero => intro l1 l2 l3 M h; exact False.elim h
  | succ k hB2 =>
    intro l1 l2 l3 M h
    replace h : wb_X4_isBroken_2 r m Q  (w_X4_isBroken_2 r m Q  k) l1 l2 l3 M := h
    generalize w_X4_isBroken_2 r m Q  k = B2 at hB2 h
    unfold wb_X4_isBroken_2 at h
    refine ex_iload_n dX4_isBroken_2 rfl ?_
    refine ex_iload_n dX4_isBroken_3 rfl ?_
    refine ex_icmp_ge (tgt := 72) dX4_isBroken_4 (by decide) (fun c_4 => ?_) (fun c_4 => ?_)
    · replace h := h.1 c_4
      refine ex_iconst (v := 0) dX4_isBroken_72 (by decide) ?_
      exact ex_iret dX4_isBroken_73 rfl rfl rfl h
    · replace h := h.2 c_4
      refine ex_aload_n dX4_isBroken_7 rfl ?_
      obtain ⟨g1, h⟩ := h
      refine ex_getD (ci := 4) (j := 5) (v := m) dX4_isBroken_8 (by decide) rfl rfl lk_X4_30 rfl g1 (mu_100 hm) ?_
      refine ex_getR (ci := 0) (j := 7) (v := m + 4) dX4_isBroken_11 (mu_l hm 0 (by decide)) (mu_S0 hm) rfl lk_X4_95 (mu_F7 hm) (by omega) ?_
      refine ex_iload_n dX4_isBroken_14 rfl ?_
      refine ex_iconst (v := 1) dX4_isBroken_15 (by decide) ?_
      refine ex_iadd dX4_isBroken_16 ?_
      obtain ⟨b2, h⟩ := h
      refine ex_iald dX4_isBroken_17 (mu_l hm 4 (by decide)) (mu_S4 hm) b2 ?_
      refine ex_aload_n dX4_isBroken_18 rfl ?_
      obtain ⟨g3, h⟩ := h
      refine ex_getD (ci := 4) (j := 5) (v := m) dX4_isBroken_19 (by decide) rfl rfl lk_X4_30 rfl g3 (mu_100 hm) ?_
      refine ex_getR (ci := 0) (j := 7) (v := m + 4) dX4_isBroken_22 (mu_l hm 0 (by decide)) (mu_S0 hm) rfl lk_X4_95 (mu_F7 hm) (by omega) ?_
      refine ex_iload_n dX4_isBroken_25 rfl ?_
      obtain ⟨b4, h⟩ := h
      refine ex_iald dX4_isBroken_26 (mu_l hm 4 (by decide)) (mu_S4 hm) b4 ?_
      refine ex_isub dX4_isBroken_27 ?_
      refine ex_top (fun x5 ex5 => ?_)
      replace h := h x5 ex5
      refine ex_istore (L2 := [.ref 42, .int l1, .int l2, .int l3, .int x5]) dX4_isBroken_28 (by decide) rfl rfl ?_
      refine ex_iload dX4_isBroken_30 rfl ?_
      refine ex_iconst (v := 1) dX4_isBroken_32 (by decide) ?_
      refine ex_icmp_gt (tgt := 64) dX4_isBroken_33 (by decide) (fun c_33 => ?_) (fun c_33 => ?_)
      · replace h := h.1 c_33
        refine ex_iconst (v := 1) dX4_isBroken_64 (by decide) ?_
        exact ex_iret dX4_isBroken_65 rfl rfl rfl h
      · replace h := h.2 c_33
        refine ex_iload dX4_isBroken_36 rfl ?_
        refine ex_if_ne (tgt := 66) dX4_isBroken_38 (by decide) (fun c_38 => ?_) (fun c_38 => ?_)
        · replace h := h.1 c_38
          refine ex_iinc (v := l3 + 1) (L2 := [.ref 42, .int l1, .int l2, .int (l3 + 1), .int x5]) dX4_isBroken_66 rfl rfl (by decide) rfl rfl ?_
          obtain ⟨x6, ex6⟩ : ∃ x6 : Int32, x6 = l3 + 1 := ⟨_, rfl⟩
          rw [← ex6]
          replace h := h x6 ex6
          refine ex_goto (tgt := 2) dX4_isBroken_69 (by decide) ?_
          refine ex_less (L2 := [.ref 42, .int l1, .int l2, .int x6, .null]) ?_ (by intro i v hi hn; match i, hi with | 0, hi => exact hi | 1, hi => exact hi | 2, hi => exact hi | 3, hi => exact hi | 4, hi => (cases hi; cases hn) | k + 5, hi => (exact absurd hi (by simp)))
          exact hB2 l1 l2 x6 M h
        · replace h := h.2 c_38
          refine ex_aload_n dX4_isBroken_41 rfl ?_
          obtain ⟨g7, h⟩ := h
          refine ex_getD (ci := 4) (j := 5) (v := m) dX4_isBroken_42 (by decide) rfl rfl lk_X4_30 rfl g7 (mu_100 hm) ?_
          refine ex_getR (ci := 0) (j := 8) (v := m + 5) dX4_isBroken_45 (mu_l hm 0 (by decide)) (mu_S0 hm) rfl lk_X4_98 (mu_F8 hm) (by omega) ?_
          refine ex_iload_n dX4_isBroken_48 rfl ?_
          refine ex_iconst (v := 1) dX4_isBroken_49 (by decide) ?_
          refine ex_iadd dX4_isBroken_50 ?_
          obtain ⟨b8, h⟩ := h
          refine ex_iald dX4_isBroken_51 (mu_l hm 5 (by decide)) (mu_S5 hm) b8 ?_
          refine ex_aload_n dX4_isBroken_52 rfl ?_
          obtain ⟨g9, h⟩ := h
          refine ex_getD (ci := 4) (j := 5) (v := m) dX4_isBroken_53 (by decide) rfl rfl lk_X4_30 rfl g9 (mu_100 hm) ?_
          refine ex_getR (ci := 0) (j := 8) (v := m + 5) dX4_isBroken_56 (mu_l hm 0 (by decide)) (mu_S0 hm) rfl lk_X4_98 (mu_F8 hm) (by omega) ?_
          refine ex_iload_n dX4_isBroken_59 rfl ?_
          obtain ⟨b10, h⟩ := h
          refine ex_iald dX4_isBroken_60 (mu_l hm 5 (by decide)) (mu_S5 hm) b10 ?_
          refine ex_icmp_eq (tgt := 66) dX4_isBroken_61 (by decide) (fun c_61 => ?_) (fun c_61 => ?_)
          · replace h := h.1 c_61
            refine ex_iinc (v := l3 + 1) (L2 := [.ref 42, .int l1, .int l2, .int (l3 + 1), .int x5]) dX4_isBroken_66 rfl rfl (by decide) rfl rfl ?_
            obtain ⟨x11, ex11⟩ : ∃ x11 : Int32, x11 = l3 + 1 := ⟨_, rfl⟩
            rw [← ex11]
            replace h := h x11 ex11
            refine ex_goto (tgt := 2) dX4_isBroken_69 (by decide) ?_
            refine ex_less (L2 := [.ref 42, .int l1, .int l2, .int x11, .null]) ?_ (by intro i v hi hn; match i, hi with | 0, hi => exact hi | 1, hi => exact hi | 2, hi => exact hi | 3, hi => exact hi | 4, hi => (cases hi; cases hn) | k + 5, hi => (exact absurd hi (by simp)))
            exact hB2 l1 l2 x11 M h
          · replace h := h.2 c_61
            refine ex_iconst (v := 1) dX4_isBroken_64 (by decide) ?_
            exact ex_iret dX4_isBroken_65 rfl rfl rfl h
def w_X4_isBroken (r m : Nat) (p1 : Int32) (p2 : Int32) (M : Mem) (Q : Int32 → Mem → Prop) : Prop := ∃ k, w_X4_isBroken_2 r m Q  k p1 p2 p1 M
theorem t_X4_isBroken (r m : Nat) (hr : RW r) (hm : MU m) (p1 : Int32) (p2 : Int32) (M : Mem) (Q : Int32 → Mem → Prop) (h : w_X4_isBroken r m p1 p2 M Q) : Ex true mX4_isBroken 78 78 0 0 0 [.ref 42, .int p1, .int p2, .null, .null] [] M Q := by
  unfold w_X4_isBroken at h
  refine ex_iload_n dX4_isBroken_0 rfl ?_
  refine ex_istore_n (L2 := [.ref 42, .int p1, .int p2, .int p1, .null]) dX4_isBroken_1 (by decide) rfl rfl ?_
  obtain ⟨k_, h⟩ := h
  exact t_X4_isBroken_2 r m hr hm  Q   k_ p1 p2 p1 M h
def wb_X4_markRow_21 (r m : Nat) (Q : Int32 → Mem → Prop) (B21 : Int32 → Int32 → Int32 → Mem → Prop) (l1 : Int32) (l2 : Int32) (l3 : Int32) (M : Mem) : Prop := ((l2 ≤ l3) → ((vp_in l1 600) ∧ (∀ M4 : Mem, M4 = (mset M 44 (Int32.toNatClampNeg l1) 2) → (vp_in l2 600) ∧ (∀ M6 : Mem, M6 = (mset M4 44 (Int32.toNatClampNeg l2) 3) → Q 0 M6)))) ∧ (¬ (l2 ≤ l3) → ((vp_in l3 600) ∧ (∀ M8 : Mem, M8 = (mset M 44 (Int32.toNatClampNeg l3) 0) → ∀ x9 : Int32, x9 = l3 + 1 → B21 l1 l2 x9 M8)))
def w_X4_markRow_21 (r m : Nat) (Q : Int32 → Mem → Prop) : Nat → Int32 → Int32 → Int32 → Mem → Prop
  | 0 => fun _ _ _ _ => False
  | k + 1 => wb_X4_markRow_21 r m Q  (w_X4_markRow_21 r m Q  k)
theorem t_X4_markRow_21 (r m : Nat) (hr : RW r) (hm : MU m) (Q : Int32 → Mem → Prop) : ∀ (k : Nat) (l1 : Int32) (l2 : Int32) (l3 : Int32) (M : Mem), w_X4_markRow_21 r m Q  k l1 l2 l3 M → Ex true mX4_markRow 78 78 0 0 21 [.ref 42, .int l1, .int l2, .int l3] [] M Q := by
  intro k
  induction k with
  | zero => intro l1 l2 l3 M h; exact False.elim h
  | succ k hB21 =>
    intro l1 l2 l3 M h
    replace h : wb_X4_markRow_21 r m Q  (w_X4_markRow_21 r m Q  k) l1 l2 l3 M := h
    generalize w_X4_markRow_21 r m Q  k = B21 at hB21 h
    unfold wb_X4_markRow_21 at h
    refine ex_iload_n dX4_markRow_21 rfl ?_
    refine ex_iload_n dX4_markRow_22 rfl ?_
    refine ex_icmp_ge (tgt := 39) dX4_markRow_23 (by decide) (fun c_23 => ?_) (fun c_23 => ?_)
    · replace h := h.1 c_23
      refine ex_aload_n dX4_markRow_39 rfl ?_
      refine ex_getR (ci := 4) (j := 2) (v := 44) dX4_markRow_40 (by decide) rfl rfl lk_X4_18 rfl (by decide) ?_
      refine ex_iload_n dX4_markRow_43 rfl ?_
      refine ex_iconst (v := 2) dX4_markRow_44 (by decide) ?_
      obtain ⟨b3, h⟩ := h
      refine ex_iast dX4_markRow_45 (by decide) rfl b3 ?_
      refine ex_nmM (fun M4 eM4 => ?_)
      replace h := h M4 eM4
      refine ex_aload_n dX4_markRow_46 rfl ?_
      refine ex_getR (ci := 4) (j := 2) (v := 44) dX4_markRow_47 (by decide) rfl rfl lk_X4_18 rfl (by decide) ?_
      refine ex_iload_n dX4_markRow_50 rfl ?_
      refine ex_iconst (v := 3) dX4_markRow_51 (by decide) ?_
      obtain ⟨b5, h⟩ := h
      refine ex_iast dX4_markRow_52 (by decide) rfl b5 ?_
      refine ex_nmM (fun M6 eM6 => ?_)
      replace h := h M6 eM6
      exact ex_vret dX4_markRow_53 rfl rfl h
    · replace h := h.2 c_23
      refine ex_aload_n dX4_markRow_26 rfl ?_
      refine ex_getR (ci := 4) (j := 2) (v := 44) dX4_markRow_27 (by decide) rfl rfl lk_X4_18 rfl (by decide) ?_
      refine ex_iload_n dX4_markRow_30 rfl ?_
      refine ex_iconst (v := 0) dX4_markRow_31 (by decide) ?_
      obtain ⟨b7, h⟩ := h
      refine ex_iast dX4_markRow_32 (by decide) rfl b7 ?_
      refine ex_nmM (fun M8 eM8 => ?_)
      replace h := h M8 eM8
      refine ex_iinc (v := l3 + 1) (L2 := [.ref 42, .int l1, .int l2, .int (l3 + 1)]) dX4_markRow_33 rfl rfl (by decide) rfl rfl ?_
      obtain ⟨x9, ex9⟩ : ∃ x9 : Int32, x9 = l3 + 1 := ⟨_, rfl⟩
      rw [← ex9]
      replace h := h x9 ex9
      refine ex_goto (tgt := 21) dX4_markRow_36 (by decide) ?_
      exact hB21 l1 l2 x9 M8 h
def w_X4_markRow (r m : Nat) (p1 : Int32) (p2 : Int32) (M : Mem) (Q : Int32 → Mem → Prop) : Prop := ((((p2 - p1) + 1) < 5) → (Q 0 M)) ∧ (¬ (((p2 - p1) + 1) < 5) → (w_X4_isBroken r m p1 p2 M (fun v1 M2 => ((v1 = 0) → (∃ k, w_X4_markRow_21 r m Q  k p1 p2 p1 M2)) ∧ (¬ (v1 = 0) → (Q 0 M2)))))
theorem t_X4_markRow (r m : Nat) (hr : RW r) (hm : MU m) (p1 : Int32) (p2 : Int32) (M : Mem) (Q : Int32 → Mem → Prop) (h : w_X4_markRow r m p1 p2 M Q) : Ex true mX4_markRow 78 78 0 0 0 [.ref 42, .int p1, .int p2, .null] [] M Q := by
  unfold w_X4_markRow at h
  refine ex_iload_n dX4_markRow_0 rfl ?_
  refine ex_iload_n dX4_markRow_1 rfl ?_
  refine ex_isub dX4_markRow_2 ?_
  refine ex_iconst (v := 1) dX4_markRow_3 (by decide) ?_
  refine ex_iadd dX4_markRow_4 ?_
  refine ex_iconst (v := 5) dX4_markRow_5 (by decide) ?_
  refine ex_icmp_lt (tgt := 18) dX4_markRow_6 (by decide) (fun c_6 => ?_) (fun c_6 => ?_)
  · replace h := h.1 c_6
    exact ex_vret dX4_markRow_18 rfl rfl h
  · replace h := h.2 c_6
    refine ex_aload_n dX4_markRow_9 rfl ?_
    refine ex_iload_n dX4_markRow_10 rfl ?_
    refine ex_iload_n dX4_markRow_11 rfl ?_
    refine ex_invV (k := 42) (ci := 4) (as := [.int p1, .int p2]) (L2 := [.ref 42, .int p1, .int p2, .null, .null]) (st := []) 0 0 dX4_markRow_12 lk_X4_91 sl_X4_isBroken (rmK_of rfl) (by decide) rfl ⟨by decide, rfl⟩ rfl (Nat.le_of_ble_eq_true rfl) (Nat.le_of_ble_eq_true rfl) (t_X4_isBroken r m hr hm p1 p2 M _ h) (fun v1 M2 h => ?_)
    show Ex true mX4_markRow 78 78 0 0 15 [.ref 42, .int p1, .int p2, .null] [.int v1] M2 Q
    refine ex_if_eq (tgt := 19) dX4_markRow_15 (by decide) (fun c_15 => ?_) (fun c_15 => ?_)
    · replace h := h.1 c_15
      refine ex_iload_n dX4_markRow_19 rfl ?_
      refine ex_istore_n (L2 := [.ref 42, .int p1, .int p2, .int p1]) dX4_markRow_20 (by decide) rfl rfl ?_
      obtain ⟨k_, h⟩ := h
      exact t_X4_markRow_21 r m hr hm  Q   k_ p1 p2 p1 M2 h
    · replace h := h.2 c_15
      exact ex_vret dX4_markRow_18 rfl rfl h
def wb_X4_markSlurs_4 (r m : Nat) (Q : Int32 → Mem → Prop) (B4 : Int32 → Int32 → Mem → Prop) (l1 : Int32) (l2 : Int32) (M : Mem) : Prop := (M 42 5 = nI m) ∧ ((((M m 3) ≤ l2) → (Q 0 M)) ∧ (¬ ((M m 3) ≤ l2) → ((M 42 5 = nI m) ∧ ((vp_in l2 600) ∧ (∀ z4 : Int32, z4 = (if (M (m + 12) (Int32.toNatClampNeg l2)) = 1 then 1 else 0) → (vp_in l2 600) ∧ (∀ M6 : Mem, M6 = (mset M 44 (Int32.toNatClampNeg l2) z4) → (M6 42 5 = nI m) ∧ ((vp_in l2 600) ∧ ((¬ ((M6 (m + 12) (Int32.toNatClampNeg l2)) = 0) → (∀ x9 : Int32, x9 = l2 + 1 → B4 l1 x9 M6)) ∧ (((M6 (m + 12) (Int32.toNatClampNeg l2)) = 0) → (w_X4_markRow r m l1 l2 M6 (fun v10 M11 => ∀ x12 : Int32, x12 = (l2 + 1) → ∀ x13 : Int32, x13 = l2 + 1 → B4 x12 x13 M11)))))))))))
def w_X4_markSlurs_4 (r m : Nat) (Q : Int32 → Mem → Prop) : Nat → Int32 → Int32 → Mem → Prop
  | 0 => fun _ _ _ => False
  | k + 1 => wb_X4_markSlurs_4 r m Q  (w_X4_markSlurs_4 r m Q  k)
theorem t_X4_markSlurs_4 (r m : Nat) (hr : RW r) (hm : MU m) (Q : Int32 → Mem → Prop) : ∀ (k : Nat) (l1 : Int32) (l2 : Int32) (M : Mem), w_X4_markSlurs_4 r m Q  k l1 l2 M → Ex true mX4_markSlurs 78 78 0 0 4 [.ref 42, .int l1, .int l2] [] M Q := by
  intro k
  induction k with
  | zero => intro l1 l2 M h; exact False.elim h
  | succ k hB4 =>
    intro l1 l2 M h
    replace h : wb_X4_markSlurs_4 r m Q  (w_X4_markSlurs_4 r m Q  k) l1 l2 M := h
    generalize w_X4_markSlurs_4 r m Q  k = B4 at hB4 h
    unfold wb_X4_markSlurs_4 at h
    refine ex_iload_n dX4_markSlurs_4 rfl ?_
    refine ex_aload_n dX4_markSlurs_5 rfl ?_
    obtain ⟨g1, h⟩ := h
    refine ex_getD (ci := 4) (j := 5) (v := m) dX4_markSlurs_6 (by decide) rfl rfl lk_X4_30 rfl g1 (mu_100 hm) ?_
    refine ex_getI (ci := 0) (j := 3) dX4_markSlurs_9 (mu_l hm 0 (by decide)) (mu_S0 hm) rfl lk_X4_81 ?_
    refine ex_icmp_ge (tgt := 67) dX4_markSlurs_12 (by decide) (fun c_12 => ?_) (fun c_12 => ?_)
    · replace h := h.1 c_12
      exact ex_vret dX4_markSlurs_67 rfl rfl h
    · replace h := h.2 c_12
      refine ex_aload_n dX4_markSlurs_15 rfl ?_
      refine ex_getR (ci := 4) (j := 2) (v := 44) dX4_markSlurs_16 (by decide) rfl rfl lk_X4_18 rfl (by decide) ?_
      refine ex_iload_n dX4_markSlurs_19 rfl ?_
      refine ex_aload_n dX4_markSlurs_20 rfl ?_
      obtain ⟨g2, h⟩ := h
      refine ex_getD (ci := 4) (j := 5) (v := m) dX4_markSlurs_21 (by decide) rfl rfl lk_X4_30 rfl g2 (mu_100 hm) ?_
      refine ex_getR (ci := 0) (j := 15) (v := m + 12) dX4_markSlurs_24 (mu_l hm 0 (by decide)) (mu_S0 hm) rfl lk_X4_84 (mu_F15 hm) (by omega) ?_
      refine ex_iload_n dX4_markSlurs_27 rfl ?_
      obtain ⟨b3, h⟩ := h
      refine ex_iald dX4_markSlurs_28 (mu_l hm 12 (by decide)) (mu_S12 hm) b3 ?_
      refine ex_iconst (v := 1) dX4_markSlurs_29 (by decide) ?_
      have hJ14 : ∀ z4 : Int32, z4 = (if (M (m + 12) (Int32.toNatClampNeg l2)) = 1 then 1 else 0) → Ex true mX4_markSlurs 78 78 0 0 38 [.ref 42, .int l1, .int l2] [.int z4, .int l2, .ref 44] M Q := by
        intro z4 ez4
        replace h := h z4 ez4
        obtain ⟨b5, h⟩ := h
        refine ex_iast dX4_markSlurs_38 (by decide) rfl b5 ?_
        refine ex_nmM (fun M6 eM6 => ?_)
        replace h := h M6 eM6
        refine ex_aload_n dX4_markSlurs_39 rfl ?_
        obtain ⟨g7, h⟩ := h
        refine ex_getD (ci := 4) (j := 5) (v := m) dX4_markSlurs_40 (by decide) rfl rfl lk_X4_30 rfl g7 (mu_100 hm) ?_
        refine ex_getR (ci := 0) (j := 15) (v := m + 12) dX4_markSlurs_43 (mu_l hm 0 (by decide)) (mu_S0 hm) rfl lk_X4_84 (mu_F15 hm) (by omega) ?_
        refine ex_iload_n dX4_markSlurs_46 rfl ?_
        obtain ⟨b8, h⟩ := h
        refine ex_iald dX4_markSlurs_47 (mu_l hm 12 (by decide)) (mu_S12 hm) b8 ?_
        refine ex_if_ne (tgt := 61) dX4_markSlurs_48 (by decide) (fun c_48 => ?_) (fun c_48 => ?_)
        · replace h := h.1 c_48
          refine ex_iinc (v := l2 + 1) (L2 := [.ref 42, .int l1, .int (l2 + 1)]) dX4_markSlurs_61 rfl rfl (by decide) rfl rfl ?_
          obtain ⟨x9, ex9⟩ : ∃ x9 : Int32, x9 = l2 + 1 := ⟨_, rfl⟩
          rw [← ex9]
          replace h := h x9 ex9
          refine ex_goto (tgt := 4) dX4_markSlurs_64 (by decide) ?_
          exact hB4 l1 x9 M6 h
        · replace h := h.2 c_48
          refine ex_aload_n dX4_markSlurs_51 rfl ?_
          refine ex_iload_n dX4_markSlurs_52 rfl ?_
          refine ex_iload_n dX4_markSlurs_53 rfl ?_
          refine ex_invV (k := 42) (ci := 4) (as := [.int l1, .int l2]) (L2 := [.ref 42, .int l1, .int l2, .null]) (st := []) 0 0 dX4_markSlurs_54 lk_X4_87 sl_X4_markRow (rmK_of rfl) (by decide) rfl ⟨by decide, rfl⟩ rfl (Nat.le_of_ble_eq_true rfl) (Nat.le_of_ble_eq_true rfl) (t_X4_markRow r m hr hm l1 l2 M6 _ h) (fun v10 M11 h => ?_)
          show Ex true mX4_markSlurs 78 78 0 0 57 [.ref 42, .int l1, .int l2] [] M11 Q
          refine ex_iload_n dX4_markSlurs_57 rfl ?_
          refine ex_iconst (v := 1) dX4_markSlurs_58 (by decide) ?_
          refine ex_iadd dX4_markSlurs_59 ?_
          refine ex_top (fun x12 ex12 => ?_)
          replace h := h x12 ex12
          refine ex_istore_n (L2 := [.ref 42, .int x12, .int l2]) dX4_markSlurs_60 (by decide) rfl rfl ?_
          refine ex_iinc (v := l2 + 1) (L2 := [.ref 42, .int x12, .int (l2 + 1)]) dX4_markSlurs_61 rfl rfl (by decide) rfl rfl ?_
          obtain ⟨x13, ex13⟩ : ∃ x13 : Int32, x13 = l2 + 1 := ⟨_, rfl⟩
          rw [← ex13]
          replace h := h x13 ex13
          refine ex_goto (tgt := 4) dX4_markSlurs_64 (by decide) ?_
          exact hB4 x12 x13 M11 h
      refine ex_icmp_ne (tgt := 37) dX4_markSlurs_30 (by decide) (fun c_30 => ?_) (fun c_30 => ?_)
      ·
        refine ex_iconst (v := 0) dX4_markSlurs_37 (by decide) ?_
        exact hJ14 _ (by rw [if_neg c_30])
      ·
        refine ex_iconst (v := 1) dX4_markSlurs_33 (by decide) ?_
        refine ex_goto (tgt := 38) dX4_markSlurs_34 (by decide) ?_
        exact hJ14 _ (by rw [if_pos c_30])
def w_X4_markSlurs (r m : Nat) (M : Mem) (Q : Int32 → Mem → Prop) : Prop := ∃ k, w_X4_markSlurs_4 r m Q  k 0 0 M
theorem t_X4_markSlurs (r m : Nat) (hr : RW r) (hm : MU m) (M : Mem) (Q : Int32 → Mem → Prop) (h : w_X4_markSlurs r m  M Q) : Ex true mX4_markSlurs 78 78 0 0 0 [.ref 42, .null, .null] [] M Q := by
  unfold w_X4_markSlurs at h
  refine ex_iconst (v := 0) dX4_markSlurs_0 (by decide) ?_
  refine ex_istore_n (L2 := [.ref 42, .int 0, .null]) dX4_markSlurs_1 (by decide) rfl rfl ?_
  refine ex_iconst (v := 0) dX4_markSlurs_2 (by decide) ?_
  refine ex_istore_n (L2 := [.ref 42, .int 0, .int 0]) dX4_markSlurs_3 (by decide) rfl rfl ?_
  obtain ⟨k_, h⟩ := h
  exact t_X4_markSlurs_4 r m hr hm  Q   k_ 0 0 M h
def wb_X4_markSigns_15 (r m : Nat) (Q : Int32 → Mem → Prop) (B2 : Int32 → Mem → Prop) (B15 : Int32 → Int32 → Mem → Prop) (l1 : Int32) (l2 : Int32) (M : Mem) : Prop := (M 42 5 = nI m) ∧ ((vp_in l1 60) ∧ ((((M (m + 1) (Int32.toNatClampNeg l1)) ≤ l2) → (∀ x4 : Int32, x4 = l1 + 1 → B2 x4 M)) ∧ (¬ ((M (m + 1) (Int32.toNatClampNeg l1)) ≤ l2) → (∀ x5 : Int32, x5 = ((l1 * 3) + l2) → (M 42 5 = nI m) ∧ (w_X5_needsSigns m x5 M (fun v7 M8 => (vp_in x5 180) ∧ ((v7 = 0 ∨ v7 = 1) ∧ (∀ M11 : Mem, M11 = (mset M8 45 (Int32.toNatClampNeg x5) v7) → ∀ x12 : Int32, x12 = l2 + 1 → B15 l1 x12 M11))))))))
def w_X4_markSigns_15 (r m : Nat) (Q : Int32 → Mem → Prop) (B2 : Int32 → Mem → Prop) : Nat → Int32 → Int32 → Mem → Prop
  | 0 => fun _ _ _ => False
  | k + 1 => wb_X4_markSigns_15 r m Q B2 (w_X4_markSigns_15 r m Q B2 k)
theorem t_X4_markSigns_15 (r m : Nat) (hr : RW r) (hm : MU m) (Q : Int32 → Mem → Prop) (B2 : Int32 → Mem → Prop) (hB2 : ∀ (l1 : Int32) (M : Mem), B2 l1 M → Ex true mX4_markSigns 78 78 0 0 2 [.ref 42, .int l1, .null, .null] [] M Q) : ∀ (k : Nat) (l1 : Int32) (l2 : Int32) (M : Mem), w_X4_markSigns_15 r m Q B2 k l1 l2 M → Ex true mX4_markSigns 78 78 0 0 15 [.ref 42, .int l1, .int l2, .null] [] M Q := by
  intro k
  induction k with
  | zero => intro l1 l2 M h; exact False.elim h
  | succ k hB15 =>
    intro l1 l2 M h
    replace h : wb_X4_markSigns_15 r m Q B2 (w_X4_markSigns_15 r m Q B2 k) l1 l2 M := h
    generalize w_X4_markSigns_15 r m Q B2 k = B15 at hB15 h
    unfold wb_X4_markSigns_15 at h
    refine ex_iload_n dX4_markSigns_15 rfl ?_
    refine ex_aload_n dX4_markSigns_16 rfl ?_
    obtain ⟨g2, h⟩ := h
    refine ex_getD (ci := 4) (j := 5) (v := m) dX4_markSigns_17 (by decide) rfl rfl lk_X4_30 rfl g2 (mu_100 hm) ?_
    refine ex_getR (ci := 0) (j := 4) (v := m + 1) dX4_markSigns_20 (mu_l hm 0 (by decide)) (mu_S0 hm) rfl lk_X4_72 (mu_F4 hm) (by omega) ?_
    refine ex_iload_n dX4_markSigns_23 rfl ?_
    obtain ⟨b3, h⟩ := h
    refine ex_iald dX4_markSigns_24 (mu_l hm 1 (by decide)) (mu_S1 hm) b3 ?_
    refine ex_icmp_ge (tgt := 58) dX4_markSigns_25 (by decide) (fun c_25 => ?_) (fun c_25 => ?_)
    · replace h := h.1 c_25
      refine ex_iinc (v := l1 + 1) (L2 := [.ref 42, .int (l1 + 1), .int l2, .null]) dX4_markSigns_58 rfl rfl (by decide) rfl rfl ?_
      obtain ⟨x4, ex4⟩ : ∃ x4 : Int32, x4 = l1 + 1 := ⟨_, rfl⟩
      rw [← ex4]
      replace h := h x4 ex4
      refine ex_goto (tgt := 2) dX4_markSigns_61 (by decide) ?_
      refine ex_less (L2 := [.ref 42, .int x4, .null, .null]) ?_ (by intro i v hi hn; match i, hi with | 0, hi => exact hi | 1, hi => exact hi | 2, hi => (cases hi; cases hn) | 3, hi => exact hi | k + 4, hi => (exact absurd hi (by simp)))
      exact hB2 x4 M h
    · replace h := h.2 c_25
      refine ex_iload_n dX4_markSigns_28 rfl ?_
      refine ex_iconst (v := 3) dX4_markSigns_29 (by decide) ?_
      refine ex_imul dX4_markSigns_30 ?_
      refine ex_iload_n dX4_markSigns_31 rfl ?_
      refine ex_iadd dX4_markSigns_32 ?_
      refine ex_top (fun x5 ex5 => ?_)
      replace h := h x5 ex5
      refine ex_istore_n (L2 := [.ref 42, .int l1, .int l2, .int x5]) dX4_markSigns_33 (by decide) rfl rfl ?_
      refine ex_aload_n dX4_markSigns_34 rfl ?_
      refine ex_getR (ci := 4) (j := 3) (v := 45) dX4_markSigns_35 (by decide) rfl rfl lk_X4_22 rfl (by decide) ?_
      refine ex_iload_n dX4_markSigns_38 rfl ?_
      refine ex_aload_n dX4_markSigns_39 rfl ?_
      refine ex_getR (ci := 4) (j := 0) (v := 35) dX4_markSigns_40 (by decide) rfl rfl lk_X4_26 rfl (by decide) ?_
      refine ex_aload_n dX4_markSigns_43 rfl ?_
      obtain ⟨g6, h⟩ := h
      refine ex_getD (ci := 4) (j := 5) (v := m) dX4_markSigns_44 (by decide) rfl rfl lk_X4_30 rfl g6 (mu_100 hm) ?_
      refine ex_iload_n dX4_markSigns_47 rfl ?_
      refine ex_invV (k := 35) (ci := 5) (as := [.ref m, .int x5]) (L2 := [.ref 35, .ref m, .int x5, .null, .null]) (st := [.int x5, .ref 45]) 0 0 dX4_markSigns_48 lk_X4_75 sl_X5_needsSigns (rmK_of rfl) (by decide) rfl ⟨by decide, rfl⟩ rfl (Nat.le_of_ble_eq_true rfl) (Nat.le_of_ble_eq_true rfl) (t_X5_needsSigns m hm x5 M _ h) (fun v7 M8 h => ?_)
      show Ex true mX4_markSigns 78 78 0 0 51 [.ref 42, .int l1, .int l2, .int x5] [.int v7, .int x5, .ref 45] M8 Q
      obtain ⟨b9, h⟩ := h
      obtain ⟨b10, h⟩ := h
      refine ex_zast dX4_markSigns_51 (by decide) rfl b9 (nz01 b10) ?_
      refine ex_nmM (fun M11 eM11 => ?_)
      replace h := h M11 eM11
      refine ex_iinc (v := l2 + 1) (L2 := [.ref 42, .int l1, .int (l2 + 1), .int x5]) dX4_markSigns_52 rfl rfl (by decide) rfl rfl ?_
      obtain ⟨x12, ex12⟩ : ∃ x12 : Int32, x12 = l2 + 1 := ⟨_, rfl⟩
      rw [← ex12]
      replace h := h x12 ex12
      refine ex_goto (tgt := 15) dX4_markSigns_55 (by decide) ?_
      refine ex_less (L2 := [.ref 42, .int l1, .int x12, .null]) ?_ (by intro i v hi hn; match i, hi with | 0, hi => exact hi | 1, hi => exact hi | 2, hi => exact hi | 3, hi => (cases hi; cases hn) | k + 4, hi => (exact absurd hi (by simp)))
      exact hB15 l1 x12 M11 h
def wb_X4_markSigns_2 (r m : Nat) (Q : Int32 → Mem → Prop) (B2 : Int32 → Mem → Prop) (l1 : Int32) (M : Mem) : Prop := (M 42 5 = nI m) ∧ ((((M m 2) ≤ l1) → (Q 0 M)) ∧ (¬ ((M m 2) ≤ l1) → (∃ k, w_X4_markSigns_15 r m Q B2 k l1 0 M)))
def w_X4_markSigns_2 (r m : Nat) (Q : Int32 → Mem → Prop) : Nat → Int32 → Mem → Prop
  | 0 => fun _ _ => False
  | k + 1 => wb_X4_markSigns_2 r m Q  (w_X4_markSigns_2 r m Q  k)
theorem t_X4_markSigns_2 (r m : Nat) (hr : RW r) (hm : MU m) (Q : Int32 → Mem → Prop) : ∀ (k : Nat) (l1 : Int32) (M : Mem), w_X4_markSigns_2 r m Q  k l1 M → Ex true mX4_markSigns 78 78 0 0 2 [.ref 42, .int l1, .null, .null] [] M Q := by
  intro k
  induction k with
  | zero => intro l1 M h; exact False.elim h
  | succ k hB2 =>
    intro l1 M h
    replace h : wb_X4_markSigns_2 r m Q  (w_X4_markSigns_2 r m Q  k) l1 M := h
    generalize w_X4_markSigns_2 r m Q  k = B2 at hB2 h
    unfold wb_X4_markSigns_2 at h
    refine ex_iload_n dX4_markSigns_2 rfl ?_
    refine ex_aload_n dX4_markSigns_3 rfl ?_
    obtain ⟨g1, h⟩ := h
    refine ex_getD (ci := 4) (j := 5) (v := m) dX4_markSigns_4 (by decide) rfl rfl lk_X4_30 rfl g1 (mu_100 hm) ?_
    refine ex_getI (ci := 0) (j := 2) dX4_markSigns_7 (mu_l hm 0 (by decide)) (mu_S0 hm) rfl lk_X4_53 ?_
    refine ex_icmp_ge (tgt := 64) dX4_markSigns_10 (by decide) (fun c_10 => ?_) (fun c_10 => ?_)
    · replace h := h.1 c_10
      exact ex_vret dX4_markSigns_64 rfl rfl h
    · replace h := h.2 c_10
      refine ex_iconst (v := 0) dX4_markSigns_13 (by decide) ?_
      refine ex_istore_n (L2 := [.ref 42, .int l1, .int 0, .null]) dX4_markSigns_14 (by decide) rfl rfl ?_
      obtain ⟨k_, h⟩ := h
      exact t_X4_markSigns_15 r m hr hm  Q B2 hB2 k_ l1 0 M h
def w_X4_markSigns (r m : Nat) (M : Mem) (Q : Int32 → Mem → Prop) : Prop := ∃ k, w_X4_markSigns_2 r m Q  k 0 M
theorem t_X4_markSigns (r m : Nat) (hr : RW r) (hm : MU m) (M : Mem) (Q : Int32 → Mem → Prop) (h : w_X4_markSigns r m  M Q) : Ex true mX4_markSigns 78 78 0 0 0 [.ref 42, .null, .null, .null] [] M Q := by
  unfold w_X4_markSigns at h
  refine ex_iconst (v := 0) dX4_markSigns_0 (by decide) ?_
  refine ex_istore_n (L2 := [.ref 42, .int 0, .null, .null]) dX4_markSigns_1 (by decide) rfl rfl ?_
  obtain ⟨k_, h⟩ := h
  exact t_X4_markSigns_2 r m hr hm  Q   k_ 0 M h
def w_X4_putTwo (r m : Nat) (p1 : Int32) (p2 : Int32) (M : Mem) (Q : Int32 → Mem → Prop) : Prop := (M 42 4 = nI r) ∧ (w_X2_put r p1 M (fun v2 M3 => (M3 42 4 = nI r) ∧ (w_X2_put r p2 M3 (fun v5 M6 => Q 0 M6))))
theorem t_X4_putTwo (r m : Nat) (hr : RW r) (hm : MU m) (p1 : Int32) (p2 : Int32) (M : Mem) (Q : Int32 → Mem → Prop) (h : w_X4_putTwo r m p1 p2 M Q) : Ex true mX4_putTwo 78 78 0 0 0 [.ref 42, .int p1, .int p2] [] M Q := by
  unfold w_X4_putTwo at h
  refine ex_aload_n dX4_putTwo_0 rfl ?_
  obtain ⟨g1, h⟩ := h
  refine ex_getD (ci := 4) (j := 4) (v := r) dX4_putTwo_1 (by decide) rfl rfl lk_X4_34 rfl g1 (rw_100 hr) ?_
  refine ex_iload_n dX4_putTwo_4 rfl ?_
  refine ex_invV (k := r) (ci := 2) (as := [.int p1]) (L2 := [.ref r, .int p1]) (st := []) 0 0 dX4_putTwo_5 lk_X4_58 sl_X2_put (rmK_of rfl) (rw_l hr 0 (by decide)) (rw_S0 hr) ⟨by decide, rfl⟩ rfl (Nat.le_of_ble_eq_true rfl) (Nat.le_of_ble_eq_true rfl) (t_X2_put r hr p1 M _ h) (fun v2 M3 h => ?_)
  show Ex true mX4_putTwo 78 78 0 0 8 [.ref 42, .int p1, .int p2] [] M3 Q
  refine ex_aload_n dX4_putTwo_8 rfl ?_
  obtain ⟨g4, h⟩ := h
  refine ex_getD (ci := 4) (j := 4) (v := r) dX4_putTwo_9 (by decide) rfl rfl lk_X4_34 rfl g4 (rw_100 hr) ?_
  refine ex_iload_n dX4_putTwo_12 rfl ?_
  refine ex_invV (k := r) (ci := 2) (as := [.int p2]) (L2 := [.ref r, .int p2]) (st := []) 0 0 dX4_putTwo_13 lk_X4_58 sl_X2_put (rmK_of rfl) (rw_l hr 0 (by decide)) (rw_S0 hr) ⟨by decide, rfl⟩ rfl (Nat.le_of_ble_eq_true rfl) (Nat.le_of_ble_eq_true rfl) (t_X2_put r hr p2 M3 _ h) (fun v5 M6 h => ?_)
  show Ex true mX4_putTwo 78 78 0 0 16 [.ref 42, .int p1, .int p2] [] M6 Q
  exact ex_vret dX4_putTwo_16 rfl rfl h
def w_X4_putHand (r m : Nat) (M : Mem) (Q : Int32 → Mem → Prop) : Prop := (M 42 5 = nI m) ∧ ((((M m 1) = 0) → (Q 0 M)) ∧ (¬ ((M m 1) = 0) → ((M 42 5 = nI m) ∧ (∀ z3 : Int32, z3 = (if (M m 1) = 2 then 56 else 40) → w_X4_putTwo r m z3 28 M (fun v4 M5 => Q 0 M5)))))
theorem t_X4_putHand (r m : Nat) (hr : RW r) (hm : MU m) (M : Mem) (Q : Int32 → Mem → Prop) (h : w_X4_putHand r m  M Q) : Ex true mX4_putHand 78 78 0 0 0 [.ref 42] [] M Q := by
  unfold w_X4_putHand at h
  refine ex_aload_n dX4_putHand_0 rfl ?_
  obtain ⟨g1, h⟩ := h
  refine ex_getD (ci := 4) (j := 5) (v := m) dX4_putHand_1 (by decide) rfl rfl lk_X4_30 rfl g1 (mu_100 hm) ?_
  refine ex_getI (ci := 0) (j := 1) dX4_putHand_4 (mu_l hm 0 (by decide)) (mu_S0 hm) rfl lk_X4_101 ?_
  refine ex_if_eq (tgt := 34) dX4_putHand_7 (by decide) (fun c_7 => ?_) (fun c_7 => ?_)
  · replace h := h.1 c_7
    exact ex_vret dX4_putHand_34 rfl rfl h
  · replace h := h.2 c_7
    refine ex_aload_n dX4_putHand_10 rfl ?_
    refine ex_aload_n dX4_putHand_11 rfl ?_
    obtain ⟨g2, h⟩ := h
    refine ex_getD (ci := 4) (j := 5) (v := m) dX4_putHand_12 (by decide) rfl rfl lk_X4_30 rfl g2 (mu_100 hm) ?_
    refine ex_getI (ci := 0) (j := 1) dX4_putHand_15 (mu_l hm 0 (by decide)) (mu_S0 hm) rfl lk_X4_101 ?_
    refine ex_iconst (v := 2) dX4_putHand_18 (by decide) ?_
    have hJ6 : ∀ z3 : Int32, z3 = (if (M m 1) = 2 then 56 else 40) → Ex true mX4_putHand 78 78 0 0 29 [.ref 42] [.int z3, .ref 42] M Q := by
      intro z3 ez3
      replace h := h z3 ez3
      refine ex_bipush (v := 28) dX4_putHand_29 (by decide) ?_
      refine ex_invV (k := 42) (ci := 4) (as := [.int z3, .int 28]) (L2 := [.ref 42, .int z3, .int 28]) (st := []) 0 0 dX4_putHand_31 lk_X4_104 sl_X4_putTwo (rmK_of rfl) (by decide) rfl ⟨by decide, rfl⟩ rfl (Nat.le_of_ble_eq_true rfl) (Nat.le_of_ble_eq_true rfl) (t_X4_putTwo r m hr hm z3 28 M _ h) (fun v4 M5 h => ?_)
      show Ex true mX4_putHand 78 78 0 0 34 [.ref 42] [] M5 Q
      exact ex_vret dX4_putHand_34 rfl rfl h
    refine ex_icmp_ne (tgt := 27) dX4_putHand_19 (by decide) (fun c_19 => ?_) (fun c_19 => ?_)
    ·
      refine ex_bipush (v := 40) dX4_putHand_27 (by decide) ?_
      exact hJ6 _ (by rw [if_neg c_19])
    ·
      refine ex_bipush (v := 56) dX4_putHand_22 (by decide) ?_
      refine ex_goto (tgt := 29) dX4_putHand_24 (by decide) ?_
      exact hJ6 _ (by rw [if_pos c_19])
def w_X4_putSize (r m : Nat) (p1 : Int32) (M : Mem) (Q : Int32 → Mem → Prop) : Prop := ∀ z1 : Int32, z1 = (if p1 = 0 then 24 else 32) → w_X4_putTwo r m z1 35 M (fun v2 M3 => (M3 42 4 = nI r) ∧ (w_X2_put r 2 M3 (fun v5 M6 => Q 0 M6)))
theorem t_X4_putSize (r m : Nat) (hr : RW r) (hm : MU m) (p1 : Int32) (M : Mem) (Q : Int32 → Mem → Prop) (h : w_X4_putSize r m p1 M Q) : Ex true mX4_putSize 78 78 0 0 0 [.ref 42, .int p1] [] M Q := by
  unfold w_X4_putSize at h
  refine ex_aload_n dX4_putSize_0 rfl ?_
  refine ex_iload_n dX4_putSize_1 rfl ?_
  have hJ7 : ∀ z1 : Int32, z1 = (if p1 = 0 then 24 else 32) → Ex true mX4_putSize 78 78 0 0 12 [.ref 42, .int p1] [.int z1, .ref 42] M Q := by
    intro z1 ez1
    replace h := h z1 ez1
    refine ex_bipush (v := 35) dX4_putSize_12 (by decide) ?_
    refine ex_invV (k := 42) (ci := 4) (as := [.int z1, .int 35]) (L2 := [.ref 42, .int z1, .int 35]) (st := []) 0 0 dX4_putSize_14 lk_X4_104 sl_X4_putTwo (rmK_of rfl) (by decide) rfl ⟨by decide, rfl⟩ rfl (Nat.le_of_ble_eq_true rfl) (Nat.le_of_ble_eq_true rfl) (t_X4_putTwo r m hr hm z1 35 M _ h) (fun v2 M3 h => ?_)
    show Ex true mX4_putSize 78 78 0 0 17 [.ref 42, .int p1] [] M3 Q
    refine ex_aload_n dX4_putSize_17 rfl ?_
    obtain ⟨g4, h⟩ := h
    refine ex_getD (ci := 4) (j := 4) (v := r) dX4_putSize_18 (by decide) rfl rfl lk_X4_34 rfl g4 (rw_100 hr) ?_
    refine ex_iconst (v := 2) dX4_putSize_21 (by decide) ?_
    refine ex_invV (k := r) (ci := 2) (as := [.int 2]) (L2 := [.ref r, .int 2]) (st := []) 0 0 dX4_putSize_22 lk_X4_58 sl_X2_put (rmK_of rfl) (rw_l hr 0 (by decide)) (rw_S0 hr) ⟨by decide, rfl⟩ rfl (Nat.le_of_ble_eq_true rfl) (Nat.le_of_ble_eq_true rfl) (t_X2_put r hr 2 M3 _ h) (fun v5 M6 h => ?_)
    show Ex true mX4_putSize 78 78 0 0 25 [.ref 42, .int p1] [] M6 Q
    exact ex_vret dX4_putSize_25 rfl rfl h
  refine ex_if_ne (tgt := 10) dX4_putSize_2 (by decide) (fun c_2 => ?_) (fun c_2 => ?_)
  ·
    refine ex_bipush (v := 32) dX4_putSize_10 (by decide) ?_
    exact hJ7 _ (by rw [if_neg c_2])
  ·
    refine ex_bipush (v := 24) dX4_putSize_5 (by decide) ?_
    refine ex_goto (tgt := 12) dX4_putSize_7 (by decide) ?_
    exact hJ7 _ (by rw [if_pos c_2])
def w_X4_putSign (r m : Nat) (p1 : Int32) (M : Mem) (Q : Int32 → Mem → Prop) : Prop := ((p1 ≤ 0) → (Q 0 M)) ∧ (¬ (p1 ≤ 0) → ((M 42 4 = nI r) ∧ (w_X6_cellAt 4 (p1 - 1) M (fun v2 M3 => w_X2_put r v2 M3 (fun v4 M5 => Q 0 M5)))))
theorem t_X4_putSign (r m : Nat) (hr : RW r) (hm : MU m) (p1 : Int32) (M : Mem) (Q : Int32 → Mem → Prop) (h : w_X4_putSign r m p1 M Q) : Ex true mX4_putSign 78 78 0 0 0 [.ref 42, .int p1] [] M Q := by
  unfold w_X4_putSign at h
  refine ex_iload_n dX4_putSign_0 rfl ?_
  refine ex_if_le (tgt := 20) dX4_putSign_1 (by decide) (fun c_1 => ?_) (fun c_1 => ?_)
  · replace h := h.1 c_1
    exact ex_vret dX4_putSign_20 rfl rfl h
  · replace h := h.2 c_1
    refine ex_aload_n dX4_putSign_4 rfl ?_
    obtain ⟨g1, h⟩ := h
    refine ex_getD (ci := 4) (j := 4) (v := r) dX4_putSign_5 (by decide) rfl rfl lk_X4_34 rfl g1 (rw_100 hr) ?_
    refine ex_gets (i := 4) dX4_putSign_8 (by decide) lk_X4_179 ?_
    refine ex_iload_n dX4_putSign_11 rfl ?_
    refine ex_iconst (v := 1) dX4_putSign_12 (by decide) ?_
    refine ex_isub dX4_putSign_13 ?_
    refine ex_invS (as := [.ref (100 + 4), .int (p1 - 1)]) (L2 := [.ref (100 + 4), .int (p1 - 1)]) (st := [.ref r]) 0 0 dX4_putSign_14 lk_X4_135 sl_X6_cellAt (rmK_of rfl) rfl (Nat.le_of_ble_eq_true rfl) (Nat.le_of_ble_eq_true rfl) (t_X6_cellAt 4 (ti_d rfl) (p1 - 1) M _ h) (fun v2 M3 h => ?_)
    show Ex true mX4_putSign 78 78 0 0 17 [.ref 42, .int p1] [.int v2, .ref r] M3 Q
    refine ex_invV (k := r) (ci := 2) (as := [.int v2]) (L2 := [.ref r, .int v2]) (st := []) 0 0 dX4_putSign_17 lk_X4_58 sl_X2_put (rmK_of rfl) (rw_l hr 0 (by decide)) (rw_S0 hr) ⟨by decide, rfl⟩ rfl (Nat.le_of_ble_eq_true rfl) (Nat.le_of_ble_eq_true rfl) (t_X2_put r hr v2 M3 _ h) (fun v4 M5 h => ?_)
    show Ex true mX4_putSign 78 78 0 0 20 [.ref 42, .int p1] [] M5 Q
    exact ex_vret dX4_putSign_20 rfl rfl h
def wb_X4_putDots_2 (r m : Nat) (Q : Int32 → Mem → Prop) (B2 : Int32 → Int32 → Mem → Prop) (l1 : Int32) (l2 : Int32) (M : Mem) : Prop := (M 42 5 = nI m) ∧ ((vp_in l1 600) ∧ ((((M (m + 10) (Int32.toNatClampNeg l1)) ≤ l2) → (Q 0 M)) ∧ (¬ ((M (m + 10) (Int32.toNatClampNeg l1)) ≤ l2) → ((M 42 4 = nI r) ∧ (w_X2_put r 4 M (fun v4 M5 => ∀ x6 : Int32, x6 = l2 + 1 → B2 l1 x6 M5))))))
def w_X4_putDots_2 (r m : Nat) (Q : Int32 → Mem → Prop) : Nat → Int32 → Int32 → Mem → Prop
  | 0 => fun _ _ _ => False
  | k + 1 => wb_X4_putDots_2 r m Q  (w_X4_putDots_2 r m Q  k)
theorem t_X4_putDots_2 (r m : Nat) (hr : RW r) (hm : MU m) (Q : Int32 → Mem → Prop) : ∀ (k : Nat) (l1 : Int32) (l2 : Int32) (M : Mem), w_X4_putDots_2 r m Q  k l1 l2 M → Ex true mX4_putDots 78 78 0 0 2 [.ref 42, .int l1, .int l2] [] M Q := by
  intro k
  induction k with
  | zero => intro l1 l2 M h; exact False.elim h
  | succ k hB2 =>
    intro l1 l2 M h
    replace h : wb_X4_putDots_2 r m Q  (w_X4_putDots_2 r m Q  k) l1 l2 M := h
    generalize w_X4_putDots_2 r m Q  k = B2 at hB2 h
    unfold wb_X4_putDots_2 at h
    refine ex_iload_n dX4_putDots_2 rfl ?_
    refine ex_aload_n dX4_putDots_3 rfl ?_
    obtain ⟨g1, h⟩ := h
    refine ex_getD (ci := 4) (j := 5) (v := m) dX4_putDots_4 (by decide) rfl rfl lk_X4_30 rfl g1 (mu_100 hm) ?_
    refine ex_getR (ci := 0) (j := 13) (v := m + 10) dX4_putDots_7 (mu_l hm 0 (by decide)) (mu_S0 hm) rfl lk_X4_182 (mu_F13 hm) (by omega) ?_
    refine ex_iload_n dX4_putDots_10 rfl ?_
    obtain ⟨b2, h⟩ := h
    refine ex_iald dX4_putDots_11 (mu_l hm 10 (by decide)) (mu_S10 hm) b2 ?_
    refine ex_icmp_ge (tgt := 29) dX4_putDots_12 (by decide) (fun c_12 => ?_) (fun c_12 => ?_)
    · replace h := h.1 c_12
      exact ex_vret dX4_putDots_29 rfl rfl h
    · replace h := h.2 c_12
      refine ex_aload_n dX4_putDots_15 rfl ?_
      obtain ⟨g3, h⟩ := h
      refine ex_getD (ci := 4) (j := 4) (v := r) dX4_putDots_16 (by decide) rfl rfl lk_X4_34 rfl g3 (rw_100 hr) ?_
      refine ex_iconst (v := 4) dX4_putDots_19 (by decide) ?_
      refine ex_invV (k := r) (ci := 2) (as := [.int 4]) (L2 := [.ref r, .int 4]) (st := []) 0 0 dX4_putDots_20 lk_X4_58 sl_X2_put (rmK_of rfl) (rw_l hr 0 (by decide)) (rw_S0 hr) ⟨by decide, rfl⟩ rfl (Nat.le_of_ble_eq_true rfl) (Nat.le_of_ble_eq_true rfl) (t_X2_put r hr 4 M _ h) (fun v4 M5 h => ?_)
      show Ex true mX4_putDots 78 78 0 0 23 [.ref 42, .int l1, .int l2] [] M5 Q
      refine ex_iinc (v := l2 + 1) (L2 := [.ref 42, .int l1, .int (l2 + 1)]) dX4_putDots_23 rfl rfl (by decide) rfl rfl ?_
      obtain ⟨x6, ex6⟩ : ∃ x6 : Int32, x6 = l2 + 1 := ⟨_, rfl⟩
      rw [← ex6]
      replace h := h x6 ex6
      refine ex_goto (tgt := 2) dX4_putDots_26 (by decide) ?_
      exact hB2 l1 x6 M5 h
def w_X4_putDots (r m : Nat) (p1 : Int32) (M : Mem) (Q : Int32 → Mem → Prop) : Prop := ∃ k, w_X4_putDots_2 r m Q  k p1 0 M
theorem t_X4_putDots (r m : Nat) (hr : RW r) (hm : MU m) (p1 : Int32) (M : Mem) (Q : Int32 → Mem → Prop) (h : w_X4_putDots r m p1 M Q) : Ex true mX4_putDots 78 78 0 0 0 [.ref 42, .int p1, .null] [] M Q := by
  unfold w_X4_putDots at h
  refine ex_iconst (v := 0) dX4_putDots_0 (by decide) ?_
  refine ex_istore_n (L2 := [.ref 42, .int p1, .int 0]) dX4_putDots_1 (by decide) rfl rfl ?_
  obtain ⟨k_, h⟩ := h
  exact t_X4_putDots_2 r m hr hm  Q   k_ p1 0 M h
def wb_X4_putNote_101 (r m : Nat) (Q : Int32 → Mem → Prop) (B101 : Int32 → Int32 → Int32 → Mem → Prop) (l1 : Int32) (l2 : Int32) (l3 : Int32) (M : Mem) : Prop := (M 42 5 = nI m) ∧ ((vp_in l1 600) ∧ ((((M (m + 13) (Int32.toNatClampNeg l1)) ≤ l3) → ((M 42 5 = nI m) ∧ ((vp_in l1 600) ∧ ((¬ ((M (m + 11) (Int32.toNatClampNeg l1)) = 1) → (Q 0 M)) ∧ (((M (m + 11) (Int32.toNatClampNeg l1)) = 1) → (w_X4_putTwo r m 8 9 M (fun v27 M28 => Q 0 M28))))))) ∧ (¬ ((M (m + 13) (Int32.toNatClampNeg l1)) ≤ l3) → ((M 42 5 = nI m) ∧ (w_X0_intervalAt m l1 l3 M (fun v30 M31 => w_X4_putSign r m (v30 >>> (4 &&& 31)) M31 (fun v32 M33 => (M33 42 4 = nI r) ∧ (w_X6_cellAt 5 ((v30 &&& 15) - 2) M33 (fun v35 M36 => w_X2_put r v35 M36 (fun v37 M38 => ∀ x39 : Int32, x39 = l3 + 1 → B101 l1 l2 x39 M38))))))))))
def w_X4_putNote_101 (r m : Nat) (Q : Int32 → Mem → Prop) : Nat → Int32 → Int32 → Int32 → Mem → Prop
  | 0 => fun _ _ _ _ => False
  | k + 1 => wb_X4_putNote_101 r m Q  (w_X4_putNote_101 r m Q  k)
theorem t_X4_putNote_101 (r m : Nat) (hr : RW r) (hm : MU m) (Q : Int32 → Mem → Prop) : ∀ (k : Nat) (l1 : Int32) (l2 : Int32) (l3 : Int32) (M : Mem), w_X4_putNote_101 r m Q  k l1 l2 l3 M → Ex true mX4_putNote 78 78 0 0 101 [.ref 42, .int l1, .int l2, .int l3, .null] [] M Q := by
  intro k
  induction k with
  | zero => intro l1 l2 l3 M h; exact False.elim h
  | succ k hB101 =>
    intro l1 l2 l3 M h
    replace h : wb_X4_putNote_101 r m Q  (w_X4_putNote_101 r m Q  k) l1 l2 l3 M := h
    generalize w_X4_putNote_101 r m Q  k = B101 at hB101 h
    unfold wb_X4_putNote_101 at h
    refine ex_iload_n dX4_putNote_101 rfl ?_
    refine ex_aload_n dX4_putNote_102 rfl ?_
    obtain ⟨g23, h⟩ := h
    refine ex_getD (ci := 4) (j := 5) (v := m) dX4_putNote_103 (by decide) rfl rfl lk_X4_30 rfl g23 (mu_100 hm) ?_
    refine ex_getR (ci := 0) (j := 16) (v := m + 13) dX4_putNote_106 (mu_l hm 0 (by decide)) (mu_S0 hm) rfl lk_X4_166 (mu_F16 hm) (by omega) ?_
    refine ex_iload_n dX4_putNote_109 rfl ?_
    obtain ⟨b24, h⟩ := h
    refine ex_iald dX4_putNote_110 (mu_l hm 13 (by decide)) (mu_S13 hm) b24 ?_
    refine ex_icmp_ge (tgt := 159) dX4_putNote_111 (by decide) (fun c_111 => ?_) (fun c_111 => ?_)
    · replace h := h.1 c_111
      refine ex_aload_n dX4_putNote_159 rfl ?_
      obtain ⟨g25, h⟩ := h
      refine ex_getD (ci := 4) (j := 5) (v := m) dX4_putNote_160 (by decide) rfl rfl lk_X4_30 rfl g25 (mu_100 hm) ?_
      refine ex_getR (ci := 0) (j := 14) (v := m + 11) dX4_putNote_163 (mu_l hm 0 (by decide)) (mu_S0 hm) rfl lk_X4_176 (mu_F14 hm) (by omega) ?_
      refine ex_iload_n dX4_putNote_166 rfl ?_
      obtain ⟨b26, h⟩ := h
      refine ex_iald dX4_putNote_167 (mu_l hm 11 (by decide)) (mu_S11 hm) b26 ?_
      refine ex_iconst (v := 1) dX4_putNote_168 (by decide) ?_
      refine ex_icmp_ne (tgt := 180) dX4_putNote_169 (by decide) (fun c_169 => ?_) (fun c_169 => ?_)
      · replace h := h.1 c_169
        exact ex_vret dX4_putNote_180 rfl rfl h
      · replace h := h.2 c_169
        refine ex_aload_n dX4_putNote_172 rfl ?_
        refine ex_bipush (v := 8) dX4_putNote_173 (by decide) ?_
        refine ex_bipush (v := 9) dX4_putNote_175 (by decide) ?_
        refine ex_invV (k := 42) (ci := 4) (as := [.int 8, .int 9]) (L2 := [.ref 42, .int 8, .int 9]) (st := []) 0 0 dX4_putNote_177 lk_X4_104 sl_X4_putTwo (rmK_of rfl) (by decide) rfl ⟨by decide, rfl⟩ rfl (Nat.le_of_ble_eq_true rfl) (Nat.le_of_ble_eq_true rfl) (t_X4_putTwo r m hr hm 8 9 M _ h) (fun v27 M28 h => ?_)
        show Ex true mX4_putNote 78 78 0 0 180 [.ref 42, .int l1, .int l2, .int l3, .null] [] M28 Q
        exact ex_vret dX4_putNote_180 rfl rfl h
    · replace h := h.2 c_111
      refine ex_aload_n dX4_putNote_114 rfl ?_
      obtain ⟨g29, h⟩ := h
      refine ex_getD (ci := 4) (j := 5) (v := m) dX4_putNote_115 (by decide) rfl rfl lk_X4_30 rfl g29 (mu_100 hm) ?_
      refine ex_iload_n dX4_putNote_118 rfl ?_
      refine ex_iload_n dX4_putNote_119 rfl ?_
      refine ex_invV (k := m) (ci := 0) (as := [.int l1, .int l3]) (L2 := [.ref m, .int l1, .int l3]) (st := []) 0 0 dX4_putNote_120 lk_X4_169 sl_X0_intervalAt (rmK_of rfl) (mu_l hm 0 (by decide)) (mu_S0 hm) ⟨by decide, rfl⟩ rfl (Nat.le_of_ble_eq_true rfl) (Nat.le_of_ble_eq_true rfl) (t_X0_intervalAt m hm l1 l3 M _ h) (fun v30 M31 h => ?_)
      show Ex true mX4_putNote 78 78 0 0 123 [.ref 42, .int l1, .int l2, .int l3, .null] [.int v30] M31 Q
      refine ex_istore (L2 := [.ref 42, .int l1, .int l2, .int l3, .int v30]) dX4_putNote_123 (by decide) rfl rfl ?_
      refine ex_aload_n dX4_putNote_125 rfl ?_
      refine ex_iload dX4_putNote_126 rfl ?_
      refine ex_iconst (v := 4) dX4_putNote_128 (by decide) ?_
      refine ex_ishr dX4_putNote_129 ?_
      refine ex_invV (k := 42) (ci := 4) (as := [.int (v30 >>> (4 &&& 31))]) (L2 := [.ref 42, .int (v30 >>> (4 &&& 31))]) (st := []) 0 0 dX4_putNote_130 lk_X4_148 sl_X4_putSign (rmK_of rfl) (by decide) rfl ⟨by decide, rfl⟩ rfl (Nat.le_of_ble_eq_true rfl) (Nat.le_of_ble_eq_true rfl) (t_X4_putSign r m hr hm (v30 >>> (4 &&& 31)) M31 _ h) (fun v32 M33 h => ?_)
      show Ex true mX4_putNote 78 78 0 0 133 [.ref 42, .int l1, .int l2, .int l3, .int v30] [] M33 Q
      refine ex_aload_n dX4_putNote_133 rfl ?_
      obtain ⟨g34, h⟩ := h
      refine ex_getD (ci := 4) (j := 4) (v := r) dX4_putNote_134 (by decide) rfl rfl lk_X4_34 rfl g34 (rw_100 hr) ?_
      refine ex_gets (i := 5) dX4_putNote_137 (by decide) lk_X4_173 ?_
      refine ex_iload dX4_putNote_140 rfl ?_
      refine ex_bipush (v := 15) dX4_putNote_142 (by decide) ?_
      refine ex_iand dX4_putNote_144 ?_
      refine ex_iconst (v := 2) dX4_putNote_145 (by decide) ?_
      refine ex_isub dX4_putNote_146 ?_
      refine ex_invS (as := [.ref (100 + 5), .int ((v30 &&& 15) - 2)]) (L2 := [.ref (100 + 5), .int ((v30 &&& 15) - 2)]) (st := [.ref r]) 0 0 dX4_putNote_147 lk_X4_135 sl_X6_cellAt (rmK_of rfl) rfl (Nat.le_of_ble_eq_true rfl) (Nat.le_of_ble_eq_true rfl) (t_X6_cellAt 5 (ti_d rfl) ((v30 &&& 15) - 2) M33 _ h) (fun v35 M36 h => ?_)
      show Ex true mX4_putNote 78 78 0 0 150 [.ref 42, .int l1, .int l2, .int l3, .int v30] [.int v35, .ref r] M36 Q
      refine ex_invV (k := r) (ci := 2) (as := [.int v35]) (L2 := [.ref r, .int v35]) (st := []) 0 0 dX4_putNote_150 lk_X4_58 sl_X2_put (rmK_of rfl) (rw_l hr 0 (by decide)) (rw_S0 hr) ⟨by decide, rfl⟩ rfl (Nat.le_of_ble_eq_true rfl) (Nat.le_of_ble_eq_true rfl) (t_X2_put r hr v35 M36 _ h) (fun v37 M38 h => ?_)
      show Ex true mX4_putNote 78 78 0 0 153 [.ref 42, .int l1, .int l2, .int l3, .int v30] [] M38 Q
      refine ex_iinc (v := l3 + 1) (L2 := [.ref 42, .int l1, .int l2, .int (l3 + 1), .int v30]) dX4_putNote_153 rfl rfl (by decide) rfl rfl ?_
      obtain ⟨x39, ex39⟩ : ∃ x39 : Int32, x39 = l3 + 1 := ⟨_, rfl⟩
      rw [← ex39]
      replace h := h x39 ex39
      refine ex_goto (tgt := 101) dX4_putNote_156 (by decide) ?_
      refine ex_less (L2 := [.ref 42, .int l1, .int l2, .int x39, .null]) ?_ (by intro i v hi hn; match i, hi with | 0, hi => exact hi | 1, hi => exact hi | 2, hi => exact hi | 3, hi => exact hi | 4, hi => (cases hi; cases hn) | k + 5, hi => (exact absurd hi (by simp)))
      exact hB101 l1 l2 x39 M38 h
def w_X4_putNote_53 (r m : Nat) (Q : Int32 → Mem → Prop) (l1 : Int32) (l2 : Int32) (M : Mem) : Prop := w_X1_heard 43 l2 M (fun v10 M11 => (M11 42 4 = nI r) ∧ (w_X6_cellAt 0 (l2 - l2 / 7 * 7) M11 (fun v13 M14 => (M14 42 5 = nI m) ∧ ((vp_in l1 600) ∧ (w_X6_cellAt 1 (M14 (m + 8) (Int32.toNatClampNeg l1)) M14 (fun v17 M18 => w_X2_put r (v13 + v17) M18 (fun v19 M20 => w_X4_putDots r m l1 M20 (fun v21 M22 => ∃ k, w_X4_putNote_101 r m Q  k l1 l2 0 M22))))))))
theorem t_X4_putNote_53 (r m : Nat) (hr : RW r) (hm : MU m) (Q : Int32 → Mem → Prop) (l1 : Int32) (l2 : Int32) (M : Mem) (h : w_X4_putNote_53 r m Q  l1 l2 M) : Ex true mX4_putNote 78 78 0 0 53 [.ref 42, .int l1, .int l2, .null, .null] [] M Q := by
  unfold w_X4_putNote_53 at h
  refine ex_aload_n dX4_putNote_53 rfl ?_
  refine ex_getR (ci := 4) (j := 1) (v := 43) dX4_putNote_54 (by decide) rfl rfl lk_X4_12 rfl (by decide) ?_
  refine ex_iload_n dX4_putNote_57 rfl ?_
  refine ex_invV (k := 43) (ci := 1) (as := [.int l2]) (L2 := [.ref 43, .int l2]) (st := []) 0 0 dX4_putNote_58 lk_X4_157 sl_X1_heard (rmK_of rfl) (by decide) rfl ⟨by decide, rfl⟩ rfl (Nat.le_of_ble_eq_true rfl) (Nat.le_of_ble_eq_true rfl) (t_X1_heard 43 (Or.inr rfl) l2 M _ h) (fun v10 M11 h => ?_)
  show Ex true mX4_putNote 78 78 0 0 61 [.ref 42, .int l1, .int l2, .null, .null] [] M11 Q
  refine ex_aload_n dX4_putNote_61 rfl ?_
  obtain ⟨g12, h⟩ := h
  refine ex_getD (ci := 4) (j := 4) (v := r) dX4_putNote_62 (by decide) rfl rfl lk_X4_34 rfl g12 (rw_100 hr) ?_
  refine ex_gets (i := 0) dX4_putNote_65 (by decide) lk_X4_160 ?_
  refine ex_iload_n dX4_putNote_68 rfl ?_
  refine ex_bipush (v := 7) dX4_putNote_69 (by decide) ?_
  refine ex_irem dX4_putNote_71 (by decide) ?_
  refine ex_invS (as := [.ref (100 + 0), .int (l2 - l2 / 7 * 7)]) (L2 := [.ref (100 + 0), .int (l2 - l2 / 7 * 7)]) (st := [.ref r]) 0 0 dX4_putNote_72 lk_X4_135 sl_X6_cellAt (rmK_of rfl) rfl (Nat.le_of_ble_eq_true rfl) (Nat.le_of_ble_eq_true rfl) (t_X6_cellAt 0 (ti_d rfl) (l2 - l2 / 7 * 7) M11 _ h) (fun v13 M14 h => ?_)
  show Ex true mX4_putNote 78 78 0 0 75 [.ref 42, .int l1, .int l2, .null, .null] [.int v13, .ref r] M14 Q
  refine ex_gets (i := 1) dX4_putNote_75 (by decide) lk_X4_163 ?_
  refine ex_aload_n dX4_putNote_78 rfl ?_
  obtain ⟨g15, h⟩ := h
  refine ex_getD (ci := 4) (j := 5) (v := m) dX4_putNote_79 (by decide) rfl rfl lk_X4_30 rfl g15 (mu_100 hm) ?_
  refine ex_getR (ci := 0) (j := 11) (v := m + 8) dX4_putNote_82 (mu_l hm 0 (by decide)) (mu_S0 hm) rfl lk_X4_132 (mu_F11 hm) (by omega) ?_
  refine ex_iload_n dX4_putNote_85 rfl ?_
  obtain ⟨b16, h⟩ := h
  refine ex_iald dX4_putNote_86 (mu_l hm 8 (by decide)) (mu_S8 hm) b16 ?_
  refine ex_invS (as := [.ref (100 + 1), .int (M14 (m + 8) (Int32.toNatClampNeg l1))]) (L2 := [.ref (100 + 1), .int (M14 (m + 8) (Int32.toNatClampNeg l1))]) (st := [.int v13, .ref r]) 0 0 dX4_putNote_87 lk_X4_135 sl_X6_cellAt (rmK_of rfl) rfl (Nat.le_of_ble_eq_true rfl) (Nat.le_of_ble_eq_true rfl) (t_X6_cellAt 1 (ti_d rfl) (M14 (m + 8) (Int32.toNatClampNeg l1)) M14 _ h) (fun v17 M18 h => ?_)
  show Ex true mX4_putNote 78 78 0 0 90 [.ref 42, .int l1, .int l2, .null, .null] [.int v17, .int v13, .ref r] M18 Q
  refine ex_iadd dX4_putNote_90 ?_
  refine ex_invV (k := r) (ci := 2) (as := [.int (v13 + v17)]) (L2 := [.ref r, .int (v13 + v17)]) (st := []) 0 0 dX4_putNote_91 lk_X4_58 sl_X2_put (rmK_of rfl) (rw_l hr 0 (by decide)) (rw_S0 hr) ⟨by decide, rfl⟩ rfl (Nat.le_of_ble_eq_true rfl) (Nat.le_of_ble_eq_true rfl) (t_X2_put r hr (v13 + v17) M18 _ h) (fun v19 M20 h => ?_)
  show Ex true mX4_putNote 78 78 0 0 94 [.ref 42, .int l1, .int l2, .null, .null] [] M20 Q
  refine ex_aload_n dX4_putNote_94 rfl ?_
  refine ex_iload_n dX4_putNote_95 rfl ?_
  refine ex_invV (k := 42) (ci := 4) (as := [.int l1]) (L2 := [.ref 42, .int l1, .null]) (st := []) 0 0 dX4_putNote_96 lk_X4_139 sl_X4_putDots (rmK_of rfl) (by decide) rfl ⟨by decide, rfl⟩ rfl (Nat.le_of_ble_eq_true rfl) (Nat.le_of_ble_eq_true rfl) (t_X4_putDots r m hr hm l1 M20 _ h) (fun v21 M22 h => ?_)
  show Ex true mX4_putNote 78 78 0 0 99 [.ref 42, .int l1, .int l2, .null, .null] [] M22 Q
  refine ex_iconst (v := 0) dX4_putNote_99 (by decide) ?_
  refine ex_istore_n (L2 := [.ref 42, .int l1, .int l2, .int 0, .null]) dX4_putNote_100 (by decide) rfl rfl ?_
  obtain ⟨k_, h⟩ := h
  exact t_X4_putNote_101 r m hr hm  Q   k_ l1 l2 0 M22 h
def w_X4_putNote (r m : Nat) (p1 : Int32) (M : Mem) (Q : Int32 → Mem → Prop) : Prop := (M 42 5 = nI m) ∧ ((vp_in p1 600) ∧ (∀ x3 : Int32, x3 = (M (m + 6) (Int32.toNatClampNeg p1)) → (M 42 5 = nI m) ∧ ((vp_in p1 600) ∧ (w_X4_putSign r m (M (m + 7) (Int32.toNatClampNeg p1)) M (fun v6 M7 => w_X1_needsSign 43 x3 M7 (fun v8 M9 => ((v8 = 0) → (w_X4_putNote_53 r m Q  p1 x3 M9)) ∧ (¬ (v8 = 0) → ((M9 42 4 = nI r) ∧ (w_X6_cellAt 3 ((x3 / 7) - 1) M9 (fun v41 M42 => w_X2_put r v41 M42 (fun v43 M44 => w_X4_putNote_53 r m Q  p1 x3 M44)))))))))))
theorem t_X4_putNote (r m : Nat) (hr : RW r) (hm : MU m) (p1 : Int32) (M : Mem) (Q : Int32 → Mem → Prop) (h : w_X4_putNote r m p1 M Q) : Ex true mX4_putNote 78 78 0 0 0 [.ref 42, .int p1, .null, .null, .null] [] M Q := by
  unfold w_X4_putNote at h
  refine ex_aload_n dX4_putNote_0 rfl ?_
  obtain ⟨g1, h⟩ := h
  refine ex_getD (ci := 4) (j := 5) (v := m) dX4_putNote_1 (by decide) rfl rfl lk_X4_30 rfl g1 (mu_100 hm) ?_
  refine ex_getR (ci := 0) (j := 9) (v := m + 6) dX4_putNote_4 (mu_l hm 0 (by decide)) (mu_S0 hm) rfl lk_X4_142 (mu_F9 hm) (by omega) ?_
  refine ex_iload_n dX4_putNote_7 rfl ?_
  obtain ⟨b2, h⟩ := h
  refine ex_iald dX4_putNote_8 (mu_l hm 6 (by decide)) (mu_S6 hm) b2 ?_
  refine ex_top (fun x3 ex3 => ?_)
  replace h := h x3 ex3
  refine ex_istore_n (L2 := [.ref 42, .int p1, .int x3, .null, .null]) dX4_putNote_9 (by decide) rfl rfl ?_
  refine ex_aload_n dX4_putNote_10 rfl ?_
  refine ex_aload_n dX4_putNote_11 rfl ?_
  obtain ⟨g4, h⟩ := h
  refine ex_getD (ci := 4) (j := 5) (v := m) dX4_putNote_12 (by decide) rfl rfl lk_X4_30 rfl g4 (mu_100 hm) ?_
  refine ex_getR (ci := 0) (j := 10) (v := m + 7) dX4_putNote_15 (mu_l hm 0 (by decide)) (mu_S0 hm) rfl lk_X4_145 (mu_F10 hm) (by omega) ?_
  refine ex_iload_n dX4_putNote_18 rfl ?_
  obtain ⟨b5, h⟩ := h
  refine ex_iald dX4_putNote_19 (mu_l hm 7 (by decide)) (mu_S7 hm) b5 ?_
  refine ex_invV (k := 42) (ci := 4) (as := [.int (M (m + 7) (Int32.toNatClampNeg p1))]) (L2 := [.ref 42, .int (M (m + 7) (Int32.toNatClampNeg p1))]) (st := []) 0 0 dX4_putNote_20 lk_X4_148 sl_X4_putSign (rmK_of rfl) (by decide) rfl ⟨by decide, rfl⟩ rfl (Nat.le_of_ble_eq_true rfl) (Nat.le_of_ble_eq_true rfl) (t_X4_putSign r m hr hm (M (m + 7) (Int32.toNatClampNeg p1)) M _ h) (fun v6 M7 h => ?_)
  show Ex true mX4_putNote 78 78 0 0 23 [.ref 42, .int p1, .int x3, .null, .null] [] M7 Q
  refine ex_aload_n dX4_putNote_23 rfl ?_
  refine ex_getR (ci := 4) (j := 1) (v := 43) dX4_putNote_24 (by decide) rfl rfl lk_X4_12 rfl (by decide) ?_
  refine ex_iload_n dX4_putNote_27 rfl ?_
  refine ex_invV (k := 43) (ci := 1) (as := [.int x3]) (L2 := [.ref 43, .int x3]) (st := []) 0 0 dX4_putNote_28 lk_X4_151 sl_X1_needsSign (rmK_of rfl) (by decide) rfl ⟨by decide, rfl⟩ rfl (Nat.le_of_ble_eq_true rfl) (Nat.le_of_ble_eq_true rfl) (t_X1_needsSign 43 (Or.inr rfl) x3 M7 _ h) (fun v8 M9 h => ?_)
  show Ex true mX4_putNote 78 78 0 0 31 [.ref 42, .int p1, .int x3, .null, .null] [.int v8] M9 Q
  refine ex_if_eq (tgt := 53) dX4_putNote_31 (by decide) (fun c_31 => ?_) (fun c_31 => ?_)
  · replace h := h.1 c_31
    exact t_X4_putNote_53 r m hr hm  Q   p1 x3 M9 h
  · replace h := h.2 c_31
    refine ex_aload_n dX4_putNote_34 rfl ?_
    obtain ⟨g40, h⟩ := h
    refine ex_getD (ci := 4) (j := 4) (v := r) dX4_putNote_35 (by decide) rfl rfl lk_X4_34 rfl g40 (rw_100 hr) ?_
    refine ex_gets (i := 3) dX4_putNote_38 (by decide) lk_X4_154 ?_
    refine ex_iload_n dX4_putNote_41 rfl ?_
    refine ex_bipush (v := 7) dX4_putNote_42 (by decide) ?_
    refine ex_idiv dX4_putNote_44 (by decide) ?_
    refine ex_iconst (v := 1) dX4_putNote_45 (by decide) ?_
    refine ex_isub dX4_putNote_46 ?_
    refine ex_invS (as := [.ref (100 + 3), .int ((x3 / 7) - 1)]) (L2 := [.ref (100 + 3), .int ((x3 / 7) - 1)]) (st := [.ref r]) 0 0 dX4_putNote_47 lk_X4_135 sl_X6_cellAt (rmK_of rfl) rfl (Nat.le_of_ble_eq_true rfl) (Nat.le_of_ble_eq_true rfl) (t_X6_cellAt 3 (ti_d rfl) ((x3 / 7) - 1) M9 _ h) (fun v41 M42 h => ?_)
    show Ex true mX4_putNote 78 78 0 0 50 [.ref 42, .int p1, .int x3, .null, .null] [.int v41, .ref r] M42 Q
    refine ex_invV (k := r) (ci := 2) (as := [.int v41]) (L2 := [.ref r, .int v41]) (st := []) 0 0 dX4_putNote_50 lk_X4_58 sl_X2_put (rmK_of rfl) (rw_l hr 0 (by decide)) (rw_S0 hr) ⟨by decide, rfl⟩ rfl (Nat.le_of_ble_eq_true rfl) (Nat.le_of_ble_eq_true rfl) (t_X2_put r hr v41 M42 _ h) (fun v43 M44 h => ?_)
    show Ex true mX4_putNote 78 78 0 0 53 [.ref 42, .int p1, .int x3, .null, .null] [] M44 Q
    exact t_X4_putNote_53 r m hr hm  Q   p1 x3 M44 h
def w_X4_putItem_82 (r m : Nat) (Q : Int32 → Mem → Prop) (l1 : Int32) (M : Mem) : Prop := (vp_in l1 600) ∧ ((¬ ((M 44 (Int32.toNatClampNeg l1)) = 3) → (Q 0 M)) ∧ (((M 44 (Int32.toNatClampNeg l1)) = 3) → (w_X4_putTwo r m 24 6 M (fun v16 M17 => Q 0 M17))))
theorem t_X4_putItem_82 (r m : Nat) (hr : RW r) (hm : MU m) (Q : Int32 → Mem → Prop) (l1 : Int32) (M : Mem) (h : w_X4_putItem_82 r m Q  l1 M) : Ex true mX4_putItem 78 78 0 0 82 [.ref 42, .int l1] [] M Q := by
  unfold w_X4_putItem_82 at h
  refine ex_aload_n dX4_putItem_82 rfl ?_
  refine ex_getR (ci := 4) (j := 2) (v := 44) dX4_putItem_83 (by decide) rfl rfl lk_X4_18 rfl (by decide) ?_
  refine ex_iload_n dX4_putItem_86 rfl ?_
  obtain ⟨b15, h⟩ := h
  refine ex_iald dX4_putItem_87 (by decide) rfl b15 ?_
  refine ex_iconst (v := 3) dX4_putItem_88 (by decide) ?_
  refine ex_icmp_ne (tgt := 100) dX4_putItem_89 (by decide) (fun c_89 => ?_) (fun c_89 => ?_)
  · replace h := h.1 c_89
    exact ex_vret dX4_putItem_100 rfl rfl h
  · replace h := h.2 c_89
    refine ex_aload_n dX4_putItem_92 rfl ?_
    refine ex_bipush (v := 24) dX4_putItem_93 (by decide) ?_
    refine ex_bipush (v := 6) dX4_putItem_95 (by decide) ?_
    refine ex_invV (k := 42) (ci := 4) (as := [.int 24, .int 6]) (L2 := [.ref 42, .int 24, .int 6]) (st := []) 0 0 dX4_putItem_97 lk_X4_104 sl_X4_putTwo (rmK_of rfl) (by decide) rfl ⟨by decide, rfl⟩ rfl (Nat.le_of_ble_eq_true rfl) (Nat.le_of_ble_eq_true rfl) (t_X4_putTwo r m hr hm 24 6 M _ h) (fun v16 M17 h => ?_)
    show Ex true mX4_putItem 78 78 0 0 100 [.ref 42, .int l1] [] M17 Q
    exact ex_vret dX4_putItem_100 rfl rfl h
def w_X4_putItem_63 (r m : Nat) (Q : Int32 → Mem → Prop) (l1 : Int32) (M : Mem) : Prop := (vp_in l1 600) ∧ ((¬ ((M 44 (Int32.toNatClampNeg l1)) = 1) → (w_X4_putItem_82 r m Q  l1 M)) ∧ (((M 44 (Int32.toNatClampNeg l1)) = 1) → ((M 42 4 = nI r) ∧ (w_X2_put r 9 M (fun v19 M20 => w_X4_putItem_82 r m Q  l1 M20)))))
theorem t_X4_putItem_63 (r m : Nat) (hr : RW r) (hm : MU m) (Q : Int32 → Mem → Prop) (l1 : Int32) (M : Mem) (h : w_X4_putItem_63 r m Q  l1 M) : Ex true mX4_putItem 78 78 0 0 63 [.ref 42, .int l1] [] M Q := by
  unfold w_X4_putItem_63 at h
  refine ex_aload_n dX4_putItem_63 rfl ?_
  refine ex_getR (ci := 4) (j := 2) (v := 44) dX4_putItem_64 (by decide) rfl rfl lk_X4_18 rfl (by decide) ?_
  refine ex_iload_n dX4_putItem_67 rfl ?_
  obtain ⟨b14, h⟩ := h
  refine ex_iald dX4_putItem_68 (by decide) rfl b14 ?_
  refine ex_iconst (v := 1) dX4_putItem_69 (by decide) ?_
  refine ex_icmp_ne (tgt := 82) dX4_putItem_70 (by decide) (fun c_70 => ?_) (fun c_70 => ?_)
  · replace h := h.1 c_70
    exact t_X4_putItem_82 r m hr hm  Q   l1 M h
  · replace h := h.2 c_70
    refine ex_aload_n dX4_putItem_73 rfl ?_
    obtain ⟨g18, h⟩ := h
    refine ex_getD (ci := 4) (j := 4) (v := r) dX4_putItem_74 (by decide) rfl rfl lk_X4_34 rfl g18 (rw_100 hr) ?_
    refine ex_bipush (v := 9) dX4_putItem_77 (by decide) ?_
    refine ex_invV (k := r) (ci := 2) (as := [.int 9]) (L2 := [.ref r, .int 9]) (st := []) 0 0 dX4_putItem_79 lk_X4_58 sl_X2_put (rmK_of rfl) (rw_l hr 0 (by decide)) (rw_S0 hr) ⟨by decide, rfl⟩ rfl (Nat.le_of_ble_eq_true rfl) (Nat.le_of_ble_eq_true rfl) (t_X2_put r hr 9 M _ h) (fun v19 M20 h => ?_)
    show Ex true mX4_putItem 78 78 0 0 82 [.ref 42, .int l1] [] M20 Q
    exact t_X4_putItem_82 r m hr hm  Q   l1 M20 h
def w_X4_putItem_17 (r m : Nat) (Q : Int32 → Mem → Prop) (l1 : Int32) (M : Mem) : Prop := (M 42 5 = nI m) ∧ (w_X0_isNote m l1 M (fun v3 M4 => ((v3 = 0) → ((M4 42 4 = nI r) ∧ ((M4 42 5 = nI m) ∧ ((vp_in l1 600) ∧ (w_X6_cellAt 2 (M4 (m + 8) (Int32.toNatClampNeg l1)) M4 (fun v8 M9 => w_X2_put r v8 M9 (fun v10 M11 => w_X4_putDots r m l1 M11 (fun v12 M13 => w_X4_putItem_63 r m Q  l1 M13)))))))) ∧ (¬ (v3 = 0) → (w_X4_putNote r m l1 M4 (fun v21 M22 => w_X4_putItem_63 r m Q  l1 M22)))))
theorem t_X4_putItem_17 (r m : Nat) (hr : RW r) (hm : MU m) (Q : Int32 → Mem → Prop) (l1 : Int32) (M : Mem) (h : w_X4_putItem_17 r m Q  l1 M) : Ex true mX4_putItem 78 78 0 0 17 [.ref 42, .int l1] [] M Q := by
  unfold w_X4_putItem_17 at h
  refine ex_aload_n dX4_putItem_17 rfl ?_
  obtain ⟨g2, h⟩ := h
  refine ex_getD (ci := 4) (j := 5) (v := m) dX4_putItem_18 (by decide) rfl rfl lk_X4_30 rfl g2 (mu_100 hm) ?_
  refine ex_iload_n dX4_putItem_21 rfl ?_
  refine ex_invV (k := m) (ci := 0) (as := [.int l1]) (L2 := [.ref m, .int l1]) (st := []) 0 0 dX4_putItem_22 lk_X4_122 sl_X0_isNote (rmK_of rfl) (mu_l hm 0 (by decide)) (mu_S0 hm) ⟨by decide, rfl⟩ rfl (Nat.le_of_ble_eq_true rfl) (Nat.le_of_ble_eq_true rfl) (t_X0_isNote m hm l1 M _ h) (fun v3 M4 h => ?_)
  show Ex true mX4_putItem 78 78 0 0 25 [.ref 42, .int l1] [.int v3] M4 Q
  refine ex_if_eq (tgt := 36) dX4_putItem_25 (by decide) (fun c_25 => ?_) (fun c_25 => ?_)
  · replace h := h.1 c_25
    refine ex_aload_n dX4_putItem_36 rfl ?_
    obtain ⟨g5, h⟩ := h
    refine ex_getD (ci := 4) (j := 4) (v := r) dX4_putItem_37 (by decide) rfl rfl lk_X4_34 rfl g5 (rw_100 hr) ?_
    refine ex_gets (i := 2) dX4_putItem_40 (by decide) lk_X4_129 ?_
    refine ex_aload_n dX4_putItem_43 rfl ?_
    obtain ⟨g6, h⟩ := h
    refine ex_getD (ci := 4) (j := 5) (v := m) dX4_putItem_44 (by decide) rfl rfl lk_X4_30 rfl g6 (mu_100 hm) ?_
    refine ex_getR (ci := 0) (j := 11) (v := m + 8) dX4_putItem_47 (mu_l hm 0 (by decide)) (mu_S0 hm) rfl lk_X4_132 (mu_F11 hm) (by omega) ?_
    refine ex_iload_n dX4_putItem_50 rfl ?_
    obtain ⟨b7, h⟩ := h
    refine ex_iald dX4_putItem_51 (mu_l hm 8 (by decide)) (mu_S8 hm) b7 ?_
    refine ex_invS (as := [.ref (100 + 2), .int (M4 (m + 8) (Int32.toNatClampNeg l1))]) (L2 := [.ref (100 + 2), .int (M4 (m + 8) (Int32.toNatClampNeg l1))]) (st := [.ref r]) 0 0 dX4_putItem_52 lk_X4_135 sl_X6_cellAt (rmK_of rfl) rfl (Nat.le_of_ble_eq_true rfl) (Nat.le_of_ble_eq_true rfl) (t_X6_cellAt 2 (ti_d rfl) (M4 (m + 8) (Int32.toNatClampNeg l1)) M4 _ h) (fun v8 M9 h => ?_)
    show Ex true mX4_putItem 78 78 0 0 55 [.ref 42, .int l1] [.int v8, .ref r] M9 Q
    refine ex_invV (k := r) (ci := 2) (as := [.int v8]) (L2 := [.ref r, .int v8]) (st := []) 0 0 dX4_putItem_55 lk_X4_58 sl_X2_put (rmK_of rfl) (rw_l hr 0 (by decide)) (rw_S0 hr) ⟨by decide, rfl⟩ rfl (Nat.le_of_ble_eq_true rfl) (Nat.le_of_ble_eq_true rfl) (t_X2_put r hr v8 M9 _ h) (fun v10 M11 h => ?_)
    show Ex true mX4_putItem 78 78 0 0 58 [.ref 42, .int l1] [] M11 Q
    refine ex_aload_n dX4_putItem_58 rfl ?_
    refine ex_iload_n dX4_putItem_59 rfl ?_
    refine ex_invV (k := 42) (ci := 4) (as := [.int l1]) (L2 := [.ref 42, .int l1, .null]) (st := []) 0 0 dX4_putItem_60 lk_X4_139 sl_X4_putDots (rmK_of rfl) (by decide) rfl ⟨by decide, rfl⟩ rfl (Nat.le_of_ble_eq_true rfl) (Nat.le_of_ble_eq_true rfl) (t_X4_putDots r m hr hm l1 M11 _ h) (fun v12 M13 h => ?_)
    show Ex true mX4_putItem 78 78 0 0 63 [.ref 42, .int l1] [] M13 Q
    exact t_X4_putItem_63 r m hr hm  Q   l1 M13 h
  · replace h := h.2 c_25
    refine ex_aload_n dX4_putItem_28 rfl ?_
    refine ex_iload_n dX4_putItem_29 rfl ?_
    refine ex_invV (k := 42) (ci := 4) (as := [.int l1]) (L2 := [.ref 42, .int l1, .null, .null, .null]) (st := []) 0 0 dX4_putItem_30 lk_X4_126 sl_X4_putNote (rmK_of rfl) (by decide) rfl ⟨by decide, rfl⟩ rfl (Nat.le_of_ble_eq_true rfl) (Nat.le_of_ble_eq_true rfl) (t_X4_putNote r m hr hm l1 M4 _ h) (fun v21 M22 h => ?_)
    show Ex true mX4_putItem 78 78 0 0 33 [.ref 42, .int l1] [] M22 Q
    refine ex_goto (tgt := 63) dX4_putItem_33 (by decide) ?_
    exact t_X4_putItem_63 r m hr hm  Q   l1 M22 h
def w_X4_putItem (r m : Nat) (p1 : Int32) (M : Mem) (Q : Int32 → Mem → Prop) : Prop := (vp_in p1 600) ∧ ((¬ ((M 44 (Int32.toNatClampNeg p1)) = 2) → (w_X4_putItem_17 r m Q  p1 M)) ∧ (((M 44 (Int32.toNatClampNeg p1)) = 2) → (w_X4_putTwo r m 48 3 M (fun v23 M24 => w_X4_putItem_17 r m Q  p1 M24))))
theorem t_X4_putItem (r m : Nat) (hr : RW r) (hm : MU m) (p1 : Int32) (M : Mem) (Q : Int32 → Mem → Prop) (h : w_X4_putItem r m p1 M Q) : Ex true mX4_putItem 78 78 0 0 0 [.ref 42, .int p1] [] M Q := by
  unfold w_X4_putItem at h
  refine ex_aload_n dX4_putItem_0 rfl ?_
  refine ex_getR (ci := 4) (j := 2) (v := 44) dX4_putItem_1 (by decide) rfl rfl lk_X4_18 rfl (by decide) ?_
  refine ex_iload_n dX4_putItem_4 rfl ?_
  obtain ⟨b1, h⟩ := h
  refine ex_iald dX4_putItem_5 (by decide) rfl b1 ?_
  refine ex_iconst (v := 2) dX4_putItem_6 (by decide) ?_
  refine ex_icmp_ne (tgt := 17) dX4_putItem_7 (by decide) (fun c_7 => ?_) (fun c_7 => ?_)
  · replace h := h.1 c_7
    exact t_X4_putItem_17 r m hr hm  Q   p1 M h
  · replace h := h.2 c_7
    refine ex_aload_n dX4_putItem_10 rfl ?_
    refine ex_bipush (v := 48) dX4_putItem_11 (by decide) ?_
    refine ex_iconst (v := 3) dX4_putItem_13 (by decide) ?_
    refine ex_invV (k := 42) (ci := 4) (as := [.int 48, .int 3]) (L2 := [.ref 42, .int 48, .int 3]) (st := []) 0 0 dX4_putItem_14 lk_X4_104 sl_X4_putTwo (rmK_of rfl) (by decide) rfl ⟨by decide, rfl⟩ rfl (Nat.le_of_ble_eq_true rfl) (Nat.le_of_ble_eq_true rfl) (t_X4_putTwo r m hr hm 48 3 M _ h) (fun v23 M24 h => ?_)
    show Ex true mX4_putItem 78 78 0 0 17 [.ref 42, .int p1] [] M24 Q
    exact t_X4_putItem_17 r m hr hm  Q   p1 M24 h
def w_X4_putBar_131 (r m : Nat) (Q : Int32 → Mem → Prop) (B23 : Int32 → Int32 → Mem → Prop) (B64 : Int32 → Int32 → Int32 → Int32 → Mem → Prop) (l1 : Int32) (l2 : Int32) (l3 : Int32) (l4 : Int32) (l5 : Int32) (M : Mem) : Prop := (M 42 5 = nI m) ∧ ((vp_in l5 600) ∧ (w_X4_putSize r m (M (m + 9) (Int32.toNatClampNeg l5)) M (fun v18 M19 => w_X4_putItem r m l5 M19 (fun v20 M21 => ∀ x22 : Int32, x22 = l4 + 1 → B64 l1 l2 l3 x22 M21))))
theorem t_X4_putBar_131 (r m : Nat) (hr : RW r) (hm : MU m) (Q : Int32 → Mem → Prop) (B23 : Int32 → Int32 → Mem → Prop) (B64 : Int32 → Int32 → Int32 → Int32 → Mem → Prop) (hB23 : ∀ (l1 : Int32) (l2 : Int32) (M : Mem), B23 l1 l2 M → Ex true mX4_putBar 78 78 0 0 23 [.ref 42, .int l1, .int l2, .null, .null, .null] [] M Q) (hB64 : ∀ (l1 : Int32) (l2 : Int32) (l3 : Int32) (l4 : Int32) (M : Mem), B64 l1 l2 l3 l4 M → Ex true mX4_putBar 78 78 0 0 64 [.ref 42, .int l1, .int l2, .int l3, .int l4, .null] [] M Q) (l1 : Int32) (l2 : Int32) (l3 : Int32) (l4 : Int32) (l5 : Int32) (M : Mem) (h : w_X4_putBar_131 r m Q B23 B64 l1 l2 l3 l4 l5 M) : Ex true mX4_putBar 78 78 0 0 131 [.ref 42, .int l1, .int l2, .int l3, .int l4, .int l5] [] M Q := by
  unfold w_X4_putBar_131 at h
  refine ex_aload_n dX4_putBar_131 rfl ?_
  refine ex_aload_n dX4_putBar_132 rfl ?_
  obtain ⟨g16, h⟩ := h
  refine ex_getD (ci := 4) (j := 5) (v := m) dX4_putBar_133 (by decide) rfl rfl lk_X4_30 rfl g16 (mu_100 hm) ?_
  refine ex_getR (ci := 0) (j := 12) (v := m + 9) dX4_putBar_136 (mu_l hm 0 (by decide)) (mu_S0 hm) rfl lk_X4_113 (mu_F12 hm) (by omega) ?_
  refine ex_iload dX4_putBar_139 rfl ?_
  obtain ⟨b17, h⟩ := h
  refine ex_iald dX4_putBar_141 (mu_l hm 9 (by decide)) (mu_S9 hm) b17 ?_
  refine ex_invV (k := 42) (ci := 4) (as := [.int (M (m + 9) (Int32.toNatClampNeg l5))]) (L2 := [.ref 42, .int (M (m + 9) (Int32.toNatClampNeg l5))]) (st := []) 0 0 dX4_putBar_142 lk_X4_116 sl_X4_putSize (rmK_of rfl) (by decide) rfl ⟨by decide, rfl⟩ rfl (Nat.le_of_ble_eq_true rfl) (Nat.le_of_ble_eq_true rfl) (t_X4_putSize r m hr hm (M (m + 9) (Int32.toNatClampNeg l5)) M _ h) (fun v18 M19 h => ?_)
  show Ex true mX4_putBar 78 78 0 0 145 [.ref 42, .int l1, .int l2, .int l3, .int l4, .int l5] [] M19 Q
  refine ex_aload_n dX4_putBar_145 rfl ?_
  refine ex_iload dX4_putBar_146 rfl ?_
  refine ex_invV (k := 42) (ci := 4) (as := [.int l5]) (L2 := [.ref 42, .int l5]) (st := []) 0 0 dX4_putBar_148 lk_X4_119 sl_X4_putItem (rmK_of rfl) (by decide) rfl ⟨by decide, rfl⟩ rfl (Nat.le_of_ble_eq_true rfl) (Nat.le_of_ble_eq_true rfl) (t_X4_putItem r m hr hm l5 M19 _ h) (fun v20 M21 h => ?_)
  show Ex true mX4_putBar 78 78 0 0 151 [.ref 42, .int l1, .int l2, .int l3, .int l4, .int l5] [] M21 Q
  refine ex_iinc (v := l4 + 1) (L2 := [.ref 42, .int l1, .int l2, .int l3, .int (l4 + 1), .int l5]) dX4_putBar_151 rfl rfl (by decide) rfl rfl ?_
  obtain ⟨x22, ex22⟩ : ∃ x22 : Int32, x22 = l4 + 1 := ⟨_, rfl⟩
  rw [← ex22]
  replace h := h x22 ex22
  refine ex_goto (tgt := 64) dX4_putBar_154 (by decide) ?_
  refine ex_less (L2 := [.ref 42, .int l1, .int l2, .int l3, .int x22, .null]) ?_ (by intro i v hi hn; match i, hi with | 0, hi => exact hi | 1, hi => exact hi | 2, hi => exact hi | 3, hi => exact hi | 4, hi => exact hi | 5, hi => (cases hi; cases hn) | k + 6, hi => (exact absurd hi (by simp)))
  exact hB64 l1 l2 l3 x22 M21 h
def wb_X4_putBar_64 (r m : Nat) (Q : Int32 → Mem → Prop) (B23 : Int32 → Int32 → Mem → Prop) (B64 : Int32 → Int32 → Int32 → Int32 → Mem → Prop) (l1 : Int32) (l2 : Int32) (l3 : Int32) (l4 : Int32) (M : Mem) : Prop := (M 42 5 = nI m) ∧ ((vp_in l3 180) ∧ ((((M (m + 3) (Int32.toNatClampNeg l3)) ≤ l4) → (∀ x8 : Int32, x8 = l2 + 1 → B23 l1 x8 M)) ∧ (¬ ((M (m + 3) (Int32.toNatClampNeg l3)) ≤ l4) → ((M 42 5 = nI m) ∧ ((vp_in l3 180) ∧ (∀ x11 : Int32, x11 = ((M (m + 2) (Int32.toNatClampNeg l3)) + l4) → (vp_in l3 180) ∧ ((((M 45 (Int32.toNatClampNeg l3)) = 0) → (w_X4_putItem r m x11 M (fun v13 M14 => ∀ x15 : Int32, x15 = l4 + 1 → B64 l1 l2 l3 x15 M14))) ∧ (¬ ((M 45 (Int32.toNatClampNeg l3)) = 0) → (((l4 = 0) → (w_X4_putBar_131 r m Q B23 B64 l1 l2 l3 l4 x11 M)) ∧ (¬ (l4 = 0) → ((M 42 5 = nI m) ∧ ((vp_in x11 600) ∧ ((M 42 5 = nI m) ∧ ((vp_in (x11 - 1) 600) ∧ ((((M (m + 9) (Int32.toNatClampNeg x11)) = (M (m + 9) (Int32.toNatClampNeg (x11 - 1)))) → (w_X4_putItem r m x11 M (fun v27 M28 => ∀ x29 : Int32, x29 = l4 + 1 → B64 l1 l2 l3 x29 M28))) ∧ (¬ ((M (m + 9) (Int32.toNatClampNeg x11)) = (M (m + 9) (Int32.toNatClampNeg (x11 - 1)))) → (w_X4_putBar_131 r m Q B23 B64 l1 l2 l3 l4 x11 M)))))))))))))))))
def w_X4_putBar_64 (r m : Nat) (Q : Int32 → Mem → Prop) (B23 : Int32 → Int32 → Mem → Prop) : Nat → Int32 → Int32 → Int32 → Int32 → Mem → Prop
  | 0 => fun _ _ _ _ _ => False
  | k + 1 => wb_X4_putBar_64 r m Q B23 (w_X4_putBar_64 r m Q B23 k)
theorem t_X4_putBar_64 (r m : Nat) (hr : RW r) (hm : MU m) (Q : Int32 → Mem → Prop) (B23 : Int32 → Int32 → Mem → Prop) (hB23 : ∀ (l1 : Int32) (l2 : Int32) (M : Mem), B23 l1 l2 M → Ex true mX4_putBar 78 78 0 0 23 [.ref 42, .int l1, .int l2, .null, .null, .null] [] M Q) : ∀ (k : Nat) (l1 : Int32) (l2 : Int32) (l3 : Int32) (l4 : Int32) (M : Mem), w_X4_putBar_64 r m Q B23 k l1 l2 l3 l4 M → Ex true mX4_putBar 78 78 0 0 64 [.ref 42, .int l1, .int l2, .int l3, .int l4, .null] [] M Q := by
  intro k
  induction k with
  | zero => intro l1 l2 l3 l4 M h; exact False.elim h
  | succ k hB64 =>
    intro l1 l2 l3 l4 M h
    replace h : wb_X4_putBar_64 r m Q B23 (w_X4_putBar_64 r m Q B23 k) l1 l2 l3 l4 M := h
    generalize w_X4_putBar_64 r m Q B23 k = B64 at hB64 h
    unfold wb_X4_putBar_64 at h
    refine ex_iload dX4_putBar_64 rfl ?_
    refine ex_aload_n dX4_putBar_66 rfl ?_
    obtain ⟨g6, h⟩ := h
    refine ex_getD (ci := 4) (j := 5) (v := m) dX4_putBar_67 (by decide) rfl rfl lk_X4_30 rfl g6 (mu_100 hm) ?_
    refine ex_getR (ci := 0) (j := 6) (v := m + 3) dX4_putBar_70 (mu_l hm 0 (by decide)) (mu_S0 hm) rfl lk_X4_107 (mu_F6 hm) (by omega) ?_
    refine ex_iload_n dX4_putBar_73 rfl ?_
    obtain ⟨b7, h⟩ := h
    refine ex_iald dX4_putBar_74 (mu_l hm 3 (by decide)) (mu_S3 hm) b7 ?_
    refine ex_icmp_ge (tgt := 157) dX4_putBar_75 (by decide) (fun c_75 => ?_) (fun c_75 => ?_)
    · replace h := h.1 c_75
      refine ex_iinc (v := l2 + 1) (L2 := [.ref 42, .int l1, .int (l2 + 1), .int l3, .int l4, .null]) dX4_putBar_157 rfl rfl (by decide) rfl rfl ?_
      obtain ⟨x8, ex8⟩ : ∃ x8 : Int32, x8 = l2 + 1 := ⟨_, rfl⟩
      rw [← ex8]
      replace h := h x8 ex8
      refine ex_goto (tgt := 23) dX4_putBar_160 (by decide) ?_
      refine ex_less (L2 := [.ref 42, .int l1, .int x8, .null, .null, .null]) ?_ (by intro i v hi hn; match i, hi with | 0, hi => exact hi | 1, hi => exact hi | 2, hi => exact hi | 3, hi => (cases hi; cases hn) | 4, hi => (cases hi; cases hn) | 5, hi => exact hi | k + 6, hi => (exact absurd hi (by simp)))
      exact hB23 l1 x8 M h
    · replace h := h.2 c_75
      refine ex_aload_n dX4_putBar_78 rfl ?_
      obtain ⟨g9, h⟩ := h
      refine ex_getD (ci := 4) (j := 5) (v := m) dX4_putBar_79 (by decide) rfl rfl lk_X4_30 rfl g9 (mu_100 hm) ?_
      refine ex_getR (ci := 0) (j := 5) (v := m + 2) dX4_putBar_82 (mu_l hm 0 (by decide)) (mu_S0 hm) rfl lk_X4_110 (mu_F5 hm) (by omega) ?_
      refine ex_iload_n dX4_putBar_85 rfl ?_
      obtain ⟨b10, h⟩ := h
      refine ex_iald dX4_putBar_86 (mu_l hm 2 (by decide)) (mu_S2 hm) b10 ?_
      refine ex_iload dX4_putBar_87 rfl ?_
      refine ex_iadd dX4_putBar_89 ?_
      refine ex_top (fun x11 ex11 => ?_)
      replace h := h x11 ex11
      refine ex_istore (L2 := [.ref 42, .int l1, .int l2, .int l3, .int l4, .int x11]) dX4_putBar_90 (by decide) rfl rfl ?_
      refine ex_aload_n dX4_putBar_92 rfl ?_
      refine ex_getR (ci := 4) (j := 3) (v := 45) dX4_putBar_93 (by decide) rfl rfl lk_X4_22 rfl (by decide) ?_
      refine ex_iload_n dX4_putBar_96 rfl ?_
      obtain ⟨b12, h⟩ := h
      refine ex_zald dX4_putBar_97 (by decide) rfl b12 ?_
      refine ex_if_eq (tgt := 145) dX4_putBar_98 (by decide) (fun c_98 => ?_) (fun c_98 => ?_)
      · replace h := h.1 c_98
        refine ex_aload_n dX4_putBar_145 rfl ?_
        refine ex_iload dX4_putBar_146 rfl ?_
        refine ex_invV (k := 42) (ci := 4) (as := [.int x11]) (L2 := [.ref 42, .int x11]) (st := []) 0 0 dX4_putBar_148 lk_X4_119 sl_X4_putItem (rmK_of rfl) (by decide) rfl ⟨by decide, rfl⟩ rfl (Nat.le_of_ble_eq_true rfl) (Nat.le_of_ble_eq_true rfl) (t_X4_putItem r m hr hm x11 M _ h) (fun v13 M14 h => ?_)
        show Ex true mX4_putBar 78 78 0 0 151 [.ref 42, .int l1, .int l2, .int l3, .int l4, .int x11] [] M14 Q
        refine ex_iinc (v := l4 + 1) (L2 := [.ref 42, .int l1, .int l2, .int l3, .int (l4 + 1), .int x11]) dX4_putBar_151 rfl rfl (by decide) rfl rfl ?_
        obtain ⟨x15, ex15⟩ : ∃ x15 : Int32, x15 = l4 + 1 := ⟨_, rfl⟩
        rw [← ex15]
        replace h := h x15 ex15
        refine ex_goto (tgt := 64) dX4_putBar_154 (by decide) ?_
        refine ex_less (L2 := [.ref 42, .int l1, .int l2, .int l3, .int x15, .null]) ?_ (by intro i v hi hn; match i, hi with | 0, hi => exact hi | 1, hi => exact hi | 2, hi => exact hi | 3, hi => exact hi | 4, hi => exact hi | 5, hi => (cases hi; cases hn) | k + 6, hi => (exact absurd hi (by simp)))
        exact hB64 l1 l2 l3 x15 M14 h
      · replace h := h.2 c_98
        refine ex_iload dX4_putBar_101 rfl ?_
        refine ex_if_eq (tgt := 131) dX4_putBar_103 (by decide) (fun c_103 => ?_) (fun c_103 => ?_)
        · replace h := h.1 c_103
          exact t_X4_putBar_131 r m hr hm  Q B23 B64 hB23 hB64 l1 l2 l3 l4 x11 M h
        · replace h := h.2 c_103
          refine ex_aload_n dX4_putBar_106 rfl ?_
          obtain ⟨g23, h⟩ := h
          refine ex_getD (ci := 4) (j := 5) (v := m) dX4_putBar_107 (by decide) rfl rfl lk_X4_30 rfl g23 (mu_100 hm) ?_
          refine ex_getR (ci := 0) (j := 12) (v := m + 9) dX4_putBar_110 (mu_l hm 0 (by decide)) (mu_S0 hm) rfl lk_X4_113 (mu_F12 hm) (by omega) ?_
          refine ex_iload dX4_putBar_113 rfl ?_
          obtain ⟨b24, h⟩ := h
          refine ex_iald dX4_putBar_115 (mu_l hm 9 (by decide)) (mu_S9 hm) b24 ?_
          refine ex_aload_n dX4_putBar_116 rfl ?_
          obtain ⟨g25, h⟩ := h
          refine ex_getD (ci := 4) (j := 5) (v := m) dX4_putBar_117 (by decide) rfl rfl lk_X4_30 rfl g25 (mu_100 hm) ?_
          refine ex_getR (ci := 0) (j := 12) (v := m + 9) dX4_putBar_120 (mu_l hm 0 (by decide)) (mu_S0 hm) rfl lk_X4_113 (mu_F12 hm) (by omega) ?_
          refine ex_iload dX4_putBar_123 rfl ?_
          refine ex_iconst (v := 1) dX4_putBar_125 (by decide) ?_
          refine ex_isub dX4_putBar_126 ?_
          obtain ⟨b26, h⟩ := h
          refine ex_iald dX4_putBar_127 (mu_l hm 9 (by decide)) (mu_S9 hm) b26 ?_
          refine ex_icmp_eq (tgt := 145) dX4_putBar_128 (by decide) (fun c_128 => ?_) (fun c_128 => ?_)
          · replace h := h.1 c_128
            refine ex_aload_n dX4_putBar_145 rfl ?_
            refine ex_iload dX4_putBar_146 rfl ?_
            refine ex_invV (k := 42) (ci := 4) (as := [.int x11]) (L2 := [.ref 42, .int x11]) (st := []) 0 0 dX4_putBar_148 lk_X4_119 sl_X4_putItem (rmK_of rfl) (by decide) rfl ⟨by decide, rfl⟩ rfl (Nat.le_of_ble_eq_true rfl) (Nat.le_of_ble_eq_true rfl) (t_X4_putItem r m hr hm x11 M _ h) (fun v27 M28 h => ?_)
            show Ex true mX4_putBar 78 78 0 0 151 [.ref 42, .int l1, .int l2, .int l3, .int l4, .int x11] [] M28 Q
            refine ex_iinc (v := l4 + 1) (L2 := [.ref 42, .int l1, .int l2, .int l3, .int (l4 + 1), .int x11]) dX4_putBar_151 rfl rfl (by decide) rfl rfl ?_
            obtain ⟨x29, ex29⟩ : ∃ x29 : Int32, x29 = l4 + 1 := ⟨_, rfl⟩
            rw [← ex29]
            replace h := h x29 ex29
            refine ex_goto (tgt := 64) dX4_putBar_154 (by decide) ?_
            refine ex_less (L2 := [.ref 42, .int l1, .int l2, .int l3, .int x29, .null]) ?_ (by intro i v hi hn; match i, hi with | 0, hi => exact hi | 1, hi => exact hi | 2, hi => exact hi | 3, hi => exact hi | 4, hi => exact hi | 5, hi => (cases hi; cases hn) | k + 6, hi => (exact absurd hi (by simp)))
            exact hB64 l1 l2 l3 x29 M28 h
          · replace h := h.2 c_128
            exact t_X4_putBar_131 r m hr hm  Q B23 B64 hB23 hB64 l1 l2 l3 l4 x11 M h
def w_X4_putBar_55 (r m : Nat) (Q : Int32 → Mem → Prop) (B23 : Int32 → Int32 → Mem → Prop) (l1 : Int32) (l2 : Int32) (M : Mem) : Prop := ∀ x5 : Int32, x5 = ((l1 * 3) + l2) → ∃ k, w_X4_putBar_64 r m Q B23 k l1 l2 x5 0 M
theorem t_X4_putBar_55 (r m : Nat) (hr : RW r) (hm : MU m) (Q : Int32 → Mem → Prop) (B23 : Int32 → Int32 → Mem → Prop) (hB23 : ∀ (l1 : Int32) (l2 : Int32) (M : Mem), B23 l1 l2 M → Ex true mX4_putBar 78 78 0 0 23 [.ref 42, .int l1, .int l2, .null, .null, .null] [] M Q) (l1 : Int32) (l2 : Int32) (M : Mem) (h : w_X4_putBar_55 r m Q B23 l1 l2 M) : Ex true mX4_putBar 78 78 0 0 55 [.ref 42, .int l1, .int l2, .null, .null, .null] [] M Q := by
  unfold w_X4_putBar_55 at h
  refine ex_iload_n dX4_putBar_55 rfl ?_
  refine ex_iconst (v := 3) dX4_putBar_56 (by decide) ?_
  refine ex_imul dX4_putBar_57 ?_
  refine ex_iload_n dX4_putBar_58 rfl ?_
  refine ex_iadd dX4_putBar_59 ?_
  refine ex_top (fun x5 ex5 => ?_)
  replace h := h x5 ex5
  refine ex_istore_n (L2 := [.ref 42, .int l1, .int l2, .int x5, .null, .null]) dX4_putBar_60 (by decide) rfl rfl ?_
  refine ex_iconst (v := 0) dX4_putBar_61 (by decide) ?_
  refine ex_istore (L2 := [.ref 42, .int l1, .int l2, .int x5, .int 0, .null]) dX4_putBar_62 (by decide) rfl rfl ?_
  obtain ⟨k_, h⟩ := h
  exact t_X4_putBar_64 r m hr hm  Q B23 hB23 k_ l1 l2 x5 0 M h
def wb_X4_putBar_23 (r m : Nat) (Q : Int32 → Mem → Prop) (B23 : Int32 → Int32 → Mem → Prop) (l1 : Int32) (l2 : Int32) (M : Mem) : Prop := (M 42 5 = nI m) ∧ ((vp_in l1 60) ∧ ((((M (m + 1) (Int32.toNatClampNeg l1)) ≤ l2) → (Q 0 M)) ∧ (¬ ((M (m + 1) (Int32.toNatClampNeg l1)) ≤ l2) → (((l2 ≤ 0) → (w_X4_putBar_55 r m Q B23 l1 l2 M)) ∧ (¬ (l2 ≤ 0) → (w_X4_putTwo r m 35 28 M (fun v30 M31 => w_X1_forget 43 M31 (fun v32 M33 => w_X4_putBar_55 r m Q B23 l1 l2 M33))))))))
def w_X4_putBar_23 (r m : Nat) (Q : Int32 → Mem → Prop) : Nat → Int32 → Int32 → Mem → Prop
  | 0 => fun _ _ _ => False
  | k + 1 => wb_X4_putBar_23 r m Q  (w_X4_putBar_23 r m Q  k)
theorem t_X4_putBar_23 (r m : Nat) (hr : RW r) (hm : MU m) (Q : Int32 → Mem → Prop) : ∀ (k : Nat) (l1 : Int32) (l2 : Int32) (M : Mem), w_X4_putBar_23 r m Q  k l1 l2 M → Ex true mX4_putBar 78 78 0 0 23 [.ref 42, .int l1, .int l2, .null, .null, .null] [] M Q := by
  intro k
  induction k with
  | zero => intro l1 l2 M h; exact False.elim h
  | succ k hB23 =>
    intro l1 l2 M h
    replace h : wb_X4_putBar_23 r m Q  (w_X4_putBar_23 r m Q  k) l1 l2 M := h
    generalize w_X4_putBar_23 r m Q  k = B23 at hB23 h
    unfold wb_X4_putBar_23 at h
    refine ex_iload_n dX4_putBar_23 rfl ?_
    refine ex_aload_n dX4_putBar_24 rfl ?_
    obtain ⟨g3, h⟩ := h
    refine ex_getD (ci := 4) (j := 5) (v := m) dX4_putBar_25 (by decide) rfl rfl lk_X4_30 rfl g3 (mu_100 hm) ?_
    refine ex_getR (ci := 0) (j := 4) (v := m + 1) dX4_putBar_28 (mu_l hm 0 (by decide)) (mu_S0 hm) rfl lk_X4_72 (mu_F4 hm) (by omega) ?_
    refine ex_iload_n dX4_putBar_31 rfl ?_
    obtain ⟨b4, h⟩ := h
    refine ex_iald dX4_putBar_32 (mu_l hm 1 (by decide)) (mu_S1 hm) b4 ?_
    refine ex_icmp_ge (tgt := 163) dX4_putBar_33 (by decide) (fun c_33 => ?_) (fun c_33 => ?_)
    · replace h := h.1 c_33
      exact ex_vret dX4_putBar_163 rfl rfl h
    · replace h := h.2 c_33
      refine ex_iload_n dX4_putBar_36 rfl ?_
      refine ex_if_le (tgt := 55) dX4_putBar_37 (by decide) (fun c_37 => ?_) (fun c_37 => ?_)
      · replace h := h.1 c_37
        exact t_X4_putBar_55 r m hr hm  Q B23 hB23 l1 l2 M h
      · replace h := h.2 c_37
        refine ex_aload_n dX4_putBar_40 rfl ?_
        refine ex_bipush (v := 35) dX4_putBar_41 (by decide) ?_
        refine ex_bipush (v := 28) dX4_putBar_43 (by decide) ?_
        refine ex_invV (k := 42) (ci := 4) (as := [.int 35, .int 28]) (L2 := [.ref 42, .int 35, .int 28]) (st := []) 0 0 dX4_putBar_45 lk_X4_104 sl_X4_putTwo (rmK_of rfl) (by decide) rfl ⟨by decide, rfl⟩ rfl (Nat.le_of_ble_eq_true rfl) (Nat.le_of_ble_eq_true rfl) (t_X4_putTwo r m hr hm 35 28 M _ h) (fun v30 M31 h => ?_)
        show Ex true mX4_putBar 78 78 0 0 48 [.ref 42, .int l1, .int l2, .null, .null, .null] [] M31 Q
        refine ex_aload_n dX4_putBar_48 rfl ?_
        refine ex_getR (ci := 4) (j := 1) (v := 43) dX4_putBar_49 (by decide) rfl rfl lk_X4_12 rfl (by decide) ?_
        refine ex_invV (k := 43) (ci := 1) (as := []) (L2 := [.ref 43]) (st := []) 0 0 dX4_putBar_52 lk_X4_69 sl_X1_forget (rmK_of rfl) (by decide) rfl ⟨by decide, rfl⟩ rfl (Nat.le_of_ble_eq_true rfl) (Nat.le_of_ble_eq_true rfl) (t_X1_forget 43 (Or.inr rfl) M31 _ h) (fun v32 M33 h => ?_)
        show Ex true mX4_putBar 78 78 0 0 55 [.ref 42, .int l1, .int l2, .null, .null, .null] [] M33 Q
        exact t_X4_putBar_55 r m hr hm  Q B23 hB23 l1 l2 M33 h
def w_X4_putBar (r m : Nat) (p1 : Int32) (M : Mem) (Q : Int32 → Mem → Prop) : Prop := (M 42 5 = nI m) ∧ ((vp_in p1 60) ∧ ((¬ ((M (m + 1) (Int32.toNatClampNeg p1)) = 0) → (∃ k, w_X4_putBar_23 r m Q  k p1 0 M)) ∧ (((M (m + 1) (Int32.toNatClampNeg p1)) = 0) → ((M 42 4 = nI r) ∧ (w_X2_put r 54 M (fun v35 M36 => ∃ k, w_X4_putBar_23 r m Q  k p1 0 M36))))))
theorem t_X4_putBar (r m : Nat) (hr : RW r) (hm : MU m) (p1 : Int32) (M : Mem) (Q : Int32 → Mem → Prop) (h : w_X4_putBar r m p1 M Q) : Ex true mX4_putBar 78 78 0 0 0 [.ref 42, .int p1, .null, .null, .null, .null] [] M Q := by
  unfold w_X4_putBar at h
  refine ex_aload_n dX4_putBar_0 rfl ?_
  obtain ⟨g1, h⟩ := h
  refine ex_getD (ci := 4) (j := 5) (v := m) dX4_putBar_1 (by decide) rfl rfl lk_X4_30 rfl g1 (mu_100 hm) ?_
  refine ex_getR (ci := 0) (j := 4) (v := m + 1) dX4_putBar_4 (mu_l hm 0 (by decide)) (mu_S0 hm) rfl lk_X4_72 (mu_F4 hm) (by omega) ?_
  refine ex_iload_n dX4_putBar_7 rfl ?_
  obtain ⟨b2, h⟩ := h
  refine ex_iald dX4_putBar_8 (mu_l hm 1 (by decide)) (mu_S1 hm) b2 ?_
  refine ex_if_ne (tgt := 21) dX4_putBar_9 (by decide) (fun c_9 => ?_) (fun c_9 => ?_)
  · replace h := h.1 c_9
    refine ex_iconst (v := 0) dX4_putBar_21 (by decide) ?_
    refine ex_istore_n (L2 := [.ref 42, .int p1, .int 0, .null, .null, .null]) dX4_putBar_22 (by decide) rfl rfl ?_
    obtain ⟨k_, h⟩ := h
    exact t_X4_putBar_23 r m hr hm  Q   k_ p1 0 M h
  · replace h := h.2 c_9
    refine ex_aload_n dX4_putBar_12 rfl ?_
    obtain ⟨g34, h⟩ := h
    refine ex_getD (ci := 4) (j := 4) (v := r) dX4_putBar_13 (by decide) rfl rfl lk_X4_34 rfl g34 (rw_100 hr) ?_
    refine ex_bipush (v := 54) dX4_putBar_16 (by decide) ?_
    refine ex_invV (k := r) (ci := 2) (as := [.int 54]) (L2 := [.ref r, .int 54]) (st := []) 0 0 dX4_putBar_18 lk_X4_58 sl_X2_put (rmK_of rfl) (rw_l hr 0 (by decide)) (rw_S0 hr) ⟨by decide, rfl⟩ rfl (Nat.le_of_ble_eq_true rfl) (Nat.le_of_ble_eq_true rfl) (t_X2_put r hr 54 M _ h) (fun v35 M36 h => ?_)
    show Ex true mX4_putBar 78 78 0 0 21 [.ref 42, .int p1, .null, .null, .null, .null] [] M36 Q
    refine ex_iconst (v := 0) dX4_putBar_21 (by decide) ?_
    refine ex_istore_n (L2 := [.ref 42, .int p1, .int 0, .null, .null, .null]) dX4_putBar_22 (by decide) rfl rfl ?_
    obtain ⟨k_, h⟩ := h
    exact t_X4_putBar_23 r m hr hm  Q   k_ p1 0 M36 h
def w_X4_run_145 (r m : Nat) (Q : Int32 → Mem → Prop) (B36 : Int32 → Int32 → Int32 → Mem → Prop) (l3 : Int32) (l4 : Int32) (l5 : Int32) (l6 : Int32) (M : Mem) : Prop := (M 42 4 = nI r) ∧ (((((M r 1) - l4) ≤ l3) → (∀ x24 : Int32, x24 = l5 + 1 → B36 l3 l4 x24 M)) ∧ (¬ (((M r 1) - l4) ≤ l3) → (Q ((-10) - l5) M)))
theorem t_X4_run_145 (r m : Nat) (hr : RW r) (hm : MU m) (Q : Int32 → Mem → Prop) (B36 : Int32 → Int32 → Int32 → Mem → Prop) (hB36 : ∀ (l3 : Int32) (l4 : Int32) (l5 : Int32) (M : Mem), B36 l3 l4 l5 M → Ex true mX4_run 78 78 0 0 36 [.ref 42, .ref m, .ref r, .int l3, .int l4, .int l5, .null] [] M Q) (l3 : Int32) (l4 : Int32) (l5 : Int32) (l6 : Int32) (M : Mem) (h : w_X4_run_145 r m Q B36 l3 l4 l5 l6 M) : Ex true mX4_run 78 78 0 0 145 [.ref 42, .ref m, .ref r, .int l3, .int l4, .int l5, .int l6] [] M Q := by
  unfold w_X4_run_145 at h
  refine ex_aload_n dX4_run_145 rfl ?_
  obtain ⟨g23, h⟩ := h
  refine ex_getD (ci := 4) (j := 4) (v := r) dX4_run_146 (by decide) rfl rfl lk_X4_34 rfl g23 (rw_100 hr) ?_
  refine ex_getI (ci := 2) (j := 1) dX4_run_149 (rw_l hr 0 (by decide)) (rw_S0 hr) rfl lk_X4_38 ?_
  refine ex_iload dX4_run_152 rfl ?_
  refine ex_isub dX4_run_154 ?_
  refine ex_iload_n dX4_run_155 rfl ?_
  refine ex_icmp_le (tgt := 165) dX4_run_156 (by decide) (fun c_156 => ?_) (fun c_156 => ?_)
  · replace h := h.1 c_156
    refine ex_iinc (v := l5 + 1) (L2 := [.ref 42, .ref m, .ref r, .int l3, .int l4, .int (l5 + 1), .int l6]) dX4_run_165 rfl rfl (by decide) rfl rfl ?_
    obtain ⟨x24, ex24⟩ : ∃ x24 : Int32, x24 = l5 + 1 := ⟨_, rfl⟩
    rw [← ex24]
    replace h := h x24 ex24
    refine ex_goto (tgt := 36) dX4_run_168 (by decide) ?_
    refine ex_less (L2 := [.ref 42, .ref m, .ref r, .int l3, .int l4, .int x24, .null]) ?_ (by intro i v hi hn; match i, hi with | 0, hi => exact hi | 1, hi => exact hi | 2, hi => exact hi | 3, hi => exact hi | 4, hi => exact hi | 5, hi => exact hi | 6, hi => (cases hi; cases hn) | k + 7, hi => (exact absurd hi (by simp)))
    exact hB36 l3 l4 x24 M h
  · replace h := h.2 c_156
    refine ex_bipush (v := (-10)) dX4_run_159 (by decide) ?_
    refine ex_iload dX4_run_161 rfl ?_
    refine ex_isub dX4_run_163 ?_
    exact ex_iret dX4_run_164 rfl rfl rfl h
def w_X4_run_70 (r m : Nat) (Q : Int32 → Mem → Prop) (B36 : Int32 → Int32 → Int32 → Mem → Prop) (l3 : Int32) (l4 : Int32) (l5 : Int32) (l6 : Int32) (M : Mem) : Prop := (M 42 5 = nI m) ∧ (w_X1_enterBar 43 m l5 M (fun v19 M20 => w_X4_putBar r m l5 M20 (fun v21 M22 => ((l5 ≤ 0) → (w_X4_run_145 r m Q B36 l3 l4 l5 l6 M22)) ∧ (¬ (l5 ≤ 0) → ((M22 42 4 = nI r) ∧ (((((M22 r 1) - l4) ≤ l3) → (w_X4_run_145 r m Q B36 l3 l4 l5 l6 M22)) ∧ (¬ (((M22 r 1) - l4) ≤ l3) → ((M22 42 4 = nI r) ∧ (∀ M27 : Mem, M27 = (mset M22 r 1 l6) → ∀ x28 : Int32, x28 = (l6 + 1) → (M27 42 4 = nI r) ∧ (w_X2_put r 64 M27 (fun v30 M31 => w_X1_forget 43 M31 (fun v32 M33 => w_X4_putBar r m l5 M33 (fun v34 M35 => w_X4_run_145 r m Q B36 l3 x28 l5 l6 M35)))))))))))))
theorem t_X4_run_70 (r m : Nat) (hr : RW r) (hm : MU m) (Q : Int32 → Mem → Prop) (B36 : Int32 → Int32 → Int32 → Mem → Prop) (hB36 : ∀ (l3 : Int32) (l4 : Int32) (l5 : Int32) (M : Mem), B36 l3 l4 l5 M → Ex true mX4_run 78 78 0 0 36 [.ref 42, .ref m, .ref r, .int l3, .int l4, .int l5, .null] [] M Q) (l3 : Int32) (l4 : Int32) (l5 : Int32) (l6 : Int32) (M : Mem) (h : w_X4_run_70 r m Q B36 l3 l4 l5 l6 M) : Ex true mX4_run 78 78 0 0 70 [.ref 42, .ref m, .ref r, .int l3, .int l4, .int l5, .int l6] [] M Q := by
  unfold w_X4_run_70 at h
  refine ex_aload_n dX4_run_70 rfl ?_
  refine ex_getR (ci := 4) (j := 1) (v := 43) dX4_run_71 (by decide) rfl rfl lk_X4_12 rfl (by decide) ?_
  refine ex_aload_n dX4_run_74 rfl ?_
  obtain ⟨g18, h⟩ := h
  refine ex_getD (ci := 4) (j := 5) (v := m) dX4_run_75 (by decide) rfl rfl lk_X4_30 rfl g18 (mu_100 hm) ?_
  refine ex_iload dX4_run_78 rfl ?_
  refine ex_invV (k := 43) (ci := 1) (as := [.ref m, .int l5]) (L2 := [.ref 43, .ref m, .int l5, .null]) (st := []) 0 0 dX4_run_80 lk_X4_62 sl_X1_enterBar (rmK_of rfl) (by decide) rfl ⟨by decide, rfl⟩ rfl (Nat.le_of_ble_eq_true rfl) (Nat.le_of_ble_eq_true rfl) (t_X1_enterBar 43 m (Or.inr rfl) hm l5 M _ h) (fun v19 M20 h => ?_)
  show Ex true mX4_run 78 78 0 0 83 [.ref 42, .ref m, .ref r, .int l3, .int l4, .int l5, .int l6] [] M20 Q
  refine ex_aload_n dX4_run_83 rfl ?_
  refine ex_iload dX4_run_84 rfl ?_
  refine ex_invV (k := 42) (ci := 4) (as := [.int l5]) (L2 := [.ref 42, .int l5, .null, .null, .null, .null]) (st := []) 0 0 dX4_run_86 lk_X4_66 sl_X4_putBar (rmK_of rfl) (by decide) rfl ⟨by decide, rfl⟩ rfl (Nat.le_of_ble_eq_true rfl) (Nat.le_of_ble_eq_true rfl) (t_X4_putBar r m hr hm l5 M20 _ h) (fun v21 M22 h => ?_)
  show Ex true mX4_run 78 78 0 0 89 [.ref 42, .ref m, .ref r, .int l3, .int l4, .int l5, .int l6] [] M22 Q
  refine ex_iload dX4_run_89 rfl ?_
  refine ex_if_le (tgt := 145) dX4_run_91 (by decide) (fun c_91 => ?_) (fun c_91 => ?_)
  · replace h := h.1 c_91
    exact t_X4_run_145 r m hr hm  Q B36 hB36 l3 l4 l5 l6 M22 h
  · replace h := h.2 c_91
    refine ex_aload_n dX4_run_94 rfl ?_
    obtain ⟨g25, h⟩ := h
    refine ex_getD (ci := 4) (j := 4) (v := r) dX4_run_95 (by decide) rfl rfl lk_X4_34 rfl g25 (rw_100 hr) ?_
    refine ex_getI (ci := 2) (j := 1) dX4_run_98 (rw_l hr 0 (by decide)) (rw_S0 hr) rfl lk_X4_38 ?_
    refine ex_iload dX4_run_101 rfl ?_
    refine ex_isub dX4_run_103 ?_
    refine ex_iload_n dX4_run_104 rfl ?_
    refine ex_icmp_le (tgt := 145) dX4_run_105 (by decide) (fun c_105 => ?_) (fun c_105 => ?_)
    · replace h := h.1 c_105
      exact t_X4_run_145 r m hr hm  Q B36 hB36 l3 l4 l5 l6 M22 h
    · replace h := h.2 c_105
      refine ex_aload_n dX4_run_108 rfl ?_
      obtain ⟨g26, h⟩ := h
      refine ex_getD (ci := 4) (j := 4) (v := r) dX4_run_109 (by decide) rfl rfl lk_X4_34 rfl g26 (rw_100 hr) ?_
      refine ex_iload dX4_run_112 rfl ?_
      refine ex_putI (ci := 2) (j := 1) dX4_run_114 (rw_l hr 0 (by decide)) (rw_S0 hr) rfl lk_X4_38 ⟨rfl, rfl⟩ ?_
      refine ex_nmM (fun M27 eM27 => ?_)
      replace h := h M27 eM27
      refine ex_iload dX4_run_117 rfl ?_
      refine ex_iconst (v := 1) dX4_run_119 (by decide) ?_
      refine ex_iadd dX4_run_120 ?_
      refine ex_top (fun x28 ex28 => ?_)
      replace h := h x28 ex28
      refine ex_istore (L2 := [.ref 42, .ref m, .ref r, .int l3, .int x28, .int l5, .int l6]) dX4_run_121 (by decide) rfl rfl ?_
      refine ex_aload_n dX4_run_123 rfl ?_
      obtain ⟨g29, h⟩ := h
      refine ex_getD (ci := 4) (j := 4) (v := r) dX4_run_124 (by decide) rfl rfl lk_X4_34 rfl g29 (rw_100 hr) ?_
      refine ex_bipush (v := 64) dX4_run_127 (by decide) ?_
      refine ex_invV (k := r) (ci := 2) (as := [.int 64]) (L2 := [.ref r, .int 64]) (st := []) 0 0 dX4_run_129 lk_X4_58 sl_X2_put (rmK_of rfl) (rw_l hr 0 (by decide)) (rw_S0 hr) ⟨by decide, rfl⟩ rfl (Nat.le_of_ble_eq_true rfl) (Nat.le_of_ble_eq_true rfl) (t_X2_put r hr 64 M27 _ h) (fun v30 M31 h => ?_)
      show Ex true mX4_run 78 78 0 0 132 [.ref 42, .ref m, .ref r, .int l3, .int x28, .int l5, .int l6] [] M31 Q
      refine ex_aload_n dX4_run_132 rfl ?_
      refine ex_getR (ci := 4) (j := 1) (v := 43) dX4_run_133 (by decide) rfl rfl lk_X4_12 rfl (by decide) ?_
      refine ex_invV (k := 43) (ci := 1) (as := []) (L2 := [.ref 43]) (st := []) 0 0 dX4_run_136 lk_X4_69 sl_X1_forget (rmK_of rfl) (by decide) rfl ⟨by decide, rfl⟩ rfl (Nat.le_of_ble_eq_true rfl) (Nat.le_of_ble_eq_true rfl) (t_X1_forget 43 (Or.inr rfl) M31 _ h) (fun v32 M33 h => ?_)
      show Ex true mX4_run 78 78 0 0 139 [.ref 42, .ref m, .ref r, .int l3, .int x28, .int l5, .int l6] [] M33 Q
      refine ex_aload_n dX4_run_139 rfl ?_
      refine ex_iload dX4_run_140 rfl ?_
      refine ex_invV (k := 42) (ci := 4) (as := [.int l5]) (L2 := [.ref 42, .int l5, .null, .null, .null, .null]) (st := []) 0 0 dX4_run_142 lk_X4_66 sl_X4_putBar (rmK_of rfl) (by decide) rfl ⟨by decide, rfl⟩ rfl (Nat.le_of_ble_eq_true rfl) (Nat.le_of_ble_eq_true rfl) (t_X4_putBar r m hr hm l5 M33 _ h) (fun v34 M35 h => ?_)
      show Ex true mX4_run 78 78 0 0 145 [.ref 42, .ref m, .ref r, .int l3, .int x28, .int l5, .int l6] [] M35 Q
      exact t_X4_run_145 r m hr hm  Q B36 hB36 l3 x28 l5 l6 M35 h
def wb_X4_run_36 (r m : Nat) (Q : Int32 → Mem → Prop) (B36 : Int32 → Int32 → Int32 → Mem → Prop) (l3 : Int32) (l4 : Int32) (l5 : Int32) (M : Mem) : Prop := (M 42 5 = nI m) ∧ ((((M m 2) ≤ l5) → ((M 42 4 = nI r) ∧ (((((M r 1) ≤ 4000) → ((M 42 4 = nI r) ∧ (True))) ∧ (¬ ((M r 1) ≤ 4000) → (True))) ∧ (∀ z14 : Int32, z14 = (if (M r 1) ≤ 4000 then (M r 1) else (-4)) → Q z14 M)))) ∧ (¬ ((M m 2) ≤ l5) → ((M 42 4 = nI r) ∧ (∀ x17 : Int32, x17 = (M r 1) → ((l5 ≤ 0) → (w_X4_run_70 r m Q B36 l3 l4 l5 x17 M)) ∧ (¬ (l5 ≤ 0) → ((M 42 4 = nI r) ∧ (w_X2_put r 0 M (fun v37 M38 => w_X4_run_70 r m Q B36 l3 l4 l5 x17 M38))))))))
def w_X4_run_36 (r m : Nat) (Q : Int32 → Mem → Prop) : Nat → Int32 → Int32 → Int32 → Mem → Prop
  | 0 => fun _ _ _ _ => False
  | k + 1 => wb_X4_run_36 r m Q  (w_X4_run_36 r m Q  k)
theorem t_X4_run_36 (r m : Nat) (hr : RW r) (hm : MU m) (Q : Int32 → Mem → Prop) : ∀ (k : Nat) (l3 : Int32) (l4 : Int32) (l5 : Int32) (M : Mem), w_X4_run_36 r m Q  k l3 l4 l5 M → Ex true mX4_run 78 78 0 0 36 [.ref 42, .ref m, .ref r, .int l3, .int l4, .int l5, .null] [] M Q := by
  intro k
  induction k with
  | zero => intro l3 l4 l5 M h; exact False.elim h
  | succ k hB36 =>
    intro l3 l4 l5 M h
    replace h : wb_X4_run_36 r m Q  (w_X4_run_36 r m Q  k) l3 l4 l5 M := h
    generalize w_X4_run_36 r m Q  k = B36 at hB36 h
    unfold wb_X4_run_36 at h
    refine ex_iload dX4_run_36 rfl ?_
    refine ex_aload_n dX4_run_38 rfl ?_
    obtain ⟨g11, h⟩ := h
    refine ex_getD (ci := 4) (j := 5) (v := m) dX4_run_39 (by decide) rfl rfl lk_X4_30 rfl g11 (mu_100 hm) ?_
    refine ex_getI (ci := 0) (j := 2) dX4_run_42 (mu_l hm 0 (by decide)) (mu_S0 hm) rfl lk_X4_53 ?_
    refine ex_icmp_ge (tgt := 171) dX4_run_45 (by decide) (fun c_45 => ?_) (fun c_45 => ?_)
    · replace h := h.1 c_45
      refine ex_aload_n dX4_run_171 rfl ?_
      obtain ⟨g12, h⟩ := h
      refine ex_getD (ci := 4) (j := 4) (v := r) dX4_run_172 (by decide) rfl rfl lk_X4_34 rfl g12 (rw_100 hr) ?_
      refine ex_getI (ci := 2) (j := 1) dX4_run_175 (rw_l hr 0 (by decide)) (rw_S0 hr) rfl lk_X4_38 ?_
      refine ex_sipush (v := 4000) dX4_run_178 (by decide) ?_
      obtain ⟨khJ15, h⟩ := h
      have hJ15 : ∀ z14 : Int32, z14 = (if (M r 1) ≤ 4000 then (M r 1) else (-4)) → Ex true mX4_run 78 78 0 0 196 [.ref 42, .ref m, .ref r, .int l3, .int l4, .int l5, .null] [.int z14] M Q := by
        intro z14 ez14
        replace h := h z14 ez14
        exact ex_iret dX4_run_196 rfl rfl rfl h
      refine ex_icmp_le (tgt := 189) dX4_run_181 (by decide) (fun c_181 => ?_) (fun c_181 => ?_)
      · replace h := khJ15.1 c_181
        refine ex_aload_n dX4_run_189 rfl ?_
        obtain ⟨g13, h⟩ := h
        refine ex_getD (ci := 4) (j := 4) (v := r) dX4_run_190 (by decide) rfl rfl lk_X4_34 rfl g13 (rw_100 hr) ?_
        refine ex_getI (ci := 2) (j := 1) dX4_run_193 (rw_l hr 0 (by decide)) (rw_S0 hr) rfl lk_X4_38 ?_
        exact hJ15 _ (by rw [if_pos c_181])
      · replace h := khJ15.2 c_181
        refine ex_bipush (v := (-4)) dX4_run_184 (by decide) ?_
        refine ex_goto (tgt := 196) dX4_run_186 (by decide) ?_
        exact hJ15 _ (by rw [if_neg c_181])
    · replace h := h.2 c_45
      refine ex_aload_n dX4_run_48 rfl ?_
      obtain ⟨g16, h⟩ := h
      refine ex_getD (ci := 4) (j := 4) (v := r) dX4_run_49 (by decide) rfl rfl lk_X4_34 rfl g16 (rw_100 hr) ?_
      refine ex_getI (ci := 2) (j := 1) dX4_run_52 (rw_l hr 0 (by decide)) (rw_S0 hr) rfl lk_X4_38 ?_
      refine ex_top (fun x17 ex17 => ?_)
      replace h := h x17 ex17
      refine ex_istore (L2 := [.ref 42, .ref m, .ref r, .int l3, .int l4, .int l5, .int x17]) dX4_run_55 (by decide) rfl rfl ?_
      refine ex_iload dX4_run_57 rfl ?_
      refine ex_if_le (tgt := 70) dX4_run_59 (by decide) (fun c_59 => ?_) (fun c_59 => ?_)
      · replace h := h.1 c_59
        exact t_X4_run_70 r m hr hm  Q B36 hB36 l3 l4 l5 x17 M h
      · replace h := h.2 c_59
        refine ex_aload_n dX4_run_62 rfl ?_
        obtain ⟨g36, h⟩ := h
        refine ex_getD (ci := 4) (j := 4) (v := r) dX4_run_63 (by decide) rfl rfl lk_X4_34 rfl g36 (rw_100 hr) ?_
        refine ex_iconst (v := 0) dX4_run_66 (by decide) ?_
        refine ex_invV (k := r) (ci := 2) (as := [.int 0]) (L2 := [.ref r, .int 0]) (st := []) 0 0 dX4_run_67 lk_X4_58 sl_X2_put (rmK_of rfl) (rw_l hr 0 (by decide)) (rw_S0 hr) ⟨by decide, rfl⟩ rfl (Nat.le_of_ble_eq_true rfl) (Nat.le_of_ble_eq_true rfl) (t_X2_put r hr 0 M _ h) (fun v37 M38 h => ?_)
        show Ex true mX4_run 78 78 0 0 70 [.ref 42, .ref m, .ref r, .int l3, .int l4, .int l5, .int x17] [] M38 Q
        exact t_X4_run_70 r m hr hm  Q B36 hB36 l3 l4 l5 x17 M38 h
def w_X4_run (r m : Nat) (p3 : Int32) (M : Mem) (Q : Int32 → Mem → Prop) : Prop := ∀ M1 : Mem, M1 = (mset M 42 5 (nI m)) → ∀ M2 : Mem, M2 = (mset M1 42 4 (nI r)) → (M2 42 4 = nI r) ∧ (∀ M4 : Mem, M4 = (mset M2 r 1 0) → w_X4_markSlurs r m M4 (fun v5 M6 => w_X4_markSigns r m M6 (fun v7 M8 => w_X4_putHand r m M8 (fun v9 M10 => ∃ k, w_X4_run_36 r m Q  k p3 0 0 M10))))
theorem t_X4_run (r m : Nat) (hr : RW r) (hm : MU m) (p3 : Int32) (M : Mem) (Q : Int32 → Mem → Prop) (h : w_X4_run r m p3 M Q) : Ex true mX4_run 78 78 0 0 0 [.ref 42, .ref m, .ref r, .int p3, .null, .null, .null] [] M Q := by
  unfold w_X4_run at h
  refine ex_aload_n dX4_run_0 rfl ?_
  refine ex_aload_n dX4_run_1 rfl ?_
  refine ex_putD (ci := 4) (j := 5) (v := m) dX4_run_2 (by decide) rfl rfl lk_X4_30 (Or.inl rfl) rfl (mu_78 hm) (mu_100 hm) (fun _ => ⟨rfl, rfl⟩) ?_
  refine ex_nmM (fun M1 eM1 => ?_)
  replace h := h M1 eM1
  refine ex_aload_n dX4_run_5 rfl ?_
  refine ex_aload_n dX4_run_6 rfl ?_
  refine ex_putD (ci := 4) (j := 4) (v := r) dX4_run_7 (by decide) rfl rfl lk_X4_34 (Or.inl rfl) rfl (rw_78 hr) (rw_100 hr) (fun _ => ⟨rfl, rfl⟩) ?_
  refine ex_nmM (fun M2 eM2 => ?_)
  replace h := h M2 eM2
  refine ex_aload_n dX4_run_10 rfl ?_
  obtain ⟨g3, h⟩ := h
  refine ex_getD (ci := 4) (j := 4) (v := r) dX4_run_11 (by decide) rfl rfl lk_X4_34 rfl g3 (rw_100 hr) ?_
  refine ex_iconst (v := 0) dX4_run_14 (by decide) ?_
  refine ex_putI (ci := 2) (j := 1) dX4_run_15 (rw_l hr 0 (by decide)) (rw_S0 hr) rfl lk_X4_38 ⟨rfl, rfl⟩ ?_
  refine ex_nmM (fun M4 eM4 => ?_)
  replace h := h M4 eM4
  refine ex_aload_n dX4_run_18 rfl ?_
  refine ex_invV (k := 42) (ci := 4) (as := []) (L2 := [.ref 42, .null, .null]) (st := []) 0 0 dX4_run_19 lk_X4_44 sl_X4_markSlurs (rmK_of rfl) (by decide) rfl ⟨by decide, rfl⟩ rfl (Nat.le_of_ble_eq_true rfl) (Nat.le_of_ble_eq_true rfl) (t_X4_markSlurs r m hr hm M4 _ h) (fun v5 M6 h => ?_)
  show Ex true mX4_run 78 78 0 0 22 [.ref 42, .ref m, .ref r, .int p3, .null, .null, .null] [] M6 Q
  refine ex_aload_n dX4_run_22 rfl ?_
  refine ex_invV (k := 42) (ci := 4) (as := []) (L2 := [.ref 42, .null, .null, .null]) (st := []) 0 0 dX4_run_23 lk_X4_47 sl_X4_markSigns (rmK_of rfl) (by decide) rfl ⟨by decide, rfl⟩ rfl (Nat.le_of_ble_eq_true rfl) (Nat.le_of_ble_eq_true rfl) (t_X4_markSigns r m hr hm M6 _ h) (fun v7 M8 h => ?_)
  show Ex true mX4_run 78 78 0 0 26 [.ref 42, .ref m, .ref r, .int p3, .null, .null, .null] [] M8 Q
  refine ex_aload_n dX4_run_26 rfl ?_
  refine ex_invV (k := 42) (ci := 4) (as := []) (L2 := [.ref 42]) (st := []) 0 0 dX4_run_27 lk_X4_50 sl_X4_putHand (rmK_of rfl) (by decide) rfl ⟨by decide, rfl⟩ rfl (Nat.le_of_ble_eq_true rfl) (Nat.le_of_ble_eq_true rfl) (t_X4_putHand r m hr hm M8 _ h) (fun v9 M10 h => ?_)
  show Ex true mX4_run 78 78 0 0 30 [.ref 42, .ref m, .ref r, .int p3, .null, .null, .null] [] M10 Q
  refine ex_iconst (v := 0) dX4_run_30 (by decide) ?_
  refine ex_istore (L2 := [.ref 42, .ref m, .ref r, .int p3, .int 0, .null, .null]) dX4_run_31 (by decide) rfl rfl ?_
  refine ex_iconst (v := 0) dX4_run_33 (by decide) ?_
  refine ex_istore (L2 := [.ref 42, .ref m, .ref r, .int p3, .int 0, .int 0, .null]) dX4_run_34 (by decide) rfl rfl ?_
  obtain ⟨k_, h⟩ := h
  exact t_X4_run_36 r m hr hm  Q   k_ p3 0 0 M10 h
