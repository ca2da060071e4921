def w_X6_clear (r m : Nat) (M : Mem) (Q : Int32 → Mem → Prop) : Prop := (M 0 0 = nI r) ∧ (∀ M2 : Mem, M2 = (mset M r 1 0) → (M2 0 2 = nI m) ∧ (w_X0_empty m 512 M2 (fun v4 M5 => Q 0 M5)))
theorem t_X6_clear (r m : Nat) (hr : RW r) (hm : MU m) (M : Mem) (Q : Int32 → Mem → Prop) (h : w_X6_clear r m  M Q) : Ex true mX6_clear 78 78 0 0 0 [.ref 0] [] M Q := by
  unfold w_X6_clear at h
  refine ex_aload_n dX6_clear_0 rfl ?_
  obtain ⟨g1, h⟩ := h
  refine ex_getD (ci := 6) (j := 0) (v := r) dX6_clear_1 (by decide) rfl rfl lk_X6_10 rfl g1 (rw_100 hr) ?_
  refine ex_iconst (v := 0) dX6_clear_4 (by decide) ?_
  refine ex_putI (ci := 2) (j := 1) dX6_clear_5 (rw_l hr 0 (by decide)) (rw_S0 hr) rfl lk_X6_52 ⟨rfl, rfl⟩ ?_
  refine ex_nmM (fun M2 eM2 => ?_)
  replace h := h M2 eM2
  refine ex_aload_n dX6_clear_8 rfl ?_
  obtain ⟨g3, h⟩ := h
  refine ex_getD (ci := 6) (j := 2) (v := m) dX6_clear_9 (by decide) rfl rfl lk_X6_22 rfl g3 (mu_100 hm) ?_
  refine ex_sipush (v := 512) dX6_clear_12 (by decide) ?_
  refine ex_invV (k := m) (ci := 0) (as := [.int 512]) (L2 := [.ref m, .int 512]) (st := []) 0 0 dX6_clear_15 lk_X6_56 sl_X0_empty (rmK_of rfl) (mu_l hm 0 (by decide)) (mu_S0 hm) ⟨by decide, rfl⟩ rfl (Nat.le_of_ble_eq_true rfl) (Nat.le_of_ble_eq_true rfl) (t_X0_empty m hm 512 M2 _ h) (fun v4 M5 h => ?_)
  show Ex true mX6_clear 78 78 0 0 18 [.ref 0] [] M5 Q
  exact ex_vret dX6_clear_18 rfl rfl h
def w_X6_cell (r : Nat) (p1 : Int32) (M : Mem) (Q : Int32 → Mem → Prop) : Prop := ((p1 < 0) → (Q (-2) M)) ∧ (¬ (p1 < 0) → (((p1 ≤ 64) → ((M 0 0 = nI r) ∧ ((((M r 1) < 4000) → ((M 0 0 = nI r) ∧ (w_X2_put r p1 M (fun v3 M4 => (M4 0 0 = nI r) ∧ (Q (M4 r 1) M4))))) ∧ (¬ ((M r 1) < 4000) → (Q (-4) M))))) ∧ (¬ (p1 ≤ 64) → (Q (-2) M))))
theorem t_X6_cell (r : Nat) (hr : RW r) (p1 : Int32) (M : Mem) (Q : Int32 → Mem → Prop) (h : w_X6_cell r p1 M Q) : Ex true mX6_cell 78 78 0 0 0 [.ref 0, .int p1] [] M Q := by
  unfold w_X6_cell at h
  refine ex_iload_n dX6_cell_0 rfl ?_
  refine ex_if_lt (tgt := 10) dX6_cell_1 (by decide) (fun c_1 => ?_) (fun c_1 => ?_)
  · replace h := h.1 c_1
    refine ex_bipush (v := (-2)) dX6_cell_10 (by decide) ?_
    exact ex_iret dX6_cell_12 rfl rfl rfl h
  · replace h := h.2 c_1
    refine ex_iload_n dX6_cell_4 rfl ?_
    refine ex_bipush (v := 64) dX6_cell_5 (by decide) ?_
    refine ex_icmp_le (tgt := 13) dX6_cell_7 (by decide) (fun c_7 => ?_) (fun c_7 => ?_)
    · replace h := h.1 c_7
      refine ex_aload_n dX6_cell_13 rfl ?_
      obtain ⟨g1, h⟩ := h
      refine ex_getD (ci := 6) (j := 0) (v := r) dX6_cell_14 (by decide) rfl rfl lk_X6_10 rfl g1 (rw_100 hr) ?_
      refine ex_getI (ci := 2) (j := 1) dX6_cell_17 (rw_l hr 0 (by decide)) (rw_S0 hr) rfl lk_X6_52 ?_
      refine ex_sipush (v := 4000) dX6_cell_20 (by decide) ?_
      refine ex_icmp_lt (tgt := 29) dX6_cell_23 (by decide) (fun c_23 => ?_) (fun c_23 => ?_)
      · replace h := h.1 c_23
        refine ex_aload_n dX6_cell_29 rfl ?_
        obtain ⟨g2, h⟩ := h
        refine ex_getD (ci := 6) (j := 0) (v := r) dX6_cell_30 (by decide) rfl rfl lk_X6_10 rfl g2 (rw_100 hr) ?_
        refine ex_iload_n dX6_cell_33 rfl ?_
        refine ex_invV (k := r) (ci := 2) (as := [.int p1]) (L2 := [.ref r, .int p1]) (st := []) 0 0 dX6_cell_34 lk_X6_60 sl_X2_put (rmK_of rfl) (rw_l hr 0 (by decide)) (rw_S0 hr) ⟨by decide, rfl⟩ rfl (Nat.le_of_ble_eq_true rfl) (Nat.le_of_ble_eq_true rfl) (t_X2_put r hr p1 M _ h) (fun v3 M4 h => ?_)
        show Ex true mX6_cell 78 78 0 0 37 [.ref 0, .int p1] [] M4 Q
        refine ex_aload_n dX6_cell_37 rfl ?_
        obtain ⟨g5, h⟩ := h
        refine ex_getD (ci := 6) (j := 0) (v := r) dX6_cell_38 (by decide) rfl rfl lk_X6_10 rfl g5 (rw_100 hr) ?_
        refine ex_getI (ci := 2) (j := 1) dX6_cell_41 (rw_l hr 0 (by decide)) (rw_S0 hr) rfl lk_X6_52 ?_
        exact ex_iret dX6_cell_44 rfl rfl rfl h
      · replace h := h.2 c_23
        refine ex_bipush (v := (-4)) dX6_cell_26 (by decide) ?_
        exact ex_iret dX6_cell_28 rfl rfl rfl h
    · replace h := h.2 c_7
      refine ex_bipush (v := (-2)) dX6_cell_10 (by decide) ?_
      exact ex_iret dX6_cell_12 rfl rfl rfl h
def wb_X6_more_83 (r : Nat) (Q : Int32 → Mem → Prop) (B83 : Int64 → Int32 → Int32 → Mem → Prop) (l1 : Int64) (l3 : Int32) (l4 : Int32) (M : Mem) : Prop := ((l4 < 0) → ((M 0 0 = nI r) ∧ (Q (M r 1) M))) ∧ (¬ (l4 < 0) → (w_X6_byteOf l1 l4 M (fun v3 M4 => ((v3 = 0) → (∀ x5 : Int32, x5 = l4 + (-8) → B83 l1 l3 x5 M4)) ∧ (¬ (v3 = 0) → ((M4 0 0 = nI r) ∧ (w_X2_put r (v3 - 64) M4 (fun v7 M8 => ∀ x9 : Int32, x9 = l4 + (-8) → B83 l1 l3 x9 M8)))))))
def w_X6_more_83 (r : Nat) (Q : Int32 → Mem → Prop) : Nat → Int64 → Int32 → Int32 → Mem → Prop
  | 0 => fun _ _ _ _ => False
  | k + 1 => wb_X6_more_83 r Q  (w_X6_more_83 r Q  k)
theorem t_X6_more_83 (r : Nat) (hr : RW r) (Q : Int32 → Mem → Prop) : ∀ (k : Nat) (l1 : Int64) (l3 : Int32) (l4 : Int32) (M : Mem), w_X6_more_83 r Q  k l1 l3 l4 M → Ex true mX6_more 78 78 0 0 83 [.ref 0, .long l1, .null, .int l3, .int l4, .null] [] M Q := by
  intro k
  induction k with
  | zero => intro l1 l3 l4 M h; exact False.elim h
  | succ k hB83 =>
    intro l1 l3 l4 M h
    replace h : wb_X6_more_83 r Q  (w_X6_more_83 r Q  k) l1 l3 l4 M := h
    generalize w_X6_more_83 r Q  k = B83 at hB83 h
    unfold wb_X6_more_83 at h
    refine ex_iload dX6_more_83 rfl ?_
    refine ex_if_lt (tgt := 119) dX6_more_85 (by decide) (fun c_85 => ?_) (fun c_85 => ?_)
    · replace h := h.1 c_85
      refine ex_aload_n dX6_more_119 rfl ?_
      obtain ⟨g2, h⟩ := h
      refine ex_getD (ci := 6) (j := 0) (v := r) dX6_more_120 (by decide) rfl rfl lk_X6_10 rfl g2 (rw_100 hr) ?_
      refine ex_getI (ci := 2) (j := 1) dX6_more_123 (rw_l hr 0 (by decide)) (rw_S0 hr) rfl lk_X6_52 ?_
      exact ex_iret dX6_more_126 rfl rfl rfl h
    · replace h := h.2 c_85
      refine ex_lload_n dX6_more_88 rfl ?_
      refine ex_iload dX6_more_89 rfl ?_
      refine ex_invS (as := [.long l1, .int l4]) (L2 := [.long l1, .null, .int l4]) (st := []) 0 0 dX6_more_91 lk_X6_63 sl_X6_byteOf (rmK_of rfl) rfl (Nat.le_of_ble_eq_true rfl) (Nat.le_of_ble_eq_true rfl) (t_X6_byteOf   l1 l4 M _ h) (fun v3 M4 h => ?_)
      show Ex true mX6_more 78 78 0 0 94 [.ref 0, .long l1, .null, .int l3, .int l4, .null] [.int v3] M4 Q
      refine ex_istore (L2 := [.ref 0, .long l1, .null, .int l3, .int l4, .int v3]) dX6_more_94 (by decide) rfl rfl ?_
      refine ex_iload dX6_more_96 rfl ?_
      refine ex_if_eq (tgt := 113) dX6_more_98 (by decide) (fun c_98 => ?_) (fun c_98 => ?_)
      · replace h := h.1 c_98
        refine ex_iinc (v := l4 + (-8)) (L2 := [.ref 0, .long l1, .null, .int l3, .int (l4 + (-8)), .int v3]) dX6_more_113 rfl rfl (by decide) rfl rfl ?_
        obtain ⟨x5, ex5⟩ : ∃ x5 : Int32, x5 = l4 + (-8) := ⟨_, rfl⟩
        rw [← ex5]
        replace h := h x5 ex5
        refine ex_goto (tgt := 83) dX6_more_116 (by decide) ?_
        refine ex_less (L2 := [.ref 0, .long l1, .null, .int l3, .int x5, .null]) ?_ (by intro i v hi hn; match i, hi with | 0, hi => exact hi | 1, hi => exact hi | 2, hi => exact hi | 3, hi => exact hi | 4, hi => exact hi | 5, hi => (cases hi; cases hn) | k + 6, hi => (exact absurd hi (by simp)))
        exact hB83 l1 l3 x5 M4 h
      · replace h := h.2 c_98
        refine ex_aload_n dX6_more_101 rfl ?_
        obtain ⟨g6, h⟩ := h
        refine ex_getD (ci := 6) (j := 0) (v := r) dX6_more_102 (by decide) rfl rfl lk_X6_10 rfl g6 (rw_100 hr) ?_
        refine ex_iload dX6_more_105 rfl ?_
        refine ex_bipush (v := 64) dX6_more_107 (by decide) ?_
        refine ex_isub dX6_more_109 ?_
        refine ex_invV (k := r) (ci := 2) (as := [.int (v3 - 64)]) (L2 := [.ref r, .int (v3 - 64)]) (st := []) 0 0 dX6_more_110 lk_X6_60 sl_X2_put (rmK_of rfl) (rw_l hr 0 (by decide)) (rw_S0 hr) ⟨by decide, rfl⟩ rfl (Nat.le_of_ble_eq_true rfl) (Nat.le_of_ble_eq_true rfl) (t_X2_put r hr (v3 - 64) M4 _ h) (fun v7 M8 h => ?_)
        show Ex true mX6_more 78 78 0 0 113 [.ref 0, .long l1, .null, .int l3, .int l4, .int v3] [] M8 Q
        refine ex_iinc (v := l4 + (-8)) (L2 := [.ref 0, .long l1, .null, .int l3, .int (l4 + (-8)), .int v3]) dX6_more_113 rfl rfl (by decide) rfl rfl ?_
        obtain ⟨x9, ex9⟩ : ∃ x9 : Int32, x9 = l4 + (-8) := ⟨_, rfl⟩
        rw [← ex9]
        replace h := h x9 ex9
        refine ex_goto (tgt := 83) dX6_more_116 (by decide) ?_
        refine ex_less (L2 := [.ref 0, .long l1, .null, .int l3, .int x9, .null]) ?_ (by intro i v hi hn; match i, hi with | 0, hi => exact hi | 1, hi => exact hi | 2, hi => exact hi | 3, hi => exact hi | 4, hi => exact hi | 5, hi => (cases hi; cases hn) | k + 6, hi => (exact absurd hi (by simp)))
        exact hB83 l1 l3 x9 M8 h
def w_X6_more_42 (r : Nat) (Q : Int32 → Mem → Prop) (B6 : Int64 → Int32 → Int32 → Mem → Prop) (l1 : Int64) (l3 : Int32) (l4 : Int32) (l5 : Int32) (M : Mem) : Prop := ∀ z12 : Int32, z12 = (if l5 = 0 then 0 else 1) → ∀ x13 : Int32, x13 = (l3 + z12) → ∀ x14 : Int32, x14 = l4 + (-8) → B6 l1 x13 x14 M
theorem t_X6_more_42 (r : Nat) (hr : RW r) (Q : Int32 → Mem → Prop) (B6 : Int64 → Int32 → Int32 → Mem → Prop) (hB6 : ∀ (l1 : Int64) (l3 : Int32) (l4 : Int32) (M : Mem), B6 l1 l3 l4 M → Ex true mX6_more 78 78 0 0 6 [.ref 0, .long l1, .null, .int l3, .int l4, .null] [] M Q) (l1 : Int64) (l3 : Int32) (l4 : Int32) (l5 : Int32) (M : Mem) (h : w_X6_more_42 r Q B6 l1 l3 l4 l5 M) : Ex true mX6_more 78 78 0 0 42 [.ref 0, .long l1, .null, .int l3, .int l4, .int l5] [] M Q := by
  unfold w_X6_more_42 at h
  refine ex_iload_n dX6_more_42 rfl ?_
  refine ex_iload dX6_more_43 rfl ?_
  have hJ15 : ∀ z12 : Int32, z12 = (if l5 = 0 then 0 else 1) → Ex true mX6_more 78 78 0 0 53 [.ref 0, .long l1, .null, .int l3, .int l4, .int l5] [.int z12, .int l3] M Q := by
    intro z12 ez12
    replace h := h z12 ez12
    refine ex_iadd dX6_more_53 ?_
    refine ex_top (fun x13 ex13 => ?_)
    replace h := h x13 ex13
    refine ex_istore_n (L2 := [.ref 0, .long l1, .null, .int x13, .int l4, .int l5]) dX6_more_54 (by decide) rfl rfl ?_
    refine ex_iinc (v := l4 + (-8)) (L2 := [.ref 0, .long l1, .null, .int x13, .int (l4 + (-8)), .int l5]) dX6_more_55 rfl rfl (by decide) rfl rfl ?_
    obtain ⟨x14, ex14⟩ : ∃ x14 : Int32, x14 = l4 + (-8) := ⟨_, rfl⟩
    rw [← ex14]
    replace h := h x14 ex14
    refine ex_goto (tgt := 6) dX6_more_58 (by decide) ?_
    refine ex_less (L2 := [.ref 0, .long l1, .null, .int x13, .int x14, .null]) ?_ (by intro i v hi hn; match i, hi with | 0, hi => exact hi | 1, hi => exact hi | 2, hi => exact hi | 3, hi => exact hi | 4, hi => exact hi | 5, hi => (cases hi; cases hn) | k + 6, hi => (exact absurd hi (by simp)))
    exact hB6 l1 x13 x14 M h
  refine ex_if_ne (tgt := 52) dX6_more_45 (by decide) (fun c_45 => ?_) (fun c_45 => ?_)
  ·
    refine ex_iconst (v := 1) dX6_more_52 (by decide) ?_
    exact hJ15 _ (by rw [if_neg c_45])
  ·
    refine ex_iconst (v := 0) dX6_more_48 (by decide) ?_
    refine ex_goto (tgt := 53) dX6_more_49 (by decide) ?_
    exact hJ15 _ (by rw [if_pos c_45])
def wb_X6_more_6 (r : Nat) (Q : Int32 → Mem → Prop) (B6 : Int64 → Int32 → Int32 → Mem → Prop) (l1 : Int64) (l3 : Int32) (l4 : Int32) (M : Mem) : Prop := ((l4 < 0) → ((M 0 0 = nI r) ∧ (((((M r 1) + l3) ≤ 4000) → (∃ k, w_X6_more_83 r Q  k l1 l3 56 M)) ∧ (¬ (((M r 1) + l3) ≤ 4000) → (Q (-4) M))))) ∧ (¬ (l4 < 0) → (w_X6_byteOf l1 l4 M (fun v10 M11 => ((v10 = 0) → (w_X6_more_42 r Q B6 l1 l3 l4 v10 M11)) ∧ (¬ (v10 = 0) → (((v10 < 64) → (Q (-2) M11)) ∧ (¬ (v10 < 64) → (((v10 ≤ 128) → (w_X6_more_42 r Q B6 l1 l3 l4 v10 M11)) ∧ (¬ (v10 ≤ 128) → (Q (-2) M11)))))))))
def w_X6_more_6 (r : Nat) (Q : Int32 → Mem → Prop) : Nat → Int64 → Int32 → Int32 → Mem → Prop
  | 0 => fun _ _ _ _ => False
  | k + 1 => wb_X6_more_6 r Q  (w_X6_more_6 r Q  k)
theorem t_X6_more_6 (r : Nat) (hr : RW r) (Q : Int32 → Mem → Prop) : ∀ (k : Nat) (l1 : Int64) (l3 : Int32) (l4 : Int32) (M : Mem), w_X6_more_6 r Q  k l1 l3 l4 M → Ex true mX6_more 78 78 0 0 6 [.ref 0, .long l1, .null, .int l3, .int l4, .null] [] M Q := by
  intro k
  induction k with
  | zero => intro l1 l3 l4 M h; exact False.elim h
  | succ k hB6 =>
    intro l1 l3 l4 M h
    replace h : wb_X6_more_6 r Q  (w_X6_more_6 r Q  k) l1 l3 l4 M := h
    generalize w_X6_more_6 r Q  k = B6 at hB6 h
    unfold wb_X6_more_6 at h
    refine ex_iload dX6_more_6 rfl ?_
    refine ex_if_lt (tgt := 61) dX6_more_8 (by decide) (fun c_8 => ?_) (fun c_8 => ?_)
    · replace h := h.1 c_8
      refine ex_aload_n dX6_more_61 rfl ?_
      obtain ⟨g1, h⟩ := h
      refine ex_getD (ci := 6) (j := 0) (v := r) dX6_more_62 (by decide) rfl rfl lk_X6_10 rfl g1 (rw_100 hr) ?_
      refine ex_getI (ci := 2) (j := 1) dX6_more_65 (rw_l hr 0 (by decide)) (rw_S0 hr) rfl lk_X6_52 ?_
      refine ex_iload_n dX6_more_68 rfl ?_
      refine ex_iadd dX6_more_69 ?_
      refine ex_sipush (v := 4000) dX6_more_70 (by decide) ?_
      refine ex_icmp_le (tgt := 79) dX6_more_73 (by decide) (fun c_73 => ?_) (fun c_73 => ?_)
      · replace h := h.1 c_73
        refine ex_bipush (v := 56) dX6_more_79 (by decide) ?_
        refine ex_istore (L2 := [.ref 0, .long l1, .null, .int l3, .int 56, .null]) dX6_more_81 (by decide) rfl rfl ?_
        obtain ⟨k_, h⟩ := h
        exact t_X6_more_83 r hr  Q   k_ l1 l3 56 M h
      · replace h := h.2 c_73
        refine ex_bipush (v := (-4)) dX6_more_76 (by decide) ?_
        exact ex_iret dX6_more_78 rfl rfl rfl h
    · replace h := h.2 c_8
      refine ex_lload_n dX6_more_11 rfl ?_
      refine ex_iload dX6_more_12 rfl ?_
      refine ex_invS (as := [.long l1, .int l4]) (L2 := [.long l1, .null, .int l4]) (st := []) 0 0 dX6_more_14 lk_X6_63 sl_X6_byteOf (rmK_of rfl) rfl (Nat.le_of_ble_eq_true rfl) (Nat.le_of_ble_eq_true rfl) (t_X6_byteOf   l1 l4 M _ h) (fun v10 M11 h => ?_)
      show Ex true mX6_more 78 78 0 0 17 [.ref 0, .long l1, .null, .int l3, .int l4, .null] [.int v10] M11 Q
      refine ex_istore (L2 := [.ref 0, .long l1, .null, .int l3, .int l4, .int v10]) dX6_more_17 (by decide) rfl rfl ?_
      refine ex_iload dX6_more_19 rfl ?_
      refine ex_if_eq (tgt := 42) dX6_more_21 (by decide) (fun c_21 => ?_) (fun c_21 => ?_)
      · replace h := h.1 c_21
        exact t_X6_more_42 r hr  Q B6 hB6 l1 l3 l4 v10 M11 h
      · replace h := h.2 c_21
        refine ex_iload dX6_more_24 rfl ?_
        refine ex_bipush (v := 64) dX6_more_26 (by decide) ?_
        refine ex_icmp_lt (tgt := 39) dX6_more_28 (by decide) (fun c_28 => ?_) (fun c_28 => ?_)
        · replace h := h.1 c_28
          refine ex_bipush (v := (-2)) dX6_more_39 (by decide) ?_
          exact ex_iret dX6_more_41 rfl rfl rfl h
        · replace h := h.2 c_28
          refine ex_iload dX6_more_31 rfl ?_
          refine ex_sipush (v := 128) dX6_more_33 (by decide) ?_
          refine ex_icmp_le (tgt := 42) dX6_more_36 (by decide) (fun c_36 => ?_) (fun c_36 => ?_)
          · replace h := h.1 c_36
            exact t_X6_more_42 r hr  Q B6 hB6 l1 l3 l4 v10 M11 h
          · replace h := h.2 c_36
            refine ex_bipush (v := (-2)) dX6_more_39 (by decide) ?_
            exact ex_iret dX6_more_41 rfl rfl rfl h
def w_X6_more (r : Nat) (p1 : Int64) (M : Mem) (Q : Int32 → Mem → Prop) : Prop := ∃ k, w_X6_more_6 r Q  k p1 0 56 M
theorem t_X6_more (r : Nat) (hr : RW r) (p1 : Int64) (M : Mem) (Q : Int32 → Mem → Prop) (h : w_X6_more r p1 M Q) : Ex true mX6_more 78 78 0 0 0 [.ref 0, .long p1, .null, .null, .null, .null] [] M Q := by
  unfold w_X6_more at h
  refine ex_iconst (v := 0) dX6_more_0 (by decide) ?_
  refine ex_istore_n (L2 := [.ref 0, .long p1, .null, .int 0, .null, .null]) dX6_more_1 (by decide) rfl rfl ?_
  refine ex_bipush (v := 56) dX6_more_2 (by decide) ?_
  refine ex_istore (L2 := [.ref 0, .long p1, .null, .int 0, .int 56, .null]) dX6_more_4 (by decide) rfl rfl ?_
  obtain ⟨k_, h⟩ := h
  exact t_X6_more_6 r hr  Q   k_ p1 0 56 M h
def w_X6_cut (r : Nat) (p1 : Int32) (M : Mem) (Q : Int32 → Mem → Prop) : Prop := ((p1 < 0) → (Q (-2) M)) ∧ (¬ (p1 < 0) → ((M 0 0 = nI r) ∧ (((p1 ≤ (M r 1)) → ((M 0 0 = nI r) ∧ (∀ x3 : Int32, x3 = ((M r 1) - p1) → (M 0 0 = nI r) ∧ (∀ M5 : Mem, M5 = (mset M r 1 p1) → Q x3 M5)))) ∧ (¬ (p1 ≤ (M r 1)) → (Q (-2) M)))))
theorem t_X6_cut (r : Nat) (hr : RW r) (p1 : Int32) (M : Mem) (Q : Int32 → Mem → Prop) (h : w_X6_cut r p1 M Q) : Ex true mX6_cut 78 78 0 0 0 [.ref 0, .int p1, .null] [] M Q := by
  unfold w_X6_cut at h
  refine ex_iload_n dX6_cut_0 rfl ?_
  refine ex_if_lt (tgt := 15) dX6_cut_1 (by decide) (fun c_1 => ?_) (fun c_1 => ?_)
  · replace h := h.1 c_1
    refine ex_bipush (v := (-2)) dX6_cut_15 (by decide) ?_
    exact ex_iret dX6_cut_17 rfl rfl rfl h
  · replace h := h.2 c_1
    refine ex_iload_n dX6_cut_4 rfl ?_
    refine ex_aload_n dX6_cut_5 rfl ?_
    obtain ⟨g1, h⟩ := h
    refine ex_getD (ci := 6) (j := 0) (v := r) dX6_cut_6 (by decide) rfl rfl lk_X6_10 rfl g1 (rw_100 hr) ?_
    refine ex_getI (ci := 2) (j := 1) dX6_cut_9 (rw_l hr 0 (by decide)) (rw_S0 hr) rfl lk_X6_52 ?_
    refine ex_icmp_le (tgt := 18) dX6_cut_12 (by decide) (fun c_12 => ?_) (fun c_12 => ?_)
    · replace h := h.1 c_12
      refine ex_aload_n dX6_cut_18 rfl ?_
      obtain ⟨g2, h⟩ := h
      refine ex_getD (ci := 6) (j := 0) (v := r) dX6_cut_19 (by decide) rfl rfl lk_X6_10 rfl g2 (rw_100 hr) ?_
      refine ex_getI (ci := 2) (j := 1) dX6_cut_22 (rw_l hr 0 (by decide)) (rw_S0 hr) rfl lk_X6_52 ?_
      refine ex_iload_n dX6_cut_25 rfl ?_
      refine ex_isub dX6_cut_26 ?_
      refine ex_top (fun x3 ex3 => ?_)
      replace h := h x3 ex3
      refine ex_istore_n (L2 := [.ref 0, .int p1, .int x3]) dX6_cut_27 (by decide) rfl rfl ?_
      refine ex_aload_n dX6_cut_28 rfl ?_
      obtain ⟨g4, h⟩ := h
      refine ex_getD (ci := 6) (j := 0) (v := r) dX6_cut_29 (by decide) rfl rfl lk_X6_10 rfl g4 (rw_100 hr) ?_
      refine ex_iload_n dX6_cut_32 rfl ?_
      refine ex_putI (ci := 2) (j := 1) dX6_cut_33 (rw_l hr 0 (by decide)) (rw_S0 hr) rfl lk_X6_52 ⟨rfl, rfl⟩ ?_
      refine ex_nmM (fun M5 eM5 => ?_)
      replace h := h M5 eM5
      refine ex_iload_n dX6_cut_36 rfl ?_
      exact ex_iret dX6_cut_37 rfl rfl rfl h
    · replace h := h.2 c_12
      refine ex_bipush (v := (-2)) dX6_cut_15 (by decide) ?_
      exact ex_iret dX6_cut_17 rfl rfl rfl h
def w_X6_at (r : Nat) (p1 : Int32) (M : Mem) (Q : Int32 → Mem → Prop) : Prop := (M 0 0 = nI r) ∧ (w_X2_get r p1 M (fun v2 M3 => Q v2 M3))
theorem t_X6_at (r : Nat) (hr : RW r) (p1 : Int32) (M : Mem) (Q : Int32 → Mem → Prop) (h : w_X6_at r p1 M Q) : Ex true mX6_at 78 78 0 0 0 [.ref 0, .int p1] [] M Q := by
  unfold w_X6_at at h
  refine ex_aload_n dX6_at_0 rfl ?_
  obtain ⟨g1, h⟩ := h
  refine ex_getD (ci := 6) (j := 0) (v := r) dX6_at_1 (by decide) rfl rfl lk_X6_10 rfl g1 (rw_100 hr) ?_
  refine ex_iload_n dX6_at_4 rfl ?_
  refine ex_invV (k := r) (ci := 2) (as := [.int p1]) (L2 := [.ref r, .int p1]) (st := []) 0 0 dX6_at_5 lk_X6_69 sl_X2_get (rmK_of rfl) (rw_l hr 0 (by decide)) (rw_S0 hr) ⟨by decide, rfl⟩ rfl (Nat.le_of_ble_eq_true rfl) (Nat.le_of_ble_eq_true rfl) (t_X2_get r hr p1 M _ h) (fun v2 M3 h => ?_)
  show Ex true mX6_at 78 78 0 0 8 [.ref 0, .int p1] [.int v2] M3 Q
  exact ex_iret dX6_at_8 rfl rfl rfl h
def w_X6_read (r m m2 : Nat) (M : Mem) (Q : Int32 → Mem → Prop) : Prop := (M 0 3 = nI m2) ∧ ((M 0 2 = nI m) ∧ (w_X0_empty m2 (M m 0) M (fun v3 M4 => (M4 0 0 = nI r) ∧ ((M4 0 3 = nI m2) ∧ (w_X3_run r m2 M4 (fun v7 M8 => ((v7 < 0) → (Q v7 M8)) ∧ (¬ (v7 < 0) → ((M8 0 2 = nI m) ∧ ((M8 0 3 = nI m2) ∧ (∀ M11 : Mem, M11 = (mset M8 0 2 (nI m2)) → ∀ M12 : Mem, M12 = (mset M11 0 3 (nI m)) → Q v7 M12))))))))))
theorem t_X6_read (r m m2 : Nat) (hr : RW r) (hm : MU m) (hm2 : MU m2) (M : Mem) (Q : Int32 → Mem → Prop) (h : w_X6_read r m m2  M Q) : Ex true mX6_read 78 78 0 0 0 [.ref 0, .null, .null] [] M Q := by
  unfold w_X6_read at h
  refine ex_aload_n dX6_read_0 rfl ?_
  obtain ⟨g1, h⟩ := h
  refine ex_getD (ci := 6) (j := 3) (v := m2) dX6_read_1 (by decide) rfl rfl lk_X6_26 rfl g1 (mu_100 hm2) ?_
  refine ex_aload_n dX6_read_4 rfl ?_
  obtain ⟨g2, h⟩ := h
  refine ex_getD (ci := 6) (j := 2) (v := m) dX6_read_5 (by decide) rfl rfl lk_X6_22 rfl g2 (mu_100 hm) ?_
  refine ex_getI (ci := 0) (j := 0) dX6_read_8 (mu_l hm 0 (by decide)) (mu_S0 hm) rfl lk_X6_73 ?_
  refine ex_invV (k := m2) (ci := 0) (as := [.int (M m 0)]) (L2 := [.ref m2, .int (M m 0)]) (st := []) 0 0 dX6_read_11 lk_X6_56 sl_X0_empty (rmK_of rfl) (mu_l hm2 0 (by decide)) (mu_S0 hm2) ⟨by decide, rfl⟩ rfl (Nat.le_of_ble_eq_true rfl) (Nat.le_of_ble_eq_true rfl) (t_X0_empty m2 hm2 (M m 0) M _ h) (fun v3 M4 h => ?_)
  show Ex true mX6_read 78 78 0 0 14 [.ref 0, .null, .null] [] M4 Q
  refine ex_aload_n dX6_read_14 rfl ?_
  refine ex_getR (ci := 6) (j := 5) (v := 40) dX6_read_15 (by decide) rfl rfl lk_X6_41 rfl (by decide) ?_
  refine ex_aload_n dX6_read_18 rfl ?_
  obtain ⟨g5, h⟩ := h
  refine ex_getD (ci := 6) (j := 0) (v := r) dX6_read_19 (by decide) rfl rfl lk_X6_10 rfl g5 (rw_100 hr) ?_
  refine ex_aload_n dX6_read_22 rfl ?_
  obtain ⟨g6, h⟩ := h
  refine ex_getD (ci := 6) (j := 3) (v := m2) dX6_read_23 (by decide) rfl rfl lk_X6_26 rfl g6 (mu_100 hm2) ?_
  refine ex_invV (k := 40) (ci := 3) (as := [.ref r, .ref m2]) (L2 := [.ref 40, .ref r, .ref m2, .null, .null]) (st := []) 0 0 dX6_read_26 lk_X6_76 sl_X3_run (rmK_of rfl) (by decide) rfl ⟨by decide, rfl⟩ rfl (Nat.le_of_ble_eq_true rfl) (Nat.le_of_ble_eq_true rfl) (t_X3_run r m2 hr hm2 M4 _ h) (fun v7 M8 h => ?_)
  show Ex true mX6_read 78 78 0 0 29 [.ref 0, .null, .null] [.int v7] M8 Q
  refine ex_istore_n (L2 := [.ref 0, .int v7, .null]) dX6_read_29 (by decide) rfl rfl ?_
  refine ex_iload_n dX6_read_30 rfl ?_
  refine ex_if_lt (tgt := 52) dX6_read_31 (by decide) (fun c_31 => ?_) (fun c_31 => ?_)
  · replace h := h.1 c_31
    refine ex_iload_n dX6_read_52 rfl ?_
    exact ex_iret dX6_read_53 rfl rfl rfl h
  · replace h := h.2 c_31
    refine ex_aload_n dX6_read_34 rfl ?_
    obtain ⟨g9, h⟩ := h
    refine ex_getD (ci := 6) (j := 2) (v := m) dX6_read_35 (by decide) rfl rfl lk_X6_22 rfl g9 (mu_100 hm) ?_
    refine ex_astore_n (L2 := [.ref 0, .int v7, .ref m]) dX6_read_38 (by decide) rfl rfl ?_
    refine ex_aload_n dX6_read_39 rfl ?_
    refine ex_aload_n dX6_read_40 rfl ?_
    obtain ⟨g10, h⟩ := h
    refine ex_getD (ci := 6) (j := 3) (v := m2) dX6_read_41 (by decide) rfl rfl lk_X6_26 rfl g10 (mu_100 hm2) ?_
    refine ex_putD (ci := 6) (j := 2) (v := m2) dX6_read_44 (by decide) rfl rfl lk_X6_22 (Or.inl rfl) rfl (mu_78 hm2) (mu_100 hm2) (fun _ => ⟨rfl, rfl⟩) ?_
    refine ex_nmM (fun M11 eM11 => ?_)
    replace h := h M11 eM11
    refine ex_aload_n dX6_read_47 rfl ?_
    refine ex_aload_n dX6_read_48 rfl ?_
    refine ex_putD (ci := 6) (j := 3) (v := m) dX6_read_49 (by decide) rfl rfl lk_X6_26 (Or.inl rfl) rfl (mu_78 hm) (mu_100 hm) (fun _ => ⟨rfl, rfl⟩) ?_
    refine ex_nmM (fun M12 eM12 => ?_)
    replace h := h M12 eM12
    refine ex_iload_n dX6_read_52 rfl ?_
    exact ex_iret dX6_read_53 rfl rfl rfl h
def w_X6_meter (m : Nat) (p1 : Int32) (p2 : Int32) (M : Mem) (Q : Int32 → Mem → Prop) : Prop := ∀ z1 : Int32, z1 = (if p2 = 1 then 1 else (if p2 = 2 then 1 else (if p2 = 4 then 1 else (if p2 = 8 then 1 else (if p2 = 16 then 1 else 0))))) → ((p1 < 1) → (Q (-2) M)) ∧ (¬ (p1 < 1) → (((16 < p1) → (Q (-2) M)) ∧ (¬ (16 < p1) → ((¬ (z1 = 0) → ((¬ p2 = 0) ∧ (∀ x3 : Int32, x3 = ((512 * p1) / p2) → ((x3 ≤ 2048) → ((M 0 2 = nI m) ∧ ((((M m 2) ≤ 0) → ((M 0 2 = nI m) ∧ (∀ M6 : Mem, M6 = (mset M m 0 x3) → Q x3 M6))) ∧ (¬ ((M m 2) ≤ 0) → (Q (-3) M))))) ∧ (¬ (x3 ≤ 2048) → (Q (-2) M))))) ∧ ((z1 = 0) → (Q (-2) M))))))
theorem t_X6_meter (m : Nat) (hm : MU m) (p1 : Int32) (p2 : Int32) (M : Mem) (Q : Int32 → Mem → Prop) (h : w_X6_meter m p1 p2 M Q) : Ex true mX6_meter 78 78 0 0 0 [.ref 0, .int p1, .int p2, .null, .null] [] M Q := by
  unfold w_X6_meter at h
  refine ex_iload_n dX6_meter_0 rfl ?_
  refine ex_iconst (v := 1) dX6_meter_1 (by decide) ?_
  have hJ7 : ∀ z1 : Int32, z1 = (if p2 = 1 then 1 else (if p2 = 2 then 1 else (if p2 = 4 then 1 else (if p2 = 8 then 1 else (if p2 = 16 then 1 else 0))))) → Ex true mX6_meter 78 78 0 0 32 [.ref 0, .int p1, .int p2, .null, .null] [.int z1] M Q := by
    intro z1 ez1
    replace h := h z1 ez1
    refine ex_istore_n (L2 := [.ref 0, .int p1, .int p2, .int z1, .null]) dX6_meter_32 (by decide) rfl rfl ?_
    refine ex_iload_n dX6_meter_33 rfl ?_
    refine ex_iconst (v := 1) dX6_meter_34 (by decide) ?_
    refine ex_icmp_lt (tgt := 48) dX6_meter_35 (by decide) (fun c_35 => ?_) (fun c_35 => ?_)
    · replace h := h.1 c_35
      refine ex_bipush (v := (-2)) dX6_meter_48 (by decide) ?_
      exact ex_iret dX6_meter_50 rfl rfl rfl h
    · replace h := h.2 c_35
      refine ex_iload_n dX6_meter_38 rfl ?_
      refine ex_bipush (v := 16) dX6_meter_39 (by decide) ?_
      refine ex_icmp_gt (tgt := 48) dX6_meter_41 (by decide) (fun c_41 => ?_) (fun c_41 => ?_)
      · replace h := h.1 c_41
        refine ex_bipush (v := (-2)) dX6_meter_48 (by decide) ?_
        exact ex_iret dX6_meter_50 rfl rfl rfl h
      · replace h := h.2 c_41
        refine ex_iload_n dX6_meter_44 rfl ?_
        refine ex_if_ne (tgt := 51) dX6_meter_45 (by decide) (fun c_45 => ?_) (fun c_45 => ?_)
        · replace h := h.1 c_45
          refine ex_sipush (v := 512) dX6_meter_51 (by decide) ?_
          refine ex_iload_n dX6_meter_54 rfl ?_
          refine ex_imul dX6_meter_55 ?_
          refine ex_iload_n dX6_meter_56 rfl ?_
          obtain ⟨d2, h⟩ := h
          refine ex_idiv dX6_meter_57 d2 ?_
          refine ex_top (fun x3 ex3 => ?_)
          replace h := h x3 ex3
          refine ex_istore (L2 := [.ref 0, .int p1, .int p2, .int z1, .int x3]) dX6_meter_58 (by decide) rfl rfl ?_
          refine ex_iload dX6_meter_60 rfl ?_
          refine ex_sipush (v := 2048) dX6_meter_62 (by decide) ?_
          refine ex_icmp_le (tgt := 71) dX6_meter_65 (by decide) (fun c_65 => ?_) (fun c_65 => ?_)
          · replace h := h.1 c_65
            refine ex_aload_n dX6_meter_71 rfl ?_
            obtain ⟨g4, h⟩ := h
            refine ex_getD (ci := 6) (j := 2) (v := m) dX6_meter_72 (by decide) rfl rfl lk_X6_22 rfl g4 (mu_100 hm) ?_
            refine ex_getI (ci := 0) (j := 2) dX6_meter_75 (mu_l hm 0 (by decide)) (mu_S0 hm) rfl lk_X6_80 ?_
            refine ex_if_le (tgt := 84) dX6_meter_78 (by decide) (fun c_78 => ?_) (fun c_78 => ?_)
            · replace h := h.1 c_78
              refine ex_aload_n dX6_meter_84 rfl ?_
              obtain ⟨g5, h⟩ := h
              refine ex_getD (ci := 6) (j := 2) (v := m) dX6_meter_85 (by decide) rfl rfl lk_X6_22 rfl g5 (mu_100 hm) ?_
              refine ex_iload dX6_meter_88 rfl ?_
              refine ex_putI (ci := 0) (j := 0) dX6_meter_90 (mu_l hm 0 (by decide)) (mu_S0 hm) rfl lk_X6_73 ⟨rfl, rfl⟩ ?_
              refine ex_nmM (fun M6 eM6 => ?_)
              replace h := h M6 eM6
              refine ex_iload dX6_meter_93 rfl ?_
              exact ex_iret dX6_meter_95 rfl rfl rfl h
            · replace h := h.2 c_78
              refine ex_bipush (v := (-3)) dX6_meter_81 (by decide) ?_
              exact ex_iret dX6_meter_83 rfl rfl rfl h
          · replace h := h.2 c_65
            refine ex_bipush (v := (-2)) dX6_meter_68 (by decide) ?_
            exact ex_iret dX6_meter_70 rfl rfl rfl h
        · replace h := h.2 c_45
          refine ex_bipush (v := (-2)) dX6_meter_48 (by decide) ?_
          exact ex_iret dX6_meter_50 rfl rfl rfl h
  refine ex_icmp_eq (tgt := 27) dX6_meter_2 (by decide) (fun c_2 => ?_) (fun c_2 => ?_)
  ·
    refine ex_iconst (v := 1) dX6_meter_27 (by decide) ?_
    refine ex_goto (tgt := 32) dX6_meter_28 (by decide) ?_
    exact hJ7 _ (by rw [if_pos c_2])
  ·
    refine ex_iload_n dX6_meter_5 rfl ?_
    refine ex_iconst (v := 2) dX6_meter_6 (by decide) ?_
    refine ex_icmp_eq (tgt := 27) dX6_meter_7 (by decide) (fun c_7 => ?_) (fun c_7 => ?_)
    ·
      refine ex_iconst (v := 1) dX6_meter_27 (by decide) ?_
      refine ex_goto (tgt := 32) dX6_meter_28 (by decide) ?_
      exact hJ7 _ (by rw [if_neg c_2, if_pos c_7])
    ·
      refine ex_iload_n dX6_meter_10 rfl ?_
      refine ex_iconst (v := 4) dX6_meter_11 (by decide) ?_
      refine ex_icmp_eq (tgt := 27) dX6_meter_12 (by decide) (fun c_12 => ?_) (fun c_12 => ?_)
      ·
        refine ex_iconst (v := 1) dX6_meter_27 (by decide) ?_
        refine ex_goto (tgt := 32) dX6_meter_28 (by decide) ?_
        exact hJ7 _ (by rw [if_neg c_2, if_neg c_7, if_pos c_12])
      ·
        refine ex_iload_n dX6_meter_15 rfl ?_
        refine ex_bipush (v := 8) dX6_meter_16 (by decide) ?_
        refine ex_icmp_eq (tgt := 27) dX6_meter_18 (by decide) (fun c_18 => ?_) (fun c_18 => ?_)
        ·
          refine ex_iconst (v := 1) dX6_meter_27 (by decide) ?_
          refine ex_goto (tgt := 32) dX6_meter_28 (by decide) ?_
          exact hJ7 _ (by rw [if_neg c_2, if_neg c_7, if_neg c_12, if_pos c_18])
        ·
          refine ex_iload_n dX6_meter_21 rfl ?_
          refine ex_bipush (v := 16) dX6_meter_22 (by decide) ?_
          refine ex_icmp_ne (tgt := 31) dX6_meter_24 (by decide) (fun c_24 => ?_) (fun c_24 => ?_)
          ·
            refine ex_iconst (v := 0) dX6_meter_31 (by decide) ?_
            exact hJ7 _ (by rw [if_neg c_2, if_neg c_7, if_neg c_12, if_neg c_18, if_neg c_24])
          ·
            refine ex_iconst (v := 1) dX6_meter_27 (by decide) ?_
            refine ex_goto (tgt := 32) dX6_meter_28 (by decide) ?_
            exact hJ7 _ (by rw [if_neg c_2, if_neg c_7, if_neg c_12, if_neg c_18, if_pos c_24])
def w_X6_hand (m : Nat) (p1 : Int32) (M : Mem) (Q : Int32 → Mem → Prop) : Prop := ((p1 < 0) → (Q (-2) M)) ∧ (¬ (p1 < 0) → (((p1 ≤ 2) → ((M 0 2 = nI m) ∧ (w_X0_suitsHand m p1 M (fun v2 M3 => (¬ (v2 = 0) → ((M3 0 2 = nI m) ∧ (∀ x5 : Int32, x5 = (M3 m 1) → (M3 0 2 = nI m) ∧ (∀ M7 : Mem, M7 = (mset M3 m 1 p1) → Q x5 M7)))) ∧ ((v2 = 0) → (Q (-3) M3)))))) ∧ (¬ (p1 ≤ 2) → (Q (-2) M))))
theorem t_X6_hand (m : Nat) (hm : MU m) (p1 : Int32) (M : Mem) (Q : Int32 → Mem → Prop) (h : w_X6_hand m p1 M Q) : Ex true mX6_hand 78 78 0 0 0 [.ref 0, .int p1, .null] [] M Q := by
  unfold w_X6_hand at h
  refine ex_iload_n dX6_hand_0 rfl ?_
  refine ex_if_lt (tgt := 9) dX6_hand_1 (by decide) (fun c_1 => ?_) (fun c_1 => ?_)
  · replace h := h.1 c_1
    refine ex_bipush (v := (-2)) dX6_hand_9 (by decide) ?_
    exact ex_iret dX6_hand_11 rfl rfl rfl h
  · replace h := h.2 c_1
    refine ex_iload_n dX6_hand_4 rfl ?_
    refine ex_iconst (v := 2) dX6_hand_5 (by decide) ?_
    refine ex_icmp_le (tgt := 12) dX6_hand_6 (by decide) (fun c_6 => ?_) (fun c_6 => ?_)
    · replace h := h.1 c_6
      refine ex_aload_n dX6_hand_12 rfl ?_
      obtain ⟨g1, h⟩ := h
      refine ex_getD (ci := 6) (j := 2) (v := m) dX6_hand_13 (by decide) rfl rfl lk_X6_22 rfl g1 (mu_100 hm) ?_
      refine ex_iload_n dX6_hand_16 rfl ?_
      refine ex_invV (k := m) (ci := 0) (as := [.int p1]) (L2 := [.ref m, .int p1, .null, .null]) (st := []) 0 0 dX6_hand_17 lk_X6_83 sl_X0_suitsHand (rmK_of rfl) (mu_l hm 0 (by decide)) (mu_S0 hm) ⟨by decide, rfl⟩ rfl (Nat.le_of_ble_eq_true rfl) (Nat.le_of_ble_eq_true rfl) (t_X0_suitsHand m hm p1 M _ h) (fun v2 M3 h => ?_)
      show Ex true mX6_hand 78 78 0 0 20 [.ref 0, .int p1, .null] [.int v2] M3 Q
      refine ex_if_ne (tgt := 26) dX6_hand_20 (by decide) (fun c_20 => ?_) (fun c_20 => ?_)
      · replace h := h.1 c_20
        refine ex_aload_n dX6_hand_26 rfl ?_
        obtain ⟨g4, h⟩ := h
        refine ex_getD (ci := 6) (j := 2) (v := m) dX6_hand_27 (by decide) rfl rfl lk_X6_22 rfl g4 (mu_100 hm) ?_
        refine ex_getI (ci := 0) (j := 1) dX6_hand_30 (mu_l hm 0 (by decide)) (mu_S0 hm) rfl lk_X6_87 ?_
        refine ex_top (fun x5 ex5 => ?_)
        replace h := h x5 ex5
        refine ex_istore_n (L2 := [.ref 0, .int p1, .int x5]) dX6_hand_33 (by decide) rfl rfl ?_
        refine ex_aload_n dX6_hand_34 rfl ?_
        obtain ⟨g6, h⟩ := h
        refine ex_getD (ci := 6) (j := 2) (v := m) dX6_hand_35 (by decide) rfl rfl lk_X6_22 rfl g6 (mu_100 hm) ?_
        refine ex_iload_n dX6_hand_38 rfl ?_
        refine ex_putI (ci := 0) (j := 1) dX6_hand_39 (mu_l hm 0 (by decide)) (mu_S0 hm) rfl lk_X6_87 ⟨rfl, rfl⟩ ?_
        refine ex_nmM (fun M7 eM7 => ?_)
        replace h := h M7 eM7
        refine ex_iload_n dX6_hand_42 rfl ?_
        exact ex_iret dX6_hand_43 rfl rfl rfl h
      · replace h := h.2 c_20
        refine ex_bipush (v := (-3)) dX6_hand_23 (by decide) ?_
        exact ex_iret dX6_hand_25 rfl rfl rfl h
    · replace h := h.2 c_6
      refine ex_bipush (v := (-2)) dX6_hand_9 (by decide) ?_
      exact ex_iret dX6_hand_11 rfl rfl rfl h
def w_X6_bar_27 (m : Nat) (Q : Int32 → Mem → Prop) (l1 : Int32) (M : Mem) : Prop := (M 0 2 = nI m) ∧ (w_X0_startBar m l1 M (fun v5 M6 => (((v5 = 0) → (True)) ∧ (¬ (v5 = 0) → ((M6 0 2 = nI m) ∧ (True)))) ∧ (∀ z8 : Int32, z8 = (if v5 = 0 then (-4) else ((M6 m 2) - 1)) → Q z8 M6)))
theorem t_X6_bar_27 (m : Nat) (hm : MU m) (Q : Int32 → Mem → Prop) (l1 : Int32) (M : Mem) (h : w_X6_bar_27 m Q  l1 M) : Ex true mX6_bar 78 78 0 0 27 [.ref 0, .int l1] [] M Q := by
  unfold w_X6_bar_27 at h
  refine ex_aload_n dX6_bar_27 rfl ?_
  obtain ⟨g4, h⟩ := h
  refine ex_getD (ci := 6) (j := 2) (v := m) dX6_bar_28 (by decide) rfl rfl lk_X6_22 rfl g4 (mu_100 hm) ?_
  refine ex_iload_n dX6_bar_31 rfl ?_
  refine ex_invV (k := m) (ci := 0) (as := [.int l1]) (L2 := [.ref m, .int l1]) (st := []) 0 0 dX6_bar_32 lk_X6_94 sl_X0_startBar (rmK_of rfl) (mu_l hm 0 (by decide)) (mu_S0 hm) ⟨by decide, rfl⟩ rfl (Nat.le_of_ble_eq_true rfl) (Nat.le_of_ble_eq_true rfl) (t_X0_startBar m hm l1 M _ h) (fun v5 M6 h => ?_)
  show Ex true mX6_bar 78 78 0 0 35 [.ref 0, .int l1] [.int v5] M6 Q
  obtain ⟨khJ9, h⟩ := h
  have hJ9 : ∀ z8 : Int32, z8 = (if v5 = 0 then (-4) else ((M6 m 2) - 1)) → Ex true mX6_bar 78 78 0 0 52 [.ref 0, .int l1] [.int z8] M6 Q := by
    intro z8 ez8
    replace h := h z8 ez8
    exact ex_iret dX6_bar_52 rfl rfl rfl h
  refine ex_if_eq (tgt := 50) dX6_bar_35 (by decide) (fun c_35 => ?_) (fun c_35 => ?_)
  · replace h := khJ9.1 c_35
    refine ex_bipush (v := (-4)) dX6_bar_50 (by decide) ?_
    exact hJ9 _ (by rw [if_pos c_35])
  · replace h := khJ9.2 c_35
    refine ex_aload_n dX6_bar_38 rfl ?_
    obtain ⟨g7, h⟩ := h
    refine ex_getD (ci := 6) (j := 2) (v := m) dX6_bar_39 (by decide) rfl rfl lk_X6_22 rfl g7 (mu_100 hm) ?_
    refine ex_getI (ci := 0) (j := 2) dX6_bar_42 (mu_l hm 0 (by decide)) (mu_S0 hm) rfl lk_X6_80 ?_
    refine ex_iconst (v := 1) dX6_bar_45 (by decide) ?_
    refine ex_isub dX6_bar_46 ?_
    refine ex_goto (tgt := 52) dX6_bar_47 (by decide) ?_
    exact hJ9 _ (by rw [if_neg c_35])
def w_X6_bar (m : Nat) (p1 : Int32) (M : Mem) (Q : Int32 → Mem → Prop) : Prop := (M 0 2 = nI m) ∧ (w_X0_endsWhole m M (fun v2 M3 => ((v2 = 0) → (Q (-3) M3)) ∧ (¬ (v2 = 0) → (((p1 = 0) → (w_X6_bar_27 m Q  p1 M3)) ∧ (¬ (p1 = 0) → ((M3 0 2 = nI m) ∧ ((¬ ((M3 m 2) = 0) → (w_X6_bar_27 m Q  p1 M3)) ∧ (((M3 m 2) = 0) → (Q (-3) M3)))))))))
theorem t_X6_bar (m : Nat) (hm : MU m) (p1 : Int32) (M : Mem) (Q : Int32 → Mem → Prop) (h : w_X6_bar m p1 M Q) : Ex true mX6_bar 78 78 0 0 0 [.ref 0, .int p1] [] M Q := by
  unfold w_X6_bar at h
  refine ex_aload_n dX6_bar_0 rfl ?_
  obtain ⟨g1, h⟩ := h
  refine ex_getD (ci := 6) (j := 2) (v := m) dX6_bar_1 (by decide) rfl rfl lk_X6_22 rfl g1 (mu_100 hm) ?_
  refine ex_invV (k := m) (ci := 0) (as := []) (L2 := [.ref m, .null]) (st := []) 0 0 dX6_bar_4 lk_X6_90 sl_X0_endsWhole (rmK_of rfl) (mu_l hm 0 (by decide)) (mu_S0 hm) ⟨by decide, rfl⟩ rfl (Nat.le_of_ble_eq_true rfl) (Nat.le_of_ble_eq_true rfl) (t_X0_endsWhole m hm M _ h) (fun v2 M3 h => ?_)
  show Ex true mX6_bar 78 78 0 0 7 [.ref 0, .int p1] [.int v2] M3 Q
  refine ex_if_eq (tgt := 24) dX6_bar_7 (by decide) (fun c_7 => ?_) (fun c_7 => ?_)
  · replace h := h.1 c_7
    refine ex_bipush (v := (-3)) dX6_bar_24 (by decide) ?_
    exact ex_iret dX6_bar_26 rfl rfl rfl h
  · replace h := h.2 c_7
    refine ex_iload_n dX6_bar_10 rfl ?_
    refine ex_if_eq (tgt := 27) dX6_bar_11 (by decide) (fun c_11 => ?_) (fun c_11 => ?_)
    · replace h := h.1 c_11
      exact t_X6_bar_27 m hm  Q   p1 M3 h
    · replace h := h.2 c_11
      refine ex_aload_n dX6_bar_14 rfl ?_
      obtain ⟨g10, h⟩ := h
      refine ex_getD (ci := 6) (j := 2) (v := m) dX6_bar_15 (by decide) rfl rfl lk_X6_22 rfl g10 (mu_100 hm) ?_
      refine ex_getI (ci := 0) (j := 2) dX6_bar_18 (mu_l hm 0 (by decide)) (mu_S0 hm) rfl lk_X6_80 ?_
      refine ex_if_ne (tgt := 27) dX6_bar_21 (by decide) (fun c_21 => ?_) (fun c_21 => ?_)
      · replace h := h.1 c_21
        exact t_X6_bar_27 m hm  Q   p1 M3 h
      · replace h := h.2 c_21
        refine ex_bipush (v := (-3)) dX6_bar_24 (by decide) ?_
        exact ex_iret dX6_bar_26 rfl rfl rfl h
def w_X6_voice (m : Nat) (M : Mem) (Q : Int32 → Mem → Prop) : Prop := (M 0 2 = nI m) ∧ (w_X0_lastSlot m M (fun v2 M3 => ((v2 < 0) → (Q (-3) M3)) ∧ (¬ (v2 < 0) → ((M3 0 2 = nI m) ∧ (w_X0_isWhole m v2 M3 (fun v5 M6 => (¬ (v5 = 0) → ((M6 0 2 = nI m) ∧ (w_X0_startVoice m M6 (fun v8 M9 => (((v8 = 0) → (True)) ∧ (¬ (v8 = 0) → ((M9 0 2 = nI m) ∧ ((M9 0 2 = nI m) ∧ ((vp_in ((M9 m 2) - 1) 60) ∧ (True)))))) ∧ (∀ z13 : Int32, z13 = (if v8 = 0 then (-4) else ((M9 (m + 1) (Int32.toNatClampNeg ((M9 m 2) - 1))) - 1)) → Q z13 M9))))) ∧ ((v5 = 0) → (Q (-3) M6))))))))
theorem t_X6_voice (m : Nat) (hm : MU m) (M : Mem) (Q : Int32 → Mem → Prop) (h : w_X6_voice m  M Q) : Ex true mX6_voice 78 78 0 0 0 [.ref 0, .null] [] M Q := by
  unfold w_X6_voice at h
  refine ex_aload_n dX6_voice_0 rfl ?_
  obtain ⟨g1, h⟩ := h
  refine ex_getD (ci := 6) (j := 2) (v := m) dX6_voice_1 (by decide) rfl rfl lk_X6_22 rfl g1 (mu_100 hm) ?_
  refine ex_invV (k := m) (ci := 0) (as := []) (L2 := [.ref m, .null]) (st := []) 0 0 dX6_voice_4 lk_X6_98 sl_X0_lastSlot (rmK_of rfl) (mu_l hm 0 (by decide)) (mu_S0 hm) ⟨by decide, rfl⟩ rfl (Nat.le_of_ble_eq_true rfl) (Nat.le_of_ble_eq_true rfl) (t_X0_lastSlot m hm M _ h) (fun v2 M3 h => ?_)
  show Ex true mX6_voice 78 78 0 0 7 [.ref 0, .null] [.int v2] M3 Q
  refine ex_istore_n (L2 := [.ref 0, .int v2]) dX6_voice_7 (by decide) rfl rfl ?_
  refine ex_iload_n dX6_voice_8 rfl ?_
  refine ex_if_lt (tgt := 23) dX6_voice_9 (by decide) (fun c_9 => ?_) (fun c_9 => ?_)
  · replace h := h.1 c_9
    refine ex_bipush (v := (-3)) dX6_voice_23 (by decide) ?_
    exact ex_iret dX6_voice_25 rfl rfl rfl h
  · replace h := h.2 c_9
    refine ex_aload_n dX6_voice_12 rfl ?_
    obtain ⟨g4, h⟩ := h
    refine ex_getD (ci := 6) (j := 2) (v := m) dX6_voice_13 (by decide) rfl rfl lk_X6_22 rfl g4 (mu_100 hm) ?_
    refine ex_iload_n dX6_voice_16 rfl ?_
    refine ex_invV (k := m) (ci := 0) (as := [.int v2]) (L2 := [.ref m, .int v2]) (st := []) 0 0 dX6_voice_17 lk_X6_102 sl_X0_isWhole (rmK_of rfl) (mu_l hm 0 (by decide)) (mu_S0 hm) ⟨by decide, rfl⟩ rfl (Nat.le_of_ble_eq_true rfl) (Nat.le_of_ble_eq_true rfl) (t_X0_isWhole m hm v2 M3 _ h) (fun v5 M6 h => ?_)
    show Ex true mX6_voice 78 78 0 0 20 [.ref 0, .int v2] [.int v5] M6 Q
    refine ex_if_ne (tgt := 26) dX6_voice_20 (by decide) (fun c_20 => ?_) (fun c_20 => ?_)
    · replace h := h.1 c_20
      refine ex_aload_n dX6_voice_26 rfl ?_
      obtain ⟨g7, h⟩ := h
      refine ex_getD (ci := 6) (j := 2) (v := m) dX6_voice_27 (by decide) rfl rfl lk_X6_22 rfl g7 (mu_100 hm) ?_
      refine ex_invV (k := m) (ci := 0) (as := []) (L2 := [.ref m, .null, .null]) (st := []) 0 0 dX6_voice_30 lk_X6_105 sl_X0_startVoice (rmK_of rfl) (mu_l hm 0 (by decide)) (mu_S0 hm) ⟨by decide, rfl⟩ rfl (Nat.le_of_ble_eq_true rfl) (Nat.le_of_ble_eq_true rfl) (t_X0_startVoice m hm M6 _ h) (fun v8 M9 h => ?_)
      show Ex true mX6_voice 78 78 0 0 33 [.ref 0, .int v2] [.int v8] M9 Q
      obtain ⟨khJ14, h⟩ := h
      have hJ14 : ∀ z13 : Int32, z13 = (if v8 = 0 then (-4) else ((M9 (m + 1) (Int32.toNatClampNeg ((M9 m 2) - 1))) - 1)) → Ex true mX6_voice 78 78 0 0 60 [.ref 0, .int v2] [.int z13] M9 Q := by
        intro z13 ez13
        replace h := h z13 ez13
        exact ex_iret dX6_voice_60 rfl rfl rfl h
      refine ex_if_eq (tgt := 58) dX6_voice_33 (by decide) (fun c_33 => ?_) (fun c_33 => ?_)
      · replace h := khJ14.1 c_33
        refine ex_bipush (v := (-4)) dX6_voice_58 (by decide) ?_
        exact hJ14 _ (by rw [if_pos c_33])
      · replace h := khJ14.2 c_33
        refine ex_aload_n dX6_voice_36 rfl ?_
        obtain ⟨g10, h⟩ := h
        refine ex_getD (ci := 6) (j := 2) (v := m) dX6_voice_37 (by decide) rfl rfl lk_X6_22 rfl g10 (mu_100 hm) ?_
        refine ex_getR (ci := 0) (j := 4) (v := m + 1) dX6_voice_40 (mu_l hm 0 (by decide)) (mu_S0 hm) rfl lk_X6_108 (mu_F4 hm) (by omega) ?_
        refine ex_aload_n dX6_voice_43 rfl ?_
        obtain ⟨g11, h⟩ := h
        refine ex_getD (ci := 6) (j := 2) (v := m) dX6_voice_44 (by decide) rfl rfl lk_X6_22 rfl g11 (mu_100 hm) ?_
        refine ex_getI (ci := 0) (j := 2) dX6_voice_47 (mu_l hm 0 (by decide)) (mu_S0 hm) rfl lk_X6_80 ?_
        refine ex_iconst (v := 1) dX6_voice_50 (by decide) ?_
        refine ex_isub dX6_voice_51 ?_
        obtain ⟨b12, h⟩ := h
        refine ex_iald dX6_voice_52 (mu_l hm 1 (by decide)) (mu_S1 hm) b12 ?_
        refine ex_iconst (v := 1) dX6_voice_53 (by decide) ?_
        refine ex_isub dX6_voice_54 ?_
        refine ex_goto (tgt := 60) dX6_voice_55 (by decide) ?_
        exact hJ14 _ (by rw [if_neg c_33])
    · replace h := h.2 c_20
      refine ex_bipush (v := (-3)) dX6_voice_23 (by decide) ?_
      exact ex_iret dX6_voice_25 rfl rfl rfl h
def w_X6_addTimed_41 (m : Nat) (Q : Int32 → Mem → Prop) (l1 : Int32) (l2 : Int32) (l3 : Int32) (l4 : Int32) (l5 : Int32) (l6 : Int32) (t0 : Int32) (M : Mem) : Prop := (M 0 2 = nI m) ∧ (w_X0_voiceLasts m l6 M (fun v7 M8 => (M8 0 2 = nI m) ∧ ((((v7 + t0) ≤ (M8 m 0)) → ((M8 0 2 = nI m) ∧ ((vp_in l6 180) ∧ (((40 ≤ (M8 (m + 3) (Int32.toNatClampNeg l6))) → (Q (-4) M8)) ∧ (¬ (40 ≤ (M8 (m + 3) (Int32.toNatClampNeg l6))) → ((M8 0 2 = nI m) ∧ ((((M8 m 3) < 600) → ((M8 0 2 = nI m) ∧ (w_X0_addItem m l1 l2 l3 l4 l5 M8 (fun v14 M15 => Q v14 M15)))) ∧ (¬ ((M8 m 3) < 600) → (Q (-4) M8))))))))) ∧ (¬ ((v7 + t0) ≤ (M8 m 0)) → (Q (-3) M8)))))
theorem t_X6_addTimed_41 (m : Nat) (hm : MU m) (Q : Int32 → Mem → Prop) (l1 : Int32) (l2 : Int32) (l3 : Int32) (l4 : Int32) (l5 : Int32) (l6 : Int32) (t0 : Int32) (M : Mem) (h : w_X6_addTimed_41 m Q  l1 l2 l3 l4 l5 l6 t0 M) : Ex true mX6_addTimed 78 78 0 0 41 [.ref 0, .int l1, .int l2, .int l3, .int l4, .int l5, .int l6, .null] [.int t0] M Q := by
  unfold w_X6_addTimed_41 at h
  refine ex_istore (L2 := [.ref 0, .int l1, .int l2, .int l3, .int l4, .int l5, .int l6, .int t0]) dX6_addTimed_41 (by decide) rfl rfl ?_
  refine ex_aload_n dX6_addTimed_43 rfl ?_
  obtain ⟨g6, h⟩ := h
  refine ex_getD (ci := 6) (j := 2) (v := m) dX6_addTimed_44 (by decide) rfl rfl lk_X6_22 rfl g6 (mu_100 hm) ?_
  refine ex_iload dX6_addTimed_47 rfl ?_
  refine ex_invV (k := m) (ci := 0) (as := [.int l6]) (L2 := [.ref m, .int l6, .null, .null]) (st := []) 0 0 dX6_addTimed_49 lk_X6_132 sl_X0_voiceLasts (rmK_of rfl) (mu_l hm 0 (by decide)) (mu_S0 hm) ⟨by decide, rfl⟩ rfl (Nat.le_of_ble_eq_true rfl) (Nat.le_of_ble_eq_true rfl) (t_X0_voiceLasts m hm l6 M _ h) (fun v7 M8 h => ?_)
  show Ex true mX6_addTimed 78 78 0 0 52 [.ref 0, .int l1, .int l2, .int l3, .int l4, .int l5, .int l6, .int t0] [.int v7] M8 Q
  refine ex_iload dX6_addTimed_52 rfl ?_
  refine ex_iadd dX6_addTimed_54 ?_
  refine ex_aload_n dX6_addTimed_55 rfl ?_
  obtain ⟨g9, h⟩ := h
  refine ex_getD (ci := 6) (j := 2) (v := m) dX6_addTimed_56 (by decide) rfl rfl lk_X6_22 rfl g9 (mu_100 hm) ?_
  refine ex_getI (ci := 0) (j := 0) dX6_addTimed_59 (mu_l hm 0 (by decide)) (mu_S0 hm) rfl lk_X6_73 ?_
  refine ex_icmp_le (tgt := 68) dX6_addTimed_62 (by decide) (fun c_62 => ?_) (fun c_62 => ?_)
  · replace h := h.1 c_62
    refine ex_aload_n dX6_addTimed_68 rfl ?_
    obtain ⟨g10, h⟩ := h
    refine ex_getD (ci := 6) (j := 2) (v := m) dX6_addTimed_69 (by decide) rfl rfl lk_X6_22 rfl g10 (mu_100 hm) ?_
    refine ex_getR (ci := 0) (j := 6) (v := m + 3) dX6_addTimed_72 (mu_l hm 0 (by decide)) (mu_S0 hm) rfl lk_X6_135 (mu_F6 hm) (by omega) ?_
    refine ex_iload dX6_addTimed_75 rfl ?_
    obtain ⟨b11, h⟩ := h
    refine ex_iald dX6_addTimed_77 (mu_l hm 3 (by decide)) (mu_S3 hm) b11 ?_
    refine ex_bipush (v := 40) dX6_addTimed_78 (by decide) ?_
    refine ex_icmp_ge (tgt := 96) dX6_addTimed_80 (by decide) (fun c_80 => ?_) (fun c_80 => ?_)
    · replace h := h.1 c_80
      refine ex_bipush (v := (-4)) dX6_addTimed_96 (by decide) ?_
      exact ex_iret dX6_addTimed_98 rfl rfl rfl h
    · replace h := h.2 c_80
      refine ex_aload_n dX6_addTimed_83 rfl ?_
      obtain ⟨g12, h⟩ := h
      refine ex_getD (ci := 6) (j := 2) (v := m) dX6_addTimed_84 (by decide) rfl rfl lk_X6_22 rfl g12 (mu_100 hm) ?_
      refine ex_getI (ci := 0) (j := 3) dX6_addTimed_87 (mu_l hm 0 (by decide)) (mu_S0 hm) rfl lk_X6_138 ?_
      refine ex_sipush (v := 600) dX6_addTimed_90 (by decide) ?_
      refine ex_icmp_lt (tgt := 99) dX6_addTimed_93 (by decide) (fun c_93 => ?_) (fun c_93 => ?_)
      · replace h := h.1 c_93
        refine ex_aload_n dX6_addTimed_99 rfl ?_
        obtain ⟨g13, h⟩ := h
        refine ex_getD (ci := 6) (j := 2) (v := m) dX6_addTimed_100 (by decide) rfl rfl lk_X6_22 rfl g13 (mu_100 hm) ?_
        refine ex_iload_n dX6_addTimed_103 rfl ?_
        refine ex_iload_n dX6_addTimed_104 rfl ?_
        refine ex_iload_n dX6_addTimed_105 rfl ?_
        refine ex_iload dX6_addTimed_106 rfl ?_
        refine ex_iload dX6_addTimed_108 rfl ?_
        refine ex_invV (k := m) (ci := 0) (as := [.int l1, .int l2, .int l3, .int l4, .int l5]) (L2 := [.ref m, .int l1, .int l2, .int l3, .int l4, .int l5, .null]) (st := []) 0 0 dX6_addTimed_110 lk_X6_141 sl_X0_addItem (rmK_of rfl) (mu_l hm 0 (by decide)) (mu_S0 hm) ⟨by decide, rfl⟩ rfl (Nat.le_of_ble_eq_true rfl) (Nat.le_of_ble_eq_true rfl) (t_X0_addItem m hm l1 l2 l3 l4 l5 M8 _ h) (fun v14 M15 h => ?_)
        show Ex true mX6_addTimed 78 78 0 0 113 [.ref 0, .int l1, .int l2, .int l3, .int l4, .int l5, .int l6, .int t0] [.int v14] M15 Q
        exact ex_iret dX6_addTimed_113 rfl rfl rfl h
      · replace h := h.2 c_93
        refine ex_bipush (v := (-4)) dX6_addTimed_96 (by decide) ?_
        exact ex_iret dX6_addTimed_98 rfl rfl rfl h
  · replace h := h.2 c_62
    refine ex_bipush (v := (-3)) dX6_addTimed_65 (by decide) ?_
    exact ex_iret dX6_addTimed_67 rfl rfl rfl h
def w_X6_addTimed (m : Nat) (p1 : Int32) (p2 : Int32) (p3 : Int32) (p4 : Int32) (p5 : Int32) (M : Mem) (Q : Int32 → Mem → Prop) : Prop := (M 0 2 = nI m) ∧ (w_X0_lastSlot m M (fun v2 M3 => ((0 ≤ v2) → ((¬ (p4 = 2) → (w_X6_lengthOf p3 p4 p5 M3 (fun v4 M5 => w_X6_addTimed_41 m Q  p1 p2 p3 p4 p5 v2 v4 M5))) ∧ ((p4 = 2) → ((M3 0 2 = nI m) ∧ (w_X6_addTimed_41 m Q  p1 p2 p3 p4 p5 v2 (M3 m 0) M3))))) ∧ (¬ (0 ≤ v2) → (Q (-3) M3))))
theorem t_X6_addTimed (m : Nat) (hm : MU m) (p1 : Int32) (p2 : Int32) (p3 : Int32) (p4 : Int32) (p5 : Int32) (M : Mem) (Q : Int32 → Mem → Prop) (h : w_X6_addTimed m p1 p2 p3 p4 p5 M Q) : Ex true mX6_addTimed 78 78 0 0 0 [.ref 0, .int p1, .int p2, .int p3, .int p4, .int p5, .null, .null] [] M Q := by
  unfold w_X6_addTimed at h
  refine ex_aload_n dX6_addTimed_0 rfl ?_
  obtain ⟨g1, h⟩ := h
  refine ex_getD (ci := 6) (j := 2) (v := m) dX6_addTimed_1 (by decide) rfl rfl lk_X6_22 rfl g1 (mu_100 hm) ?_
  refine ex_invV (k := m) (ci := 0) (as := []) (L2 := [.ref m, .null]) (st := []) 0 0 dX6_addTimed_4 lk_X6_98 sl_X0_lastSlot (rmK_of rfl) (mu_l hm 0 (by decide)) (mu_S0 hm) ⟨by decide, rfl⟩ rfl (Nat.le_of_ble_eq_true rfl) (Nat.le_of_ble_eq_true rfl) (t_X0_lastSlot m hm M _ h) (fun v2 M3 h => ?_)
  show Ex true mX6_addTimed 78 78 0 0 7 [.ref 0, .int p1, .int p2, .int p3, .int p4, .int p5, .null, .null] [.int v2] M3 Q
  refine ex_istore (L2 := [.ref 0, .int p1, .int p2, .int p3, .int p4, .int p5, .int v2, .null]) dX6_addTimed_7 (by decide) rfl rfl ?_
  refine ex_iload dX6_addTimed_9 rfl ?_
  refine ex_if_ge (tgt := 17) dX6_addTimed_11 (by decide) (fun c_11 => ?_) (fun c_11 => ?_)
  · replace h := h.1 c_11
    refine ex_iload dX6_addTimed_17 rfl ?_
    refine ex_iconst (v := 2) dX6_addTimed_19 (by decide) ?_
    refine ex_icmp_ne (tgt := 33) dX6_addTimed_20 (by decide) (fun c_20 => ?_) (fun c_20 => ?_)
    · replace h := h.1 c_20
      refine ex_iload_n dX6_addTimed_33 rfl ?_
      refine ex_iload dX6_addTimed_34 rfl ?_
      refine ex_iload dX6_addTimed_36 rfl ?_
      refine ex_invS (as := [.int p3, .int p4, .int p5]) (L2 := [.int p3, .int p4, .int p5]) (st := []) 0 0 dX6_addTimed_38 lk_X6_128 sl_X6_lengthOf (rmK_of rfl) rfl (Nat.le_of_ble_eq_true rfl) (Nat.le_of_ble_eq_true rfl) (t_X6_lengthOf   p3 p4 p5 M3 _ h) (fun v4 M5 h => ?_)
      show Ex true mX6_addTimed 78 78 0 0 41 [.ref 0, .int p1, .int p2, .int p3, .int p4, .int p5, .int v2, .null] [.int v4] M5 Q
      exact t_X6_addTimed_41 m hm  Q   p1 p2 p3 p4 p5 v2 v4 M5 h
    · replace h := h.2 c_20
      refine ex_aload_n dX6_addTimed_23 rfl ?_
      obtain ⟨g16, h⟩ := h
      refine ex_getD (ci := 6) (j := 2) (v := m) dX6_addTimed_24 (by decide) rfl rfl lk_X6_22 rfl g16 (mu_100 hm) ?_
      refine ex_getI (ci := 0) (j := 0) dX6_addTimed_27 (mu_l hm 0 (by decide)) (mu_S0 hm) rfl lk_X6_73 ?_
      refine ex_goto (tgt := 41) dX6_addTimed_30 (by decide) ?_
      exact t_X6_addTimed_41 m hm  Q   p1 p2 p3 p4 p5 v2 (M3 m 0) M3 h
  · replace h := h.2 c_11
    refine ex_bipush (v := (-3)) dX6_addTimed_14 (by decide) ?_
    exact ex_iret dX6_addTimed_16 rfl rfl rfl h
def w_X6_note_46 (m : Nat) (Q : Int32 → Mem → Prop) (l1 : Int32) (l2 : Int32) (l3 : Int32) (l4 : Int32) (l5 : Int32) (M : Mem) : Prop := w_X6_addTimed m l1 l2 l3 l4 l5 M (fun v9 M10 => Q v9 M10)
theorem t_X6_note_46 (m : Nat) (hm : MU m) (Q : Int32 → Mem → Prop) (l1 : Int32) (l2 : Int32) (l3 : Int32) (l4 : Int32) (l5 : Int32) (M : Mem) (h : w_X6_note_46 m Q  l1 l2 l3 l4 l5 M) : Ex true mX6_note 78 78 0 0 46 [.ref 0, .int l1, .int l2, .int l3, .int l4, .int l5] [] M Q := by
  unfold w_X6_note_46 at h
  refine ex_aload_n dX6_note_46 rfl ?_
  refine ex_iload_n dX6_note_47 rfl ?_
  refine ex_iload_n dX6_note_48 rfl ?_
  refine ex_iload_n dX6_note_49 rfl ?_
  refine ex_iload dX6_note_50 rfl ?_
  refine ex_iload dX6_note_52 rfl ?_
  refine ex_invV (k := 0) (ci := 6) (as := [.int l1, .int l2, .int l3, .int l4, .int l5]) (L2 := [.ref 0, .int l1, .int l2, .int l3, .int l4, .int l5, .null, .null]) (st := []) 0 0 dX6_note_54 lk_X6_124 sl_X6_addTimed (rmK_of rfl) (by decide) rfl ⟨by decide, rfl⟩ rfl (Nat.le_of_ble_eq_true rfl) (Nat.le_of_ble_eq_true rfl) (t_X6_addTimed m hm l1 l2 l3 l4 l5 M _ h) (fun v9 M10 h => ?_)
  show Ex true mX6_note 78 78 0 0 57 [.ref 0, .int l1, .int l2, .int l3, .int l4, .int l5] [.int v9] M10 Q
  exact ex_iret dX6_note_57 rfl rfl rfl h
def w_X6_note (m : Nat) (p1 : Int32) (p2 : Int32) (p3 : Int32) (p4 : Int32) (p5 : Int32) (M : Mem) (Q : Int32 → Mem → Prop) : Prop := w_X6_isPitch p1 M (fun v1 M2 => ((v1 = 0) → (Q (-2) M2)) ∧ (¬ (v1 = 0) → (w_X6_isSign p2 M2 (fun v3 M4 => ((v3 = 0) → (Q (-2) M4)) ∧ (¬ (v3 = 0) → (w_X6_isKind p3 M4 (fun v5 M6 => ((v5 = 0) → (Q (-2) M6)) ∧ (¬ (v5 = 0) → (w_X6_isDots p5 M6 (fun v7 M8 => (¬ (v7 = 0) → (((p4 = 0) → (w_X6_note_46 m Q  p1 p2 p3 p4 p5 M8)) ∧ (¬ (p4 = 0) → (((p4 = 1) → (w_X6_note_46 m Q  p1 p2 p3 p4 p5 M8)) ∧ (¬ (p4 = 1) → (Q (-2) M8)))))) ∧ ((v7 = 0) → (Q (-2) M8))))))))))))
theorem t_X6_note (m : Nat) (hm : MU m) (p1 : Int32) (p2 : Int32) (p3 : Int32) (p4 : Int32) (p5 : Int32) (M : Mem) (Q : Int32 → Mem → Prop) (h : w_X6_note m p1 p2 p3 p4 p5 M Q) : Ex true mX6_note 78 78 0 0 0 [.ref 0, .int p1, .int p2, .int p3, .int p4, .int p5] [] M Q := by
  unfold w_X6_note at h
  refine ex_iload_n dX6_note_0 rfl ?_
  refine ex_invS (as := [.int p1]) (L2 := [.int p1]) (st := []) 0 0 dX6_note_1 lk_X6_112 sl_X6_isPitch (rmK_of rfl) rfl (Nat.le_of_ble_eq_true rfl) (Nat.le_of_ble_eq_true rfl) (t_X6_isPitch   p1 M _ h) (fun v1 M2 h => ?_)
  show Ex true mX6_note 78 78 0 0 4 [.ref 0, .int p1, .int p2, .int p3, .int p4, .int p5] [.int v1] M2 Q
  refine ex_if_eq (tgt := 29) dX6_note_4 (by decide) (fun c_4 => ?_) (fun c_4 => ?_)
  · replace h := h.1 c_4
    refine ex_bipush (v := (-2)) dX6_note_29 (by decide) ?_
    exact ex_iret dX6_note_31 rfl rfl rfl h
  · replace h := h.2 c_4
    refine ex_iload_n dX6_note_7 rfl ?_
    refine ex_invS (as := [.int p2]) (L2 := [.int p2]) (st := []) 0 0 dX6_note_8 lk_X6_115 sl_X6_isSign (rmK_of rfl) rfl (Nat.le_of_ble_eq_true rfl) (Nat.le_of_ble_eq_true rfl) (t_X6_isSign   p2 M2 _ h) (fun v3 M4 h => ?_)
    show Ex true mX6_note 78 78 0 0 11 [.ref 0, .int p1, .int p2, .int p3, .int p4, .int p5] [.int v3] M4 Q
    refine ex_if_eq (tgt := 29) dX6_note_11 (by decide) (fun c_11 => ?_) (fun c_11 => ?_)
    · replace h := h.1 c_11
      refine ex_bipush (v := (-2)) dX6_note_29 (by decide) ?_
      exact ex_iret dX6_note_31 rfl rfl rfl h
    · replace h := h.2 c_11
      refine ex_iload_n dX6_note_14 rfl ?_
      refine ex_invS (as := [.int p3]) (L2 := [.int p3]) (st := []) 0 0 dX6_note_15 lk_X6_118 sl_X6_isKind (rmK_of rfl) rfl (Nat.le_of_ble_eq_true rfl) (Nat.le_of_ble_eq_true rfl) (t_X6_isKind   p3 M4 _ h) (fun v5 M6 h => ?_)
      show Ex true mX6_note 78 78 0 0 18 [.ref 0, .int p1, .int p2, .int p3, .int p4, .int p5] [.int v5] M6 Q
      refine ex_if_eq (tgt := 29) dX6_note_18 (by decide) (fun c_18 => ?_) (fun c_18 => ?_)
      · replace h := h.1 c_18
        refine ex_bipush (v := (-2)) dX6_note_29 (by decide) ?_
        exact ex_iret dX6_note_31 rfl rfl rfl h
      · replace h := h.2 c_18
        refine ex_iload dX6_note_21 rfl ?_
        refine ex_invS (as := [.int p5]) (L2 := [.int p5]) (st := []) 0 0 dX6_note_23 lk_X6_121 sl_X6_isDots (rmK_of rfl) rfl (Nat.le_of_ble_eq_true rfl) (Nat.le_of_ble_eq_true rfl) (t_X6_isDots   p5 M6 _ h) (fun v7 M8 h => ?_)
        show Ex true mX6_note 78 78 0 0 26 [.ref 0, .int p1, .int p2, .int p3, .int p4, .int p5] [.int v7] M8 Q
        refine ex_if_ne (tgt := 32) dX6_note_26 (by decide) (fun c_26 => ?_) (fun c_26 => ?_)
        · replace h := h.1 c_26
          refine ex_iload dX6_note_32 rfl ?_
          refine ex_if_eq (tgt := 46) dX6_note_34 (by decide) (fun c_34 => ?_) (fun c_34 => ?_)
          · replace h := h.1 c_34
            exact t_X6_note_46 m hm  Q   p1 p2 p3 p4 p5 M8 h
          · replace h := h.2 c_34
            refine ex_iload dX6_note_37 rfl ?_
            refine ex_iconst (v := 1) dX6_note_39 (by decide) ?_
            refine ex_icmp_eq (tgt := 46) dX6_note_40 (by decide) (fun c_40 => ?_) (fun c_40 => ?_)
            · replace h := h.1 c_40
              exact t_X6_note_46 m hm  Q   p1 p2 p3 p4 p5 M8 h
            · replace h := h.2 c_40
              refine ex_bipush (v := (-2)) dX6_note_43 (by decide) ?_
              exact ex_iret dX6_note_45 rfl rfl rfl h
        · replace h := h.2 c_26
          refine ex_bipush (v := (-2)) dX6_note_29 (by decide) ?_
          exact ex_iret dX6_note_31 rfl rfl rfl h
def w_X6_rest_42 (m : Nat) (Q : Int32 → Mem → Prop) (l1 : Int32) (l2 : Int32) (l3 : Int32) (M : Mem) : Prop := w_X6_addTimed m 0 0 l1 l2 l3 M (fun v5 M6 => Q v5 M6)
theorem t_X6_rest_42 (m : Nat) (hm : MU m) (Q : Int32 → Mem → Prop) (l1 : Int32) (l2 : Int32) (l3 : Int32) (M : Mem) (h : w_X6_rest_42 m Q  l1 l2 l3 M) : Ex true mX6_rest 78 78 0 0 42 [.ref 0, .int l1, .int l2, .int l3] [] M Q := by
  unfold w_X6_rest_42 at h
  refine ex_aload_n dX6_rest_42 rfl ?_
  refine ex_iconst (v := 0) dX6_rest_43 (by decide) ?_
  refine ex_iconst (v := 0) dX6_rest_44 (by decide) ?_
  refine ex_iload_n dX6_rest_45 rfl ?_
  refine ex_iload_n dX6_rest_46 rfl ?_
  refine ex_iload_n dX6_rest_47 rfl ?_
  refine ex_invV (k := 0) (ci := 6) (as := [.int 0, .int 0, .int l1, .int l2, .int l3]) (L2 := [.ref 0, .int 0, .int 0, .int l1, .int l2, .int l3, .null, .null]) (st := []) 0 0 dX6_rest_48 lk_X6_124 sl_X6_addTimed (rmK_of rfl) (by decide) rfl ⟨by decide, rfl⟩ rfl (Nat.le_of_ble_eq_true rfl) (Nat.le_of_ble_eq_true rfl) (t_X6_addTimed m hm 0 0 l1 l2 l3 M _ h) (fun v5 M6 h => ?_)
  show Ex true mX6_rest 78 78 0 0 51 [.ref 0, .int l1, .int l2, .int l3] [.int v5] M6 Q
  exact ex_iret dX6_rest_51 rfl rfl rfl h
def w_X6_rest (m : Nat) (p1 : Int32) (p2 : Int32) (p3 : Int32) (M : Mem) (Q : Int32 → Mem → Prop) : Prop := w_X6_isKind p1 M (fun v1 M2 => ((v1 = 0) → (Q (-2) M2)) ∧ (¬ (v1 = 0) → (((p2 < 0) → (Q (-2) M2)) ∧ (¬ (p2 < 0) → (((2 < p2) → (Q (-2) M2)) ∧ (¬ (2 < p2) → (w_X6_isDots p3 M2 (fun v3 M4 => (¬ (v3 = 0) → ((¬ (p2 = 2) → (w_X6_rest_42 m Q  p1 p2 p3 M4)) ∧ ((p2 = 2) → ((¬ (p1 = 0) → (Q (-2) M4)) ∧ ((p1 = 0) → (((p3 = 0) → (w_X6_rest_42 m Q  p1 p2 p3 M4)) ∧ (¬ (p3 = 0) → (Q (-2) M4)))))))) ∧ ((v3 = 0) → (Q (-2) M4))))))))))
theorem t_X6_rest (m : Nat) (hm : MU m) (p1 : Int32) (p2 : Int32) (p3 : Int32) (M : Mem) (Q : Int32 → Mem → Prop) (h : w_X6_rest m p1 p2 p3 M Q) : Ex true mX6_rest 78 78 0 0 0 [.ref 0, .int p1, .int p2, .int p3] [] M Q := by
  unfold w_X6_rest at h
  refine ex_iload_n dX6_rest_0 rfl ?_
  refine ex_invS (as := [.int p1]) (L2 := [.int p1]) (st := []) 0 0 dX6_rest_1 lk_X6_118 sl_X6_isKind (rmK_of rfl) rfl (Nat.le_of_ble_eq_true rfl) (Nat.le_of_ble_eq_true rfl) (t_X6_isKind   p1 M _ h) (fun v1 M2 h => ?_)
  show Ex true mX6_rest 78 78 0 0 4 [.ref 0, .int p1, .int p2, .int p3] [.int v1] M2 Q
  refine ex_if_eq (tgt := 23) dX6_rest_4 (by decide) (fun c_4 => ?_) (fun c_4 => ?_)
  · replace h := h.1 c_4
    refine ex_bipush (v := (-2)) dX6_rest_23 (by decide) ?_
    exact ex_iret dX6_rest_25 rfl rfl rfl h
  · replace h := h.2 c_4
    refine ex_iload_n dX6_rest_7 rfl ?_
    refine ex_if_lt (tgt := 23) dX6_rest_8 (by decide) (fun c_8 => ?_) (fun c_8 => ?_)
    · replace h := h.1 c_8
      refine ex_bipush (v := (-2)) dX6_rest_23 (by decide) ?_
      exact ex_iret dX6_rest_25 rfl rfl rfl h
    · replace h := h.2 c_8
      refine ex_iload_n dX6_rest_11 rfl ?_
      refine ex_iconst (v := 2) dX6_rest_12 (by decide) ?_
      refine ex_icmp_gt (tgt := 23) dX6_rest_13 (by decide) (fun c_13 => ?_) (fun c_13 => ?_)
      · replace h := h.1 c_13
        refine ex_bipush (v := (-2)) dX6_rest_23 (by decide) ?_
        exact ex_iret dX6_rest_25 rfl rfl rfl h
      · replace h := h.2 c_13
        refine ex_iload_n dX6_rest_16 rfl ?_
        refine ex_invS (as := [.int p3]) (L2 := [.int p3]) (st := []) 0 0 dX6_rest_17 lk_X6_121 sl_X6_isDots (rmK_of rfl) rfl (Nat.le_of_ble_eq_true rfl) (Nat.le_of_ble_eq_true rfl) (t_X6_isDots   p3 M2 _ h) (fun v3 M4 h => ?_)
        show Ex true mX6_rest 78 78 0 0 20 [.ref 0, .int p1, .int p2, .int p3] [.int v3] M4 Q
        refine ex_if_ne (tgt := 26) dX6_rest_20 (by decide) (fun c_20 => ?_) (fun c_20 => ?_)
        · replace h := h.1 c_20
          refine ex_iload_n dX6_rest_26 rfl ?_
          refine ex_iconst (v := 2) dX6_rest_27 (by decide) ?_
          refine ex_icmp_ne (tgt := 42) dX6_rest_28 (by decide) (fun c_28 => ?_) (fun c_28 => ?_)
          · replace h := h.1 c_28
            exact t_X6_rest_42 m hm  Q   p1 p2 p3 M4 h
          · replace h := h.2 c_28
            refine ex_iload_n dX6_rest_31 rfl ?_
            refine ex_if_ne (tgt := 39) dX6_rest_32 (by decide) (fun c_32 => ?_) (fun c_32 => ?_)
            · replace h := h.1 c_32
              refine ex_bipush (v := (-2)) dX6_rest_39 (by decide) ?_
              exact ex_iret dX6_rest_41 rfl rfl rfl h
            · replace h := h.2 c_32
              refine ex_iload_n dX6_rest_35 rfl ?_
              refine ex_if_eq (tgt := 42) dX6_rest_36 (by decide) (fun c_36 => ?_) (fun c_36 => ?_)
              · replace h := h.1 c_36
                exact t_X6_rest_42 m hm  Q   p1 p2 p3 M4 h
              · replace h := h.2 c_36
                refine ex_bipush (v := (-2)) dX6_rest_39 (by decide) ?_
                exact ex_iret dX6_rest_41 rfl rfl rfl h
        · replace h := h.2 c_20
          refine ex_bipush (v := (-2)) dX6_rest_23 (by decide) ?_
          exact ex_iret dX6_rest_25 rfl rfl rfl h
def w_X6_interval (m : Nat) (p1 : Int32) (p2 : Int32) (M : Mem) (Q : Int32 → Mem → Prop) : Prop := ((p1 < 2) → (Q (-2) M)) ∧ (¬ (p1 < 2) → (((8 < p1) → (Q (-2) M)) ∧ (¬ (8 < p1) → (w_X6_isSign p2 M (fun v1 M2 => (¬ (v1 = 0) → ((M2 0 2 = nI m) ∧ (∀ x4 : Int32, x4 = ((M2 m 3) - 1) → ((x4 < 0) → (Q (-3) M2)) ∧ (¬ (x4 < 0) → ((M2 0 2 = nI m) ∧ (w_X0_isNote m x4 M2 (fun v6 M7 => ((v6 = 0) → (Q (-3) M7)) ∧ (¬ (v6 = 0) → ((M7 0 2 = nI m) ∧ ((M7 0 2 = nI m) ∧ (w_X0_intervalPitch m x4 p1 (M7 m 1) M7 (fun v10 M11 => w_X6_isPitch v10 M11 (fun v12 M13 => (¬ (v12 = 0) → ((M13 0 2 = nI m) ∧ ((vp_in x4 600) ∧ ((((M13 (m + 13) (Int32.toNatClampNeg x4)) < 4) → ((M13 0 2 = nI m) ∧ (w_X0_addInterval m p1 p2 M13 (fun v17 M18 => (M18 0 2 = nI m) ∧ ((vp_in x4 600) ∧ (Q (M18 (m + 13) (Int32.toNatClampNeg x4)) M18)))))) ∧ (¬ ((M13 (m + 13) (Int32.toNatClampNeg x4)) < 4) → (Q (-4) M13)))))) ∧ ((v12 = 0) → (Q (-3) M13))))))))))))))) ∧ ((v1 = 0) → (Q (-2) M2)))))))
theorem t_X6_interval (m : Nat) (hm : MU m) (p1 : Int32) (p2 : Int32) (M : Mem) (Q : Int32 → Mem → Prop) (h : w_X6_interval m p1 p2 M Q) : Ex true mX6_interval 78 78 0 0 0 [.ref 0, .int p1, .int p2, .null] [] M Q := by
  unfold w_X6_interval at h
  refine ex_iload_n dX6_interval_0 rfl ?_
  refine ex_iconst (v := 2) dX6_interval_1 (by decide) ?_
  refine ex_icmp_lt (tgt := 18) dX6_interval_2 (by decide) (fun c_2 => ?_) (fun c_2 => ?_)
  · replace h := h.1 c_2
    refine ex_bipush (v := (-2)) dX6_interval_18 (by decide) ?_
    exact ex_iret dX6_interval_20 rfl rfl rfl h
  · replace h := h.2 c_2
    refine ex_iload_n dX6_interval_5 rfl ?_
    refine ex_bipush (v := 8) dX6_interval_6 (by decide) ?_
    refine ex_icmp_gt (tgt := 18) dX6_interval_8 (by decide) (fun c_8 => ?_) (fun c_8 => ?_)
    · replace h := h.1 c_8
      refine ex_bipush (v := (-2)) dX6_interval_18 (by decide) ?_
      exact ex_iret dX6_interval_20 rfl rfl rfl h
    · replace h := h.2 c_8
      refine ex_iload_n dX6_interval_11 rfl ?_
      refine ex_invS (as := [.int p2]) (L2 := [.int p2]) (st := []) 0 0 dX6_interval_12 lk_X6_115 sl_X6_isSign (rmK_of rfl) rfl (Nat.le_of_ble_eq_true rfl) (Nat.le_of_ble_eq_true rfl) (t_X6_isSign   p2 M _ h) (fun v1 M2 h => ?_)
      show Ex true mX6_interval 78 78 0 0 15 [.ref 0, .int p1, .int p2, .null] [.int v1] M2 Q
      refine ex_if_ne (tgt := 21) dX6_interval_15 (by decide) (fun c_15 => ?_) (fun c_15 => ?_)
      · replace h := h.1 c_15
        refine ex_aload_n dX6_interval_21 rfl ?_
        obtain ⟨g3, h⟩ := h
        refine ex_getD (ci := 6) (j := 2) (v := m) dX6_interval_22 (by decide) rfl rfl lk_X6_22 rfl g3 (mu_100 hm) ?_
        refine ex_getI (ci := 0) (j := 3) dX6_interval_25 (mu_l hm 0 (by decide)) (mu_S0 hm) rfl lk_X6_138 ?_
        refine ex_iconst (v := 1) dX6_interval_28 (by decide) ?_
        refine ex_isub dX6_interval_29 ?_
        refine ex_top (fun x4 ex4 => ?_)
        replace h := h x4 ex4
        refine ex_istore_n (L2 := [.ref 0, .int p1, .int p2, .int x4]) dX6_interval_30 (by decide) rfl rfl ?_
        refine ex_iload_n dX6_interval_31 rfl ?_
        refine ex_if_lt (tgt := 68) dX6_interval_32 (by decide) (fun c_32 => ?_) (fun c_32 => ?_)
        · replace h := h.1 c_32
          refine ex_bipush (v := (-3)) dX6_interval_68 (by decide) ?_
          exact ex_iret dX6_interval_70 rfl rfl rfl h
        · replace h := h.2 c_32
          refine ex_aload_n dX6_interval_35 rfl ?_
          obtain ⟨g5, h⟩ := h
          refine ex_getD (ci := 6) (j := 2) (v := m) dX6_interval_36 (by decide) rfl rfl lk_X6_22 rfl g5 (mu_100 hm) ?_
          refine ex_iload_n dX6_interval_39 rfl ?_
          refine ex_invV (k := m) (ci := 0) (as := [.int x4]) (L2 := [.ref m, .int x4]) (st := []) 0 0 dX6_interval_40 lk_X6_144 sl_X0_isNote (rmK_of rfl) (mu_l hm 0 (by decide)) (mu_S0 hm) ⟨by decide, rfl⟩ rfl (Nat.le_of_ble_eq_true rfl) (Nat.le_of_ble_eq_true rfl) (t_X0_isNote m hm x4 M2 _ h) (fun v6 M7 h => ?_)
          show Ex true mX6_interval 78 78 0 0 43 [.ref 0, .int p1, .int p2, .int x4] [.int v6] M7 Q
          refine ex_if_eq (tgt := 68) dX6_interval_43 (by decide) (fun c_43 => ?_) (fun c_43 => ?_)
          · replace h := h.1 c_43
            refine ex_bipush (v := (-3)) dX6_interval_68 (by decide) ?_
            exact ex_iret dX6_interval_70 rfl rfl rfl h
          · replace h := h.2 c_43
            refine ex_aload_n dX6_interval_46 rfl ?_
            obtain ⟨g8, h⟩ := h
            refine ex_getD (ci := 6) (j := 2) (v := m) dX6_interval_47 (by decide) rfl rfl lk_X6_22 rfl g8 (mu_100 hm) ?_
            refine ex_iload_n dX6_interval_50 rfl ?_
            refine ex_iload_n dX6_interval_51 rfl ?_
            refine ex_aload_n dX6_interval_52 rfl ?_
            obtain ⟨g9, h⟩ := h
            refine ex_getD (ci := 6) (j := 2) (v := m) dX6_interval_53 (by decide) rfl rfl lk_X6_22 rfl g9 (mu_100 hm) ?_
            refine ex_getI (ci := 0) (j := 1) dX6_interval_56 (mu_l hm 0 (by decide)) (mu_S0 hm) rfl lk_X6_87 ?_
            refine ex_invV (k := m) (ci := 0) (as := [.int x4, .int p1, .int (M7 m 1)]) (L2 := [.ref m, .int x4, .int p1, .int (M7 m 1)]) (st := []) 0 0 dX6_interval_59 lk_X6_147 sl_X0_intervalPitch (rmK_of rfl) (mu_l hm 0 (by decide)) (mu_S0 hm) ⟨by decide, rfl⟩ rfl (Nat.le_of_ble_eq_true rfl) (Nat.le_of_ble_eq_true rfl) (t_X0_intervalPitch m hm x4 p1 (M7 m 1) M7 _ h) (fun v10 M11 h => ?_)
            show Ex true mX6_interval 78 78 0 0 62 [.ref 0, .int p1, .int p2, .int x4] [.int v10] M11 Q
            refine ex_invS (as := [.int v10]) (L2 := [.int v10]) (st := []) 0 0 dX6_interval_62 lk_X6_112 sl_X6_isPitch (rmK_of rfl) rfl (Nat.le_of_ble_eq_true rfl) (Nat.le_of_ble_eq_true rfl) (t_X6_isPitch   v10 M11 _ h) (fun v12 M13 h => ?_)
            show Ex true mX6_interval 78 78 0 0 65 [.ref 0, .int p1, .int p2, .int x4] [.int v12] M13 Q
            refine ex_if_ne (tgt := 71) dX6_interval_65 (by decide) (fun c_65 => ?_) (fun c_65 => ?_)
            · replace h := h.1 c_65
              refine ex_aload_n dX6_interval_71 rfl ?_
              obtain ⟨g14, h⟩ := h
              refine ex_getD (ci := 6) (j := 2) (v := m) dX6_interval_72 (by decide) rfl rfl lk_X6_22 rfl g14 (mu_100 hm) ?_
              refine ex_getR (ci := 0) (j := 16) (v := m + 13) dX6_interval_75 (mu_l hm 0 (by decide)) (mu_S0 hm) rfl lk_X6_150 (mu_F16 hm) (by omega) ?_
              refine ex_iload_n dX6_interval_78 rfl ?_
              obtain ⟨b15, h⟩ := h
              refine ex_iald dX6_interval_79 (mu_l hm 13 (by decide)) (mu_S13 hm) b15 ?_
              refine ex_iconst (v := 4) dX6_interval_80 (by decide) ?_
              refine ex_icmp_lt (tgt := 87) dX6_interval_81 (by decide) (fun c_81 => ?_) (fun c_81 => ?_)
              · replace h := h.1 c_81
                refine ex_aload_n dX6_interval_87 rfl ?_
                obtain ⟨g16, h⟩ := h
                refine ex_getD (ci := 6) (j := 2) (v := m) dX6_interval_88 (by decide) rfl rfl lk_X6_22 rfl g16 (mu_100 hm) ?_
                refine ex_iload_n dX6_interval_91 rfl ?_
                refine ex_iload_n dX6_interval_92 rfl ?_
                refine ex_invV (k := m) (ci := 0) (as := [.int p1, .int p2]) (L2 := [.ref m, .int p1, .int p2, .null]) (st := []) 0 0 dX6_interval_93 lk_X6_153 sl_X0_addInterval (rmK_of rfl) (mu_l hm 0 (by decide)) (mu_S0 hm) ⟨by decide, rfl⟩ rfl (Nat.le_of_ble_eq_true rfl) (Nat.le_of_ble_eq_true rfl) (t_X0_addInterval m hm p1 p2 M13 _ h) (fun v17 M18 h => ?_)
                show Ex true mX6_interval 78 78 0 0 96 [.ref 0, .int p1, .int p2, .int x4] [] M18 Q
                refine ex_aload_n dX6_interval_96 rfl ?_
                obtain ⟨g19, h⟩ := h
                refine ex_getD (ci := 6) (j := 2) (v := m) dX6_interval_97 (by decide) rfl rfl lk_X6_22 rfl g19 (mu_100 hm) ?_
                refine ex_getR (ci := 0) (j := 16) (v := m + 13) dX6_interval_100 (mu_l hm 0 (by decide)) (mu_S0 hm) rfl lk_X6_150 (mu_F16 hm) (by omega) ?_
                refine ex_iload_n dX6_interval_103 rfl ?_
                obtain ⟨b20, h⟩ := h
                refine ex_iald dX6_interval_104 (mu_l hm 13 (by decide)) (mu_S13 hm) b20 ?_
                exact ex_iret dX6_interval_105 rfl rfl rfl h
              · replace h := h.2 c_81
                refine ex_bipush (v := (-4)) dX6_interval_84 (by decide) ?_
                exact ex_iret dX6_interval_86 rfl rfl rfl h
            · replace h := h.2 c_65
              refine ex_bipush (v := (-3)) dX6_interval_68 (by decide) ?_
              exact ex_iret dX6_interval_70 rfl rfl rfl h
      · replace h := h.2 c_15
        refine ex_bipush (v := (-2)) dX6_interval_18 (by decide) ?_
        exact ex_iret dX6_interval_20 rfl rfl rfl h
def w_X6_tie (m : Nat) (p1 : Int32) (M : Mem) (Q : Int32 → Mem → Prop) : Prop := (M 0 2 = nI m) ∧ (∀ x2 : Int32, x2 = ((M m 3) - 1) → ((x2 < 0) → (Q (-3) M)) ∧ (¬ (x2 < 0) → ((M 0 2 = nI m) ∧ (w_X0_isNote m x2 M (fun v4 M5 => (¬ (v4 = 0) → ((M5 0 2 = nI m) ∧ ((vp_in x2 600) ∧ (∀ x8 : Int32, x8 = (M5 (m + 11) (Int32.toNatClampNeg x2)) → (M5 0 2 = nI m) ∧ (∀ z10 : Int32, z10 = (if p1 = 0 then 0 else 1) → (vp_in x2 600) ∧ (∀ M12 : Mem, M12 = (mset M5 (m + 11) (Int32.toNatClampNeg x2) z10) → Q x8 M12)))))) ∧ ((v4 = 0) → (Q (-3) M5)))))))
theorem t_X6_tie (m : Nat) (hm : MU m) (p1 : Int32) (M : Mem) (Q : Int32 → Mem → Prop) (h : w_X6_tie m p1 M Q) : Ex true mX6_tie 78 78 0 0 0 [.ref 0, .int p1, .null, .null] [] M Q := by
  unfold w_X6_tie at h
  refine ex_aload_n dX6_tie_0 rfl ?_
  obtain ⟨g1, h⟩ := h
  refine ex_getD (ci := 6) (j := 2) (v := m) dX6_tie_1 (by decide) rfl rfl lk_X6_22 rfl g1 (mu_100 hm) ?_
  refine ex_getI (ci := 0) (j := 3) dX6_tie_4 (mu_l hm 0 (by decide)) (mu_S0 hm) rfl lk_X6_138 ?_
  refine ex_iconst (v := 1) dX6_tie_7 (by decide) ?_
  refine ex_isub dX6_tie_8 ?_
  refine ex_top (fun x2 ex2 => ?_)
  replace h := h x2 ex2
  refine ex_istore_n (L2 := [.ref 0, .int p1, .int x2, .null]) dX6_tie_9 (by decide) rfl rfl ?_
  refine ex_iload_n dX6_tie_10 rfl ?_
  refine ex_if_lt (tgt := 25) dX6_tie_11 (by decide) (fun c_11 => ?_) (fun c_11 => ?_)
  · replace h := h.1 c_11
    refine ex_bipush (v := (-3)) dX6_tie_25 (by decide) ?_
    exact ex_iret dX6_tie_27 rfl rfl rfl h
  · replace h := h.2 c_11
    refine ex_aload_n dX6_tie_14 rfl ?_
    obtain ⟨g3, h⟩ := h
    refine ex_getD (ci := 6) (j := 2) (v := m) dX6_tie_15 (by decide) rfl rfl lk_X6_22 rfl g3 (mu_100 hm) ?_
    refine ex_iload_n dX6_tie_18 rfl ?_
    refine ex_invV (k := m) (ci := 0) (as := [.int x2]) (L2 := [.ref m, .int x2]) (st := []) 0 0 dX6_tie_19 lk_X6_144 sl_X0_isNote (rmK_of rfl) (mu_l hm 0 (by decide)) (mu_S0 hm) ⟨by decide, rfl⟩ rfl (Nat.le_of_ble_eq_true rfl) (Nat.le_of_ble_eq_true rfl) (t_X0_isNote m hm x2 M _ h) (fun v4 M5 h => ?_)
    show Ex true mX6_tie 78 78 0 0 22 [.ref 0, .int p1, .int x2, .null] [.int v4] M5 Q
    refine ex_if_ne (tgt := 28) dX6_tie_22 (by decide) (fun c_22 => ?_) (fun c_22 => ?_)
    · replace h := h.1 c_22
      refine ex_aload_n dX6_tie_28 rfl ?_
      obtain ⟨g6, h⟩ := h
      refine ex_getD (ci := 6) (j := 2) (v := m) dX6_tie_29 (by decide) rfl rfl lk_X6_22 rfl g6 (mu_100 hm) ?_
      refine ex_getR (ci := 0) (j := 14) (v := m + 11) dX6_tie_32 (mu_l hm 0 (by decide)) (mu_S0 hm) rfl lk_X6_157 (mu_F14 hm) (by omega) ?_
      refine ex_iload_n dX6_tie_35 rfl ?_
      obtain ⟨b7, h⟩ := h
      refine ex_iald dX6_tie_36 (mu_l hm 11 (by decide)) (mu_S11 hm) b7 ?_
      refine ex_top (fun x8 ex8 => ?_)
      replace h := h x8 ex8
      refine ex_istore_n (L2 := [.ref 0, .int p1, .int x2, .int x8]) dX6_tie_37 (by decide) rfl rfl ?_
      refine ex_aload_n dX6_tie_38 rfl ?_
      obtain ⟨g9, h⟩ := h
      refine ex_getD (ci := 6) (j := 2) (v := m) dX6_tie_39 (by decide) rfl rfl lk_X6_22 rfl g9 (mu_100 hm) ?_
      refine ex_getR (ci := 0) (j := 14) (v := m + 11) dX6_tie_42 (mu_l hm 0 (by decide)) (mu_S0 hm) rfl lk_X6_157 (mu_F14 hm) (by omega) ?_
      refine ex_iload_n dX6_tie_45 rfl ?_
      refine ex_iload_n dX6_tie_46 rfl ?_
      have hJ13 : ∀ z10 : Int32, z10 = (if p1 = 0 then 0 else 1) → Ex true mX6_tie 78 78 0 0 55 [.ref 0, .int p1, .int x2, .int x8] [.int z10, .int x2, .ref (m + 11)] M5 Q := by
        intro z10 ez10
        replace h := h z10 ez10
        obtain ⟨b11, h⟩ := h
        refine ex_iast dX6_tie_55 (mu_l hm 11 (by decide)) (mu_S11 hm) b11 ?_
        refine ex_nmM (fun M12 eM12 => ?_)
        replace h := h M12 eM12
        refine ex_iload_n dX6_tie_56 rfl ?_
        exact ex_iret dX6_tie_57 rfl rfl rfl h
      refine ex_if_eq (tgt := 54) dX6_tie_47 (by decide) (fun c_47 => ?_) (fun c_47 => ?_)
      ·
        refine ex_iconst (v := 0) dX6_tie_54 (by decide) ?_
        exact hJ13 _ (by rw [if_pos c_47])
      ·
        refine ex_iconst (v := 1) dX6_tie_50 (by decide) ?_
        refine ex_goto (tgt := 55) dX6_tie_51 (by decide) ?_
        exact hJ13 _ (by rw [if_neg c_47])
    · replace h := h.2 c_22
      refine ex_bipush (v := (-3)) dX6_tie_25 (by decide) ?_
      exact ex_iret dX6_tie_27 rfl rfl rfl h
def w_X6_slur (m : Nat) (p1 : Int32) (p2 : Int32) (M : Mem) (Q : Int32 → Mem → Prop) : Prop := ((p1 < 0) → (Q (-1) M)) ∧ (¬ (p1 < 0) → ((M 0 2 = nI m) ∧ (((p1 < (M m 3)) → ((M 0 2 = nI m) ∧ ((vp_in p1 600) ∧ (∀ x4 : Int32, x4 = (M (m + 12) (Int32.toNatClampNeg p1)) → (M 0 2 = nI m) ∧ (∀ z6 : Int32, z6 = (if p2 = 0 then 0 else 1) → (vp_in p1 600) ∧ (∀ M8 : Mem, M8 = (mset M (m + 12) (Int32.toNatClampNeg p1) z6) → Q x4 M8)))))) ∧ (¬ (p1 < (M m 3)) → (Q (-1) M)))))
theorem t_X6_slur (m : Nat) (hm : MU m) (p1 : Int32) (p2 : Int32) (M : Mem) (Q : Int32 → Mem → Prop) (h : w_X6_slur m p1 p2 M Q) : Ex true mX6_slur 78 78 0 0 0 [.ref 0, .int p1, .int p2, .null] [] M Q := by
  unfold w_X6_slur at h
  refine ex_iload_n dX6_slur_0 rfl ?_
  refine ex_if_lt (tgt := 15) dX6_slur_1 (by decide) (fun c_1 => ?_) (fun c_1 => ?_)
  · replace h := h.1 c_1
    refine ex_iconst (v := (-1)) dX6_slur_15 (by decide) ?_
    exact ex_iret dX6_slur_16 rfl rfl rfl h
  · replace h := h.2 c_1
    refine ex_iload_n dX6_slur_4 rfl ?_
    refine ex_aload_n dX6_slur_5 rfl ?_
    obtain ⟨g1, h⟩ := h
    refine ex_getD (ci := 6) (j := 2) (v := m) dX6_slur_6 (by decide) rfl rfl lk_X6_22 rfl g1 (mu_100 hm) ?_
    refine ex_getI (ci := 0) (j := 3) dX6_slur_9 (mu_l hm 0 (by decide)) (mu_S0 hm) rfl lk_X6_138 ?_
    refine ex_icmp_lt (tgt := 17) dX6_slur_12 (by decide) (fun c_12 => ?_) (fun c_12 => ?_)
    · replace h := h.1 c_12
      refine ex_aload_n dX6_slur_17 rfl ?_
      obtain ⟨g2, h⟩ := h
      refine ex_getD (ci := 6) (j := 2) (v := m) dX6_slur_18 (by decide) rfl rfl lk_X6_22 rfl g2 (mu_100 hm) ?_
      refine ex_getR (ci := 0) (j := 15) (v := m + 12) dX6_slur_21 (mu_l hm 0 (by decide)) (mu_S0 hm) rfl lk_X6_160 (mu_F15 hm) (by omega) ?_
      refine ex_iload_n dX6_slur_24 rfl ?_
      obtain ⟨b3, h⟩ := h
      refine ex_iald dX6_slur_25 (mu_l hm 12 (by decide)) (mu_S12 hm) b3 ?_
      refine ex_top (fun x4 ex4 => ?_)
      replace h := h x4 ex4
      refine ex_istore_n (L2 := [.ref 0, .int p1, .int p2, .int x4]) dX6_slur_26 (by decide) rfl rfl ?_
      refine ex_aload_n dX6_slur_27 rfl ?_
      obtain ⟨g5, h⟩ := h
      refine ex_getD (ci := 6) (j := 2) (v := m) dX6_slur_28 (by decide) rfl rfl lk_X6_22 rfl g5 (mu_100 hm) ?_
      refine ex_getR (ci := 0) (j := 15) (v := m + 12) dX6_slur_31 (mu_l hm 0 (by decide)) (mu_S0 hm) rfl lk_X6_160 (mu_F15 hm) (by omega) ?_
      refine ex_iload_n dX6_slur_34 rfl ?_
      refine ex_iload_n dX6_slur_35 rfl ?_
      have hJ9 : ∀ z6 : Int32, z6 = (if p2 = 0 then 0 else 1) → Ex true mX6_slur 78 78 0 0 44 [.ref 0, .int p1, .int p2, .int x4] [.int z6, .int p1, .ref (m + 12)] M Q := by
        intro z6 ez6
        replace h := h z6 ez6
        obtain ⟨b7, h⟩ := h
        refine ex_iast dX6_slur_44 (mu_l hm 12 (by decide)) (mu_S12 hm) b7 ?_
        refine ex_nmM (fun M8 eM8 => ?_)
        replace h := h M8 eM8
        refine ex_iload_n dX6_slur_45 rfl ?_
        exact ex_iret dX6_slur_46 rfl rfl rfl h
      refine ex_if_eq (tgt := 43) dX6_slur_36 (by decide) (fun c_36 => ?_) (fun c_36 => ?_)
      ·
        refine ex_iconst (v := 0) dX6_slur_43 (by decide) ?_
        exact hJ9 _ (by rw [if_pos c_36])
      ·
        refine ex_iconst (v := 1) dX6_slur_39 (by decide) ?_
        refine ex_goto (tgt := 44) dX6_slur_40 (by decide) ?_
        exact hJ9 _ (by rw [if_neg c_36])
    · replace h := h.2 c_12
      refine ex_iconst (v := (-1)) dX6_slur_15 (by decide) ?_
      exact ex_iret dX6_slur_16 rfl rfl rfl h
def w_X6_write (r r2 m : Nat) (p1 : Int32) (M : Mem) (Q : Int32 → Mem → Prop) : Prop := ((p1 < 12) → (Q (-2) M)) ∧ (¬ (p1 < 12) → (((p1 ≤ 200) → ((M 0 2 = nI m) ∧ ((((M m 2) = 0) → (Q (-3) M)) ∧ (¬ ((M m 2) = 0) → ((M 0 2 = nI m) ∧ (w_X0_endsWhole m M (fun v3 M4 => (¬ (v3 = 0) → ((M4 0 2 = nI m) ∧ ((M4 0 1 = nI r2) ∧ (w_X4_run r2 m p1 M4 (fun v7 M8 => ((v7 < 0) → (Q v7 M8)) ∧ (¬ (v7 < 0) → ((M8 0 0 = nI r) ∧ ((M8 0 1 = nI r2) ∧ (∀ M11 : Mem, M11 = (mset M8 0 0 (nI r2)) → ∀ M12 : Mem, M12 = (mset M11 0 1 (nI r)) → Q v7 M12))))))))) ∧ ((v3 = 0) → (Q (-3) M4))))))))) ∧ (¬ (p1 ≤ 200) → (Q (-2) M))))
theorem t_X6_write (r r2 m : Nat) (hr : RW r) (hr2 : RW r2) (hm : MU m) (p1 : Int32) (M : Mem) (Q : Int32 → Mem → Prop) (h : w_X6_write r r2 m p1 M Q) : Ex true mX6_write 78 78 0 0 0 [.ref 0, .int p1, .null, .null] [] M Q := by
  unfold w_X6_write at h
  refine ex_iload_n dX6_write_0 rfl ?_
  refine ex_bipush (v := 12) dX6_write_1 (by decide) ?_
  refine ex_icmp_lt (tgt := 13) dX6_write_3 (by decide) (fun c_3 => ?_) (fun c_3 => ?_)
  · replace h := h.1 c_3
    refine ex_bipush (v := (-2)) dX6_write_13 (by decide) ?_
    exact ex_iret dX6_write_15 rfl rfl rfl h
  · replace h := h.2 c_3
    refine ex_iload_n dX6_write_6 rfl ?_
    refine ex_sipush (v := 200) dX6_write_7 (by decide) ?_
    refine ex_icmp_le (tgt := 16) dX6_write_10 (by decide) (fun c_10 => ?_) (fun c_10 => ?_)
    · replace h := h.1 c_10
      refine ex_aload_n dX6_write_16 rfl ?_
      obtain ⟨g1, h⟩ := h
      refine ex_getD (ci := 6) (j := 2) (v := m) dX6_write_17 (by decide) rfl rfl lk_X6_22 rfl g1 (mu_100 hm) ?_
      refine ex_getI (ci := 0) (j := 2) dX6_write_20 (mu_l hm 0 (by decide)) (mu_S0 hm) rfl lk_X6_80 ?_
      refine ex_if_eq (tgt := 36) dX6_write_23 (by decide) (fun c_23 => ?_) (fun c_23 => ?_)
      · replace h := h.1 c_23
        refine ex_bipush (v := (-3)) dX6_write_36 (by decide) ?_
        exact ex_iret dX6_write_38 rfl rfl rfl h
      · replace h := h.2 c_23
        refine ex_aload_n dX6_write_26 rfl ?_
        obtain ⟨g2, h⟩ := h
        refine ex_getD (ci := 6) (j := 2) (v := m) dX6_write_27 (by decide) rfl rfl lk_X6_22 rfl g2 (mu_100 hm) ?_
        refine ex_invV (k := m) (ci := 0) (as := []) (L2 := [.ref m, .null]) (st := []) 0 0 dX6_write_30 lk_X6_90 sl_X0_endsWhole (rmK_of rfl) (mu_l hm 0 (by decide)) (mu_S0 hm) ⟨by decide, rfl⟩ rfl (Nat.le_of_ble_eq_true rfl) (Nat.le_of_ble_eq_true rfl) (t_X0_endsWhole m hm M _ h) (fun v3 M4 h => ?_)
        show Ex true mX6_write 78 78 0 0 33 [.ref 0, .int p1, .null, .null] [.int v3] M4 Q
        refine ex_if_ne (tgt := 39) dX6_write_33 (by decide) (fun c_33 => ?_) (fun c_33 => ?_)
        · replace h := h.1 c_33
          refine ex_aload_n dX6_write_39 rfl ?_
          refine ex_getR (ci := 6) (j := 6) (v := 42) dX6_write_40 (by decide) rfl rfl lk_X6_48 rfl (by decide) ?_
          refine ex_aload_n dX6_write_43 rfl ?_
          obtain ⟨g5, h⟩ := h
          refine ex_getD (ci := 6) (j := 2) (v := m) dX6_write_44 (by decide) rfl rfl lk_X6_22 rfl g5 (mu_100 hm) ?_
          refine ex_aload_n dX6_write_47 rfl ?_
          obtain ⟨g6, h⟩ := h
          refine ex_getD (ci := 6) (j := 1) (v := r2) dX6_write_48 (by decide) rfl rfl lk_X6_16 rfl g6 (rw_100 hr2) ?_
          refine ex_iload_n dX6_write_51 rfl ?_
          refine ex_invV (k := 42) (ci := 4) (as := [.ref m, .ref r2, .int p1]) (L2 := [.ref 42, .ref m, .ref r2, .int p1, .null, .null, .null]) (st := []) 0 0 dX6_write_52 lk_X6_163 sl_X4_run (rmK_of rfl) (by decide) rfl ⟨by decide, rfl⟩ rfl (Nat.le_of_ble_eq_true rfl) (Nat.le_of_ble_eq_true rfl) (t_X4_run r2 m hr2 hm p1 M4 _ h) (fun v7 M8 h => ?_)
          show Ex true mX6_write 78 78 0 0 55 [.ref 0, .int p1, .null, .null] [.int v7] M8 Q
          refine ex_istore_n (L2 := [.ref 0, .int p1, .int v7, .null]) dX6_write_55 (by decide) rfl rfl ?_
          refine ex_iload_n dX6_write_56 rfl ?_
          refine ex_if_lt (tgt := 78) dX6_write_57 (by decide) (fun c_57 => ?_) (fun c_57 => ?_)
          · replace h := h.1 c_57
            refine ex_iload_n dX6_write_78 rfl ?_
            exact ex_iret dX6_write_79 rfl rfl rfl h
          · replace h := h.2 c_57
            refine ex_aload_n dX6_write_60 rfl ?_
            obtain ⟨g9, h⟩ := h
            refine ex_getD (ci := 6) (j := 0) (v := r) dX6_write_61 (by decide) rfl rfl lk_X6_10 rfl g9 (rw_100 hr) ?_
            refine ex_astore_n (L2 := [.ref 0, .int p1, .int v7, .ref r]) dX6_write_64 (by decide) rfl rfl ?_
            refine ex_aload_n dX6_write_65 rfl ?_
            refine ex_aload_n dX6_write_66 rfl ?_
            obtain ⟨g10, h⟩ := h
            refine ex_getD (ci := 6) (j := 1) (v := r2) dX6_write_67 (by decide) rfl rfl lk_X6_16 rfl g10 (rw_100 hr2) ?_
            refine ex_putD (ci := 6) (j := 0) (v := r2) dX6_write_70 (by decide) rfl rfl lk_X6_10 (Or.inl rfl) rfl (rw_78 hr2) (rw_100 hr2) (fun _ => ⟨rfl, rfl⟩) ?_
            refine ex_nmM (fun M11 eM11 => ?_)
            replace h := h M11 eM11
            refine ex_aload_n dX6_write_73 rfl ?_
            refine ex_aload_n dX6_write_74 rfl ?_
            refine ex_putD (ci := 6) (j := 1) (v := r) dX6_write_75 (by decide) rfl rfl lk_X6_16 (Or.inl rfl) rfl (rw_78 hr) (rw_100 hr) (fun _ => ⟨rfl, rfl⟩) ?_
            refine ex_nmM (fun M12 eM12 => ?_)
            replace h := h M12 eM12
            refine ex_iload_n dX6_write_78 rfl ?_
            exact ex_iret dX6_write_79 rfl rfl rfl h
        · replace h := h.2 c_33
          refine ex_bipush (v := (-3)) dX6_write_36 (by decide) ?_
          exact ex_iret dX6_write_38 rfl rfl rfl h
    · replace h := h.2 c_10
      refine ex_bipush (v := (-2)) dX6_write_13 (by decide) ?_
      exact ex_iret dX6_write_15 rfl rfl rfl h
def w_X6_wants (p1 : Int32) (p2 : Int32) (M : Mem) (Q : Int32 → Mem → Prop) : Prop := w_X6_isPitch p1 M (fun v1 M2 => ((v1 = 0) → (Q (-2) M2)) ∧ (¬ (v1 = 0) → (w_X6_isPitch p2 M2 (fun v3 M4 => (¬ (v3 = 0) → (w_X1_isLeap p1 p2 M4 (fun v5 M6 => ∀ z7 : Int32, z7 = (if v5 = 0 then 0 else 1) → Q z7 M6))) ∧ ((v3 = 0) → (Q (-2) M4))))))
theorem t_X6_wants (p1 : Int32) (p2 : Int32) (M : Mem) (Q : Int32 → Mem → Prop) (h : w_X6_wants  p1 p2 M Q) : Ex true mX6_wants 78 78 0 0 0 [.ref 0, .int p1, .int p2] [] M Q := by
  unfold w_X6_wants at h
  refine ex_iload_n dX6_wants_0 rfl ?_
  refine ex_invS (as := [.int p1]) (L2 := [.int p1]) (st := []) 0 0 dX6_wants_1 lk_X6_112 sl_X6_isPitch (rmK_of rfl) rfl (Nat.le_of_ble_eq_true rfl) (Nat.le_of_ble_eq_true rfl) (t_X6_isPitch   p1 M _ h) (fun v1 M2 h => ?_)
  show Ex true mX6_wants 78 78 0 0 4 [.ref 0, .int p1, .int p2] [.int v1] M2 Q
  refine ex_if_eq (tgt := 14) dX6_wants_4 (by decide) (fun c_4 => ?_) (fun c_4 => ?_)
  · replace h := h.1 c_4
    refine ex_bipush (v := (-2)) dX6_wants_14 (by decide) ?_
    exact ex_iret dX6_wants_16 rfl rfl rfl h
  · replace h := h.2 c_4
    refine ex_iload_n dX6_wants_7 rfl ?_
    refine ex_invS (as := [.int p2]) (L2 := [.int p2]) (st := []) 0 0 dX6_wants_8 lk_X6_112 sl_X6_isPitch (rmK_of rfl) rfl (Nat.le_of_ble_eq_true rfl) (Nat.le_of_ble_eq_true rfl) (t_X6_isPitch   p2 M2 _ h) (fun v3 M4 h => ?_)
    show Ex true mX6_wants 78 78 0 0 11 [.ref 0, .int p1, .int p2] [.int v3] M4 Q
    refine ex_if_ne (tgt := 17) dX6_wants_11 (by decide) (fun c_11 => ?_) (fun c_11 => ?_)
    · replace h := h.1 c_11
      refine ex_iload_n dX6_wants_17 rfl ?_
      refine ex_iload_n dX6_wants_18 rfl ?_
      refine ex_invS (as := [.int p1, .int p2]) (L2 := [.int p1, .int p2, .null]) (st := []) 0 0 dX6_wants_19 lk_X6_166 sl_X1_isLeap (rmK_of rfl) rfl (Nat.le_of_ble_eq_true rfl) (Nat.le_of_ble_eq_true rfl) (t_X1_isLeap   p1 p2 M4 _ h) (fun v5 M6 h => ?_)
      show Ex true mX6_wants 78 78 0 0 22 [.ref 0, .int p1, .int p2] [.int v5] M6 Q
      have hJ8 : ∀ z7 : Int32, z7 = (if v5 = 0 then 0 else 1) → Ex true mX6_wants 78 78 0 0 30 [.ref 0, .int p1, .int p2] [.int z7] M6 Q := by
        intro z7 ez7
        replace h := h z7 ez7
        exact ex_iret dX6_wants_30 rfl rfl rfl h
      refine ex_if_eq (tgt := 29) dX6_wants_22 (by decide) (fun c_22 => ?_) (fun c_22 => ?_)
      ·
        refine ex_iconst (v := 0) dX6_wants_29 (by decide) ?_
        exact hJ8 _ (by rw [if_pos c_22])
      ·
        refine ex_iconst (v := 1) dX6_wants_25 (by decide) ?_
        refine ex_goto (tgt := 30) dX6_wants_26 (by decide) ?_
        exact hJ8 _ (by rw [if_neg c_22])
    · replace h := h.2 c_11
      refine ex_bipush (v := (-2)) dX6_wants_14 (by decide) ?_
      exact ex_iret dX6_wants_16 rfl rfl rfl h
def w_X6_ways (m : Nat) (p1 : Int32) (p2 : Int32) (M : Mem) (Q : Int32 → Mem → Prop) : Prop := (M 0 2 = nI m) ∧ (w_X0_slotOf m p1 p2 M (fun v2 M3 => ((0 ≤ v2) → ((M3 0 2 = nI m) ∧ (w_X5_countWays m v2 M3 (fun v5 M6 => Q v5 M6)))) ∧ (¬ (0 ≤ v2) → (Q (-1) M3))))
theorem t_X6_ways (m : Nat) (hm : MU m) (p1 : Int32) (p2 : Int32) (M : Mem) (Q : Int32 → Mem → Prop) (h : w_X6_ways m p1 p2 M Q) : Ex true mX6_ways 78 78 0 0 0 [.ref 0, .int p1, .int p2, .null] [] M Q := by
  unfold w_X6_ways at h
  refine ex_aload_n dX6_ways_0 rfl ?_
  obtain ⟨g1, h⟩ := h
  refine ex_getD (ci := 6) (j := 2) (v := m) dX6_ways_1 (by decide) rfl rfl lk_X6_22 rfl g1 (mu_100 hm) ?_
  refine ex_iload_n dX6_ways_4 rfl ?_
  refine ex_iload_n dX6_ways_5 rfl ?_
  refine ex_invV (k := m) (ci := 0) (as := [.int p1, .int p2]) (L2 := [.ref m, .int p1, .int p2]) (st := []) 0 0 dX6_ways_6 lk_X6_172 sl_X0_slotOf (rmK_of rfl) (mu_l hm 0 (by decide)) (mu_S0 hm) ⟨by decide, rfl⟩ rfl (Nat.le_of_ble_eq_true rfl) (Nat.le_of_ble_eq_true rfl) (t_X0_slotOf m hm p1 p2 M _ h) (fun v2 M3 h => ?_)
  show Ex true mX6_ways 78 78 0 0 9 [.ref 0, .int p1, .int p2, .null] [.int v2] M3 Q
  refine ex_istore_n (L2 := [.ref 0, .int p1, .int p2, .int v2]) dX6_ways_9 (by decide) rfl rfl ?_
  refine ex_iload_n dX6_ways_10 rfl ?_
  refine ex_if_ge (tgt := 16) dX6_ways_11 (by decide) (fun c_11 => ?_) (fun c_11 => ?_)
  · replace h := h.1 c_11
    refine ex_aload_n dX6_ways_16 rfl ?_
    refine ex_getR (ci := 6) (j := 4) (v := 35) dX6_ways_17 (by decide) rfl rfl lk_X6_32 rfl (by decide) ?_
    refine ex_aload_n dX6_ways_20 rfl ?_
    obtain ⟨g4, h⟩ := h
    refine ex_getD (ci := 6) (j := 2) (v := m) dX6_ways_21 (by decide) rfl rfl lk_X6_22 rfl g4 (mu_100 hm) ?_
    refine ex_iload_n dX6_ways_24 rfl ?_
    refine ex_invV (k := 35) (ci := 5) (as := [.ref m, .int v2]) (L2 := [.ref 35, .ref m, .int v2, .null, .null, .null, .null, .null]) (st := []) 0 0 dX6_ways_25 lk_X6_176 sl_X5_countWays (rmK_of rfl) (by decide) rfl ⟨by decide, rfl⟩ rfl (Nat.le_of_ble_eq_true rfl) (Nat.le_of_ble_eq_true rfl) (t_X5_countWays m hm v2 M3 _ h) (fun v5 M6 h => ?_)
    show Ex true mX6_ways 78 78 0 0 28 [.ref 0, .int p1, .int p2, .int v2] [.int v5] M6 Q
    exact ex_iret dX6_ways_28 rfl rfl rfl h
  · replace h := h.2 c_11
    refine ex_iconst (v := (-1)) dX6_ways_14 (by decide) ?_
    exact ex_iret dX6_ways_15 rfl rfl rfl h
def w_X6_signed (m : Nat) (p1 : Int32) (p2 : Int32) (M : Mem) (Q : Int32 → Mem → Prop) : Prop := (M 0 2 = nI m) ∧ (w_X0_slotOf m p1 p2 M (fun v2 M3 => ((0 ≤ v2) → ((M3 0 2 = nI m) ∧ (w_X0_isWhole m v2 M3 (fun v5 M6 => (¬ (v5 = 0) → ((M6 0 2 = nI m) ∧ (w_X5_needsSigns m v2 M6 (fun v8 M9 => ∀ z10 : Int32, z10 = (if v8 = 0 then 0 else 1) → Q z10 M9)))) ∧ ((v5 = 0) → (Q (-3) M6)))))) ∧ (¬ (0 ≤ v2) → (Q (-1) M3))))
theorem t_X6_signed (m : Nat) (hm : MU m) (p1 : Int32) (p2 : Int32) (M : Mem) (Q : Int32 → Mem → Prop) (h : w_X6_signed m p1 p2 M Q) : Ex true mX6_signed 78 78 0 0 0 [.ref 0, .int p1, .int p2, .null] [] M Q := by
  unfold w_X6_signed at h
  refine ex_aload_n dX6_signed_0 rfl ?_
  obtain ⟨g1, h⟩ := h
  refine ex_getD (ci := 6) (j := 2) (v := m) dX6_signed_1 (by decide) rfl rfl lk_X6_22 rfl g1 (mu_100 hm) ?_
  refine ex_iload_n dX6_signed_4 rfl ?_
  refine ex_iload_n dX6_signed_5 rfl ?_
  refine ex_invV (k := m) (ci := 0) (as := [.int p1, .int p2]) (L2 := [.ref m, .int p1, .int p2]) (st := []) 0 0 dX6_signed_6 lk_X6_172 sl_X0_slotOf (rmK_of rfl) (mu_l hm 0 (by decide)) (mu_S0 hm) ⟨by decide, rfl⟩ rfl (Nat.le_of_ble_eq_true rfl) (Nat.le_of_ble_eq_true rfl) (t_X0_slotOf m hm p1 p2 M _ h) (fun v2 M3 h => ?_)
  show Ex true mX6_signed 78 78 0 0 9 [.ref 0, .int p1, .int p2, .null] [.int v2] M3 Q
  refine ex_istore_n (L2 := [.ref 0, .int p1, .int p2, .int v2]) dX6_signed_9 (by decide) rfl rfl ?_
  refine ex_iload_n dX6_signed_10 rfl ?_
  refine ex_if_ge (tgt := 16) dX6_signed_11 (by decide) (fun c_11 => ?_) (fun c_11 => ?_)
  · replace h := h.1 c_11
    refine ex_aload_n dX6_signed_16 rfl ?_
    obtain ⟨g4, h⟩ := h
    refine ex_getD (ci := 6) (j := 2) (v := m) dX6_signed_17 (by decide) rfl rfl lk_X6_22 rfl g4 (mu_100 hm) ?_
    refine ex_iload_n dX6_signed_20 rfl ?_
    refine ex_invV (k := m) (ci := 0) (as := [.int v2]) (L2 := [.ref m, .int v2]) (st := []) 0 0 dX6_signed_21 lk_X6_102 sl_X0_isWhole (rmK_of rfl) (mu_l hm 0 (by decide)) (mu_S0 hm) ⟨by decide, rfl⟩ rfl (Nat.le_of_ble_eq_true rfl) (Nat.le_of_ble_eq_true rfl) (t_X0_isWhole m hm v2 M3 _ h) (fun v5 M6 h => ?_)
    show Ex true mX6_signed 78 78 0 0 24 [.ref 0, .int p1, .int p2, .int v2] [.int v5] M6 Q
    refine ex_if_ne (tgt := 30) dX6_signed_24 (by decide) (fun c_24 => ?_) (fun c_24 => ?_)
    · replace h := h.1 c_24
      refine ex_aload_n dX6_signed_30 rfl ?_
      refine ex_getR (ci := 6) (j := 4) (v := 35) dX6_signed_31 (by decide) rfl rfl lk_X6_32 rfl (by decide) ?_
      refine ex_aload_n dX6_signed_34 rfl ?_
      obtain ⟨g7, h⟩ := h
      refine ex_getD (ci := 6) (j := 2) (v := m) dX6_signed_35 (by decide) rfl rfl lk_X6_22 rfl g7 (mu_100 hm) ?_
      refine ex_iload_n dX6_signed_38 rfl ?_
      refine ex_invV (k := 35) (ci := 5) (as := [.ref m, .int v2]) (L2 := [.ref 35, .ref m, .int v2, .null, .null]) (st := []) 0 0 dX6_signed_39 lk_X6_180 sl_X5_needsSigns (rmK_of rfl) (by decide) rfl ⟨by decide, rfl⟩ rfl (Nat.le_of_ble_eq_true rfl) (Nat.le_of_ble_eq_true rfl) (t_X5_needsSigns m hm v2 M6 _ h) (fun v8 M9 h => ?_)
      show Ex true mX6_signed 78 78 0 0 42 [.ref 0, .int p1, .int p2, .int v2] [.int v8] M9 Q
      have hJ11 : ∀ z10 : Int32, z10 = (if v8 = 0 then 0 else 1) → Ex true mX6_signed 78 78 0 0 50 [.ref 0, .int p1, .int p2, .int v2] [.int z10] M9 Q := by
        intro z10 ez10
        replace h := h z10 ez10
        exact ex_iret dX6_signed_50 rfl rfl rfl h
      refine ex_if_eq (tgt := 49) dX6_signed_42 (by decide) (fun c_42 => ?_) (fun c_42 => ?_)
      ·
        refine ex_iconst (v := 0) dX6_signed_49 (by decide) ?_
        exact hJ11 _ (by rw [if_pos c_42])
      ·
        refine ex_iconst (v := 1) dX6_signed_45 (by decide) ?_
        refine ex_goto (tgt := 50) dX6_signed_46 (by decide) ?_
        exact hJ11 _ (by rw [if_neg c_42])
    · replace h := h.2 c_24
      refine ex_bipush (v := (-3)) dX6_signed_27 (by decide) ?_
      exact ex_iret dX6_signed_29 rfl rfl rfl h
  · replace h := h.2 c_11
    refine ex_iconst (v := (-1)) dX6_signed_14 (by decide) ?_
    exact ex_iret dX6_signed_15 rfl rfl rfl h
def w_X6_barOf (m : Nat) (p1 : Int32) (p2 : Int32) (M : Mem) (Q : Int32 → Mem → Prop) : Prop := ((p1 < 0) → (Q (-1) M)) ∧ (¬ (p1 < 0) → ((M 0 2 = nI m) ∧ (((p1 < (M m 2)) → ((p2 = 0 → ((M 0 2 = nI m) ∧ ((vp_in p1 60) ∧ (Q (M (m + 1) (Int32.toNatClampNeg p1)) M)))) ∧ ((p2 = 1 → ((M 0 2 = nI m) ∧ (w_X0_itemsOfBar m p1 M (fun v5 M6 => ((¬ (v5 = 0) → ((M6 0 2 = nI m) ∧ ((vp_in (p1 * 3) 180) ∧ (True)))) ∧ ((v5 = 0) → (True))) ∧ (∀ z9 : Int32, z9 = (if v5 = 0 then (-1) else (M6 (m + 2) (Int32.toNatClampNeg (p1 * 3)))) → Q z9 M6))))) ∧ ((p2 = 2 → ((M 0 2 = nI m) ∧ (w_X0_itemsOfBar m p1 M (fun v12 M13 => Q v12 M13)))) ∧ ((¬ p2 = 0 → ¬ p2 = 1 → ¬ p2 = 2 → (Q (-2) M))))))) ∧ (¬ (p1 < (M m 2)) → (Q (-1) M)))))
theorem t_X6_barOf (m : Nat) (hm : MU m) (p1 : Int32) (p2 : Int32) (M : Mem) (Q : Int32 → Mem → Prop) (h : w_X6_barOf m p1 p2 M Q) : Ex true mX6_barOf 78 78 0 0 0 [.ref 0, .int p1, .int p2] [] M Q := by
  unfold w_X6_barOf at h
  refine ex_iload_n dX6_barOf_0 rfl ?_
  refine ex_if_lt (tgt := 15) dX6_barOf_1 (by decide) (fun c_1 => ?_) (fun c_1 => ?_)
  · replace h := h.1 c_1
    refine ex_iconst (v := (-1)) dX6_barOf_15 (by decide) ?_
    exact ex_iret dX6_barOf_16 rfl rfl rfl h
  · replace h := h.2 c_1
    refine ex_iload_n dX6_barOf_4 rfl ?_
    refine ex_aload_n dX6_barOf_5 rfl ?_
    obtain ⟨g1, h⟩ := h
    refine ex_getD (ci := 6) (j := 2) (v := m) dX6_barOf_6 (by decide) rfl rfl lk_X6_22 rfl g1 (mu_100 hm) ?_
    refine ex_getI (ci := 0) (j := 2) dX6_barOf_9 (mu_l hm 0 (by decide)) (mu_S0 hm) rfl lk_X6_80 ?_
    refine ex_icmp_lt (tgt := 17) dX6_barOf_12 (by decide) (fun c_12 => ?_) (fun c_12 => ?_)
    · replace h := h.1 c_12
      refine ex_iload_n dX6_barOf_17 rfl ?_
      by_cases e_0 : p2 = 0
      · replace h := h.1 e_0
        refine ex_tableIn (tgt := 44) dX6_barOf_18 (by rw [e_0]; decide) (by rw [e_0]; decide) (by rw [e_0]; rfl) (by decide) ?_
        refine ex_aload_n dX6_barOf_44 rfl ?_
        obtain ⟨g2, h⟩ := h
        refine ex_getD (ci := 6) (j := 2) (v := m) dX6_barOf_45 (by decide) rfl rfl lk_X6_22 rfl g2 (mu_100 hm) ?_
        refine ex_getR (ci := 0) (j := 4) (v := m + 1) dX6_barOf_48 (mu_l hm 0 (by decide)) (mu_S0 hm) rfl lk_X6_108 (mu_F4 hm) (by omega) ?_
        refine ex_iload_n dX6_barOf_51 rfl ?_
        obtain ⟨b3, h⟩ := h
        refine ex_iald dX6_barOf_52 (mu_l hm 1 (by decide)) (mu_S1 hm) b3 ?_
        exact ex_iret dX6_barOf_53 rfl rfl rfl h
      · replace h := h.2
        by_cases e_1 : p2 = 1
        · replace h := h.1 e_1
          refine ex_tableIn (tgt := 54) dX6_barOf_18 (by rw [e_1]; decide) (by rw [e_1]; decide) (by rw [e_1]; rfl) (by decide) ?_
          refine ex_aload_n dX6_barOf_54 rfl ?_
          obtain ⟨g4, h⟩ := h
          refine ex_getD (ci := 6) (j := 2) (v := m) dX6_barOf_55 (by decide) rfl rfl lk_X6_22 rfl g4 (mu_100 hm) ?_
          refine ex_iload_n dX6_barOf_58 rfl ?_
          refine ex_invV (k := m) (ci := 0) (as := [.int p1]) (L2 := [.ref m, .int p1, .null, .null]) (st := []) 0 0 dX6_barOf_59 lk_X6_184 sl_X0_itemsOfBar (rmK_of rfl) (mu_l hm 0 (by decide)) (mu_S0 hm) ⟨by decide, rfl⟩ rfl (Nat.le_of_ble_eq_true rfl) (Nat.le_of_ble_eq_true rfl) (t_X0_itemsOfBar m hm p1 M _ h) (fun v5 M6 h => ?_)
          show Ex true mX6_barOf 78 78 0 0 62 [.ref 0, .int p1, .int p2] [.int v5] M6 Q
          obtain ⟨khJ10, h⟩ := h
          have hJ10 : ∀ z9 : Int32, z9 = (if v5 = 0 then (-1) else (M6 (m + 2) (Int32.toNatClampNeg (p1 * 3)))) → Ex true mX6_barOf 78 78 0 0 80 [.ref 0, .int p1, .int p2] [.int z9] M6 Q := by
            intro z9 ez9
            replace h := h z9 ez9
            exact ex_iret dX6_barOf_80 rfl rfl rfl h
          refine ex_if_ne (tgt := 69) dX6_barOf_62 (by decide) (fun c_62 => ?_) (fun c_62 => ?_)
          · replace h := khJ10.1 c_62
            refine ex_aload_n dX6_barOf_69 rfl ?_
            obtain ⟨g7, h⟩ := h
            refine ex_getD (ci := 6) (j := 2) (v := m) dX6_barOf_70 (by decide) rfl rfl lk_X6_22 rfl g7 (mu_100 hm) ?_
            refine ex_getR (ci := 0) (j := 5) (v := m + 2) dX6_barOf_73 (mu_l hm 0 (by decide)) (mu_S0 hm) rfl lk_X6_187 (mu_F5 hm) (by omega) ?_
            refine ex_iload_n dX6_barOf_76 rfl ?_
            refine ex_iconst (v := 3) dX6_barOf_77 (by decide) ?_
            refine ex_imul dX6_barOf_78 ?_
            obtain ⟨b8, h⟩ := h
            refine ex_iald dX6_barOf_79 (mu_l hm 2 (by decide)) (mu_S2 hm) b8 ?_
            exact hJ10 _ (by rw [if_neg c_62])
          · replace h := khJ10.2 c_62
            refine ex_iconst (v := (-1)) dX6_barOf_65 (by decide) ?_
            refine ex_goto (tgt := 80) dX6_barOf_66 (by decide) ?_
            exact hJ10 _ (by rw [if_pos c_62])
        · replace h := h.2
          by_cases e_2 : p2 = 2
          · replace h := h.1 e_2
            refine ex_tableIn (tgt := 81) dX6_barOf_18 (by rw [e_2]; decide) (by rw [e_2]; decide) (by rw [e_2]; rfl) (by decide) ?_
            refine ex_aload_n dX6_barOf_81 rfl ?_
            obtain ⟨g11, h⟩ := h
            refine ex_getD (ci := 6) (j := 2) (v := m) dX6_barOf_82 (by decide) rfl rfl lk_X6_22 rfl g11 (mu_100 hm) ?_
            refine ex_iload_n dX6_barOf_85 rfl ?_
            refine ex_invV (k := m) (ci := 0) (as := [.int p1]) (L2 := [.ref m, .int p1, .null, .null]) (st := []) 0 0 dX6_barOf_86 lk_X6_184 sl_X0_itemsOfBar (rmK_of rfl) (mu_l hm 0 (by decide)) (mu_S0 hm) ⟨by decide, rfl⟩ rfl (Nat.le_of_ble_eq_true rfl) (Nat.le_of_ble_eq_true rfl) (t_X0_itemsOfBar m hm p1 M _ h) (fun v12 M13 h => ?_)
            show Ex true mX6_barOf 78 78 0 0 89 [.ref 0, .int p1, .int p2] [.int v12] M13 Q
            exact ex_iret dX6_barOf_89 rfl rfl rfl h
          · replace h := h.2
            replace h := h e_0 e_1 e_2
            refine ex_tableOut (tgt := 90) dX6_barOf_18 (sw_out3 e_0 e_1 e_2) (by decide) ?_
            refine ex_bipush (v := (-2)) dX6_barOf_90 (by decide) ?_
            exact ex_iret dX6_barOf_92 rfl rfl rfl h
    · replace h := h.2 c_12
      refine ex_iconst (v := (-1)) dX6_barOf_15 (by decide) ?_
      exact ex_iret dX6_barOf_16 rfl rfl rfl h
def w_X6_item (m : Nat) (p1 : Int32) (p2 : Int32) (M : Mem) (Q : Int32 → Mem → Prop) : Prop := ((p1 < 0) → (Q (-1) M)) ∧ (¬ (p1 < 0) → ((M 0 2 = nI m) ∧ (((p1 < (M m 3)) → ((p2 = 0 → ((M 0 2 = nI m) ∧ ((vp_in p1 600) ∧ (Q (M (m + 4) (Int32.toNatClampNeg p1)) M)))) ∧ ((p2 = 1 → ((M 0 2 = nI m) ∧ ((vp_in p1 600) ∧ (Q (M (m + 5) (Int32.toNatClampNeg p1)) M)))) ∧ ((p2 = 2 → ((M 0 2 = nI m) ∧ (w_X0_isNote m p1 M (fun v7 M8 => (((v7 = 0) → (True)) ∧ (¬ (v7 = 0) → ((M8 0 2 = nI m) ∧ ((vp_in p1 600) ∧ (True))))) ∧ (∀ z11 : Int32, z11 = (if v7 = 0 then (-1) else (M8 (m + 6) (Int32.toNatClampNeg p1))) → Q z11 M8))))) ∧ ((p2 = 3 → ((M 0 2 = nI m) ∧ ((vp_in p1 600) ∧ (Q (M (m + 7) (Int32.toNatClampNeg p1)) M)))) ∧ ((p2 = 4 → ((M 0 2 = nI m) ∧ ((vp_in p1 600) ∧ (Q (M (m + 8) (Int32.toNatClampNeg p1)) M)))) ∧ ((p2 = 5 → ((M 0 2 = nI m) ∧ ((vp_in p1 600) ∧ (Q (M (m + 9) (Int32.toNatClampNeg p1)) M)))) ∧ ((p2 = 6 → ((M 0 2 = nI m) ∧ ((vp_in p1 600) ∧ (Q (M (m + 10) (Int32.toNatClampNeg p1)) M)))) ∧ ((p2 = 7 → ((M 0 2 = nI m) ∧ (w_X0_lasts m p1 M (fun v22 M23 => Q v22 M23)))) ∧ ((p2 = 8 → ((M 0 2 = nI m) ∧ ((vp_in p1 600) ∧ (Q (M (m + 11) (Int32.toNatClampNeg p1)) M)))) ∧ ((p2 = 9 → ((M 0 2 = nI m) ∧ ((vp_in p1 600) ∧ (Q (M (m + 12) (Int32.toNatClampNeg p1)) M)))) ∧ ((p2 = 10 → ((M 0 2 = nI m) ∧ ((vp_in p1 600) ∧ (Q (M (m + 13) (Int32.toNatClampNeg p1)) M)))) ∧ ((p2 = 11 → ((M 0 2 = nI m) ∧ (w_X0_intervalAt m p1 (p2 - 11) M (fun v31 M32 => Q v31 M32)))) ∧ ((p2 = 12 → ((M 0 2 = nI m) ∧ (w_X0_intervalAt m p1 (p2 - 11) M (fun v34 M35 => Q v34 M35)))) ∧ ((p2 = 13 → ((M 0 2 = nI m) ∧ (w_X0_intervalAt m p1 (p2 - 11) M (fun v37 M38 => Q v37 M38)))) ∧ ((p2 = 14 → ((M 0 2 = nI m) ∧ (w_X0_intervalAt m p1 (p2 - 11) M (fun v40 M41 => Q v40 M41)))) ∧ ((¬ p2 = 0 → ¬ p2 = 1 → ¬ p2 = 2 → ¬ p2 = 3 → ¬ p2 = 4 → ¬ p2 = 5 → ¬ p2 = 6 → ¬ p2 = 7 → ¬ p2 = 8 → ¬ p2 = 9 → ¬ p2 = 10 → ¬ p2 = 11 → ¬ p2 = 12 → ¬ p2 = 13 → ¬ p2 = 14 → (Q (-2) M))))))))))))))))))) ∧ (¬ (p1 < (M m 3)) → (Q (-1) M)))))
theorem t_X6_item (m : Nat) (hm : MU m) (p1 : Int32) (p2 : Int32) (M : Mem) (Q : Int32 → Mem → Prop) (h : w_X6_item m p1 p2 M Q) : Ex true mX6_item 78 78 0 0 0 [.ref 0, .int p1, .int p2] [] M Q := by
  unfold w_X6_item at h
  refine ex_iload_n dX6_item_0 rfl ?_
  refine ex_if_lt (tgt := 15) dX6_item_1 (by decide) (fun c_1 => ?_) (fun c_1 => ?_)
  · replace h := h.1 c_1
    refine ex_iconst (v := (-1)) dX6_item_15 (by decide) ?_
    exact ex_iret dX6_item_16 rfl rfl rfl h
  · replace h := h.2 c_1
    refine ex_iload_n dX6_item_4 rfl ?_
    refine ex_aload_n dX6_item_5 rfl ?_
    obtain ⟨g1, h⟩ := h
    refine ex_getD (ci := 6) (j := 2) (v := m) dX6_item_6 (by decide) rfl rfl lk_X6_22 rfl g1 (mu_100 hm) ?_
    refine ex_getI (ci := 0) (j := 3) dX6_item_9 (mu_l hm 0 (by decide)) (mu_S0 hm) rfl lk_X6_138 ?_
    refine ex_icmp_lt (tgt := 17) dX6_item_12 (by decide) (fun c_12 => ?_) (fun c_12 => ?_)
    · replace h := h.1 c_12
      refine ex_iload_n dX6_item_17 rfl ?_
      by_cases e_0 : p2 = 0
      · replace h := h.1 e_0
        refine ex_tableIn (tgt := 92) dX6_item_18 (by rw [e_0]; decide) (by rw [e_0]; decide) (by rw [e_0]; rfl) (by decide) ?_
        refine ex_aload_n dX6_item_92 rfl ?_
        obtain ⟨g2, h⟩ := h
        refine ex_getD (ci := 6) (j := 2) (v := m) dX6_item_93 (by decide) rfl rfl lk_X6_22 rfl g2 (mu_100 hm) ?_
        refine ex_getR (ci := 0) (j := 7) (v := m + 4) dX6_item_96 (mu_l hm 0 (by decide)) (mu_S0 hm) rfl lk_X6_190 (mu_F7 hm) (by omega) ?_
        refine ex_iload_n dX6_item_99 rfl ?_
        obtain ⟨b3, h⟩ := h
        refine ex_iald dX6_item_100 (mu_l hm 4 (by decide)) (mu_S4 hm) b3 ?_
        exact ex_iret dX6_item_101 rfl rfl rfl h
      · replace h := h.2
        by_cases e_1 : p2 = 1
        · replace h := h.1 e_1
          refine ex_tableIn (tgt := 102) dX6_item_18 (by rw [e_1]; decide) (by rw [e_1]; decide) (by rw [e_1]; rfl) (by decide) ?_
          refine ex_aload_n dX6_item_102 rfl ?_
          obtain ⟨g4, h⟩ := h
          refine ex_getD (ci := 6) (j := 2) (v := m) dX6_item_103 (by decide) rfl rfl lk_X6_22 rfl g4 (mu_100 hm) ?_
          refine ex_getR (ci := 0) (j := 8) (v := m + 5) dX6_item_106 (mu_l hm 0 (by decide)) (mu_S0 hm) rfl lk_X6_193 (mu_F8 hm) (by omega) ?_
          refine ex_iload_n dX6_item_109 rfl ?_
          obtain ⟨b5, h⟩ := h
          refine ex_iald dX6_item_110 (mu_l hm 5 (by decide)) (mu_S5 hm) b5 ?_
          exact ex_iret dX6_item_111 rfl rfl rfl h
        · replace h := h.2
          by_cases e_2 : p2 = 2
          · replace h := h.1 e_2
            refine ex_tableIn (tgt := 112) dX6_item_18 (by rw [e_2]; decide) (by rw [e_2]; decide) (by rw [e_2]; rfl) (by decide) ?_
            refine ex_aload_n dX6_item_112 rfl ?_
            obtain ⟨g6, h⟩ := h
            refine ex_getD (ci := 6) (j := 2) (v := m) dX6_item_113 (by decide) rfl rfl lk_X6_22 rfl g6 (mu_100 hm) ?_
            refine ex_iload_n dX6_item_116 rfl ?_
            refine ex_invV (k := m) (ci := 0) (as := [.int p1]) (L2 := [.ref m, .int p1]) (st := []) 0 0 dX6_item_117 lk_X6_144 sl_X0_isNote (rmK_of rfl) (mu_l hm 0 (by decide)) (mu_S0 hm) ⟨by decide, rfl⟩ rfl (Nat.le_of_ble_eq_true rfl) (Nat.le_of_ble_eq_true rfl) (t_X0_isNote m hm p1 M _ h) (fun v7 M8 h => ?_)
            show Ex true mX6_item 78 78 0 0 120 [.ref 0, .int p1, .int p2] [.int v7] M8 Q
            obtain ⟨khJ12, h⟩ := h
            have hJ12 : ∀ z11 : Int32, z11 = (if v7 = 0 then (-1) else (M8 (m + 6) (Int32.toNatClampNeg p1))) → Ex true mX6_item 78 78 0 0 136 [.ref 0, .int p1, .int p2] [.int z11] M8 Q := by
              intro z11 ez11
              replace h := h z11 ez11
              exact ex_iret dX6_item_136 rfl rfl rfl h
            refine ex_if_eq (tgt := 135) dX6_item_120 (by decide) (fun c_120 => ?_) (fun c_120 => ?_)
            · replace h := khJ12.1 c_120
              refine ex_iconst (v := (-1)) dX6_item_135 (by decide) ?_
              exact hJ12 _ (by rw [if_pos c_120])
            · replace h := khJ12.2 c_120
              refine ex_aload_n dX6_item_123 rfl ?_
              obtain ⟨g9, h⟩ := h
              refine ex_getD (ci := 6) (j := 2) (v := m) dX6_item_124 (by decide) rfl rfl lk_X6_22 rfl g9 (mu_100 hm) ?_
              refine ex_getR (ci := 0) (j := 9) (v := m + 6) dX6_item_127 (mu_l hm 0 (by decide)) (mu_S0 hm) rfl lk_X6_196 (mu_F9 hm) (by omega) ?_
              refine ex_iload_n dX6_item_130 rfl ?_
              obtain ⟨b10, h⟩ := h
              refine ex_iald dX6_item_131 (mu_l hm 6 (by decide)) (mu_S6 hm) b10 ?_
              refine ex_goto (tgt := 136) dX6_item_132 (by decide) ?_
              exact hJ12 _ (by rw [if_neg c_120])
          · replace h := h.2
            by_cases e_3 : p2 = 3
            · replace h := h.1 e_3
              refine ex_tableIn (tgt := 137) dX6_item_18 (by rw [e_3]; decide) (by rw [e_3]; decide) (by rw [e_3]; rfl) (by decide) ?_
              refine ex_aload_n dX6_item_137 rfl ?_
              obtain ⟨g13, h⟩ := h
              refine ex_getD (ci := 6) (j := 2) (v := m) dX6_item_138 (by decide) rfl rfl lk_X6_22 rfl g13 (mu_100 hm) ?_
              refine ex_getR (ci := 0) (j := 10) (v := m + 7) dX6_item_141 (mu_l hm 0 (by decide)) (mu_S0 hm) rfl lk_X6_199 (mu_F10 hm) (by omega) ?_
              refine ex_iload_n dX6_item_144 rfl ?_
              obtain ⟨b14, h⟩ := h
              refine ex_iald dX6_item_145 (mu_l hm 7 (by decide)) (mu_S7 hm) b14 ?_
              exact ex_iret dX6_item_146 rfl rfl rfl h
            · replace h := h.2
              by_cases e_4 : p2 = 4
              · replace h := h.1 e_4
                refine ex_tableIn (tgt := 147) dX6_item_18 (by rw [e_4]; decide) (by rw [e_4]; decide) (by rw [e_4]; rfl) (by decide) ?_
                refine ex_aload_n dX6_item_147 rfl ?_
                obtain ⟨g15, h⟩ := h
                refine ex_getD (ci := 6) (j := 2) (v := m) dX6_item_148 (by decide) rfl rfl lk_X6_22 rfl g15 (mu_100 hm) ?_
                refine ex_getR (ci := 0) (j := 11) (v := m + 8) dX6_item_151 (mu_l hm 0 (by decide)) (mu_S0 hm) rfl lk_X6_202 (mu_F11 hm) (by omega) ?_
                refine ex_iload_n dX6_item_154 rfl ?_
                obtain ⟨b16, h⟩ := h
                refine ex_iald dX6_item_155 (mu_l hm 8 (by decide)) (mu_S8 hm) b16 ?_
                exact ex_iret dX6_item_156 rfl rfl rfl h
              · replace h := h.2
                by_cases e_5 : p2 = 5
                · replace h := h.1 e_5
                  refine ex_tableIn (tgt := 157) dX6_item_18 (by rw [e_5]; decide) (by rw [e_5]; decide) (by rw [e_5]; rfl) (by decide) ?_
                  refine ex_aload_n dX6_item_157 rfl ?_
                  obtain ⟨g17, h⟩ := h
                  refine ex_getD (ci := 6) (j := 2) (v := m) dX6_item_158 (by decide) rfl rfl lk_X6_22 rfl g17 (mu_100 hm) ?_
                  refine ex_getR (ci := 0) (j := 12) (v := m + 9) dX6_item_161 (mu_l hm 0 (by decide)) (mu_S0 hm) rfl lk_X6_205 (mu_F12 hm) (by omega) ?_
                  refine ex_iload_n dX6_item_164 rfl ?_
                  obtain ⟨b18, h⟩ := h
                  refine ex_iald dX6_item_165 (mu_l hm 9 (by decide)) (mu_S9 hm) b18 ?_
                  exact ex_iret dX6_item_166 rfl rfl rfl h
                · replace h := h.2
                  by_cases e_6 : p2 = 6
                  · replace h := h.1 e_6
                    refine ex_tableIn (tgt := 167) dX6_item_18 (by rw [e_6]; decide) (by rw [e_6]; decide) (by rw [e_6]; rfl) (by decide) ?_
                    refine ex_aload_n dX6_item_167 rfl ?_
                    obtain ⟨g19, h⟩ := h
                    refine ex_getD (ci := 6) (j := 2) (v := m) dX6_item_168 (by decide) rfl rfl lk_X6_22 rfl g19 (mu_100 hm) ?_
                    refine ex_getR (ci := 0) (j := 13) (v := m + 10) dX6_item_171 (mu_l hm 0 (by decide)) (mu_S0 hm) rfl lk_X6_208 (mu_F13 hm) (by omega) ?_
                    refine ex_iload_n dX6_item_174 rfl ?_
                    obtain ⟨b20, h⟩ := h
                    refine ex_iald dX6_item_175 (mu_l hm 10 (by decide)) (mu_S10 hm) b20 ?_
                    exact ex_iret dX6_item_176 rfl rfl rfl h
                  · replace h := h.2
                    by_cases e_7 : p2 = 7
                    · replace h := h.1 e_7
                      refine ex_tableIn (tgt := 177) dX6_item_18 (by rw [e_7]; decide) (by rw [e_7]; decide) (by rw [e_7]; rfl) (by decide) ?_
                      refine ex_aload_n dX6_item_177 rfl ?_
                      obtain ⟨g21, h⟩ := h
                      refine ex_getD (ci := 6) (j := 2) (v := m) dX6_item_178 (by decide) rfl rfl lk_X6_22 rfl g21 (mu_100 hm) ?_
                      refine ex_iload_n dX6_item_181 rfl ?_
                      refine ex_invV (k := m) (ci := 0) (as := [.int p1]) (L2 := [.ref m, .int p1]) (st := []) 0 0 dX6_item_182 lk_X6_211 sl_X0_lasts (rmK_of rfl) (mu_l hm 0 (by decide)) (mu_S0 hm) ⟨by decide, rfl⟩ rfl (Nat.le_of_ble_eq_true rfl) (Nat.le_of_ble_eq_true rfl) (t_X0_lasts m hm p1 M _ h) (fun v22 M23 h => ?_)
                      show Ex true mX6_item 78 78 0 0 185 [.ref 0, .int p1, .int p2] [.int v22] M23 Q
                      exact ex_iret dX6_item_185 rfl rfl rfl h
                    · replace h := h.2
                      by_cases e_8 : p2 = 8
                      · replace h := h.1 e_8
                        refine ex_tableIn (tgt := 186) dX6_item_18 (by rw [e_8]; decide) (by rw [e_8]; decide) (by rw [e_8]; rfl) (by decide) ?_
                        refine ex_aload_n dX6_item_186 rfl ?_
                        obtain ⟨g24, h⟩ := h
                        refine ex_getD (ci := 6) (j := 2) (v := m) dX6_item_187 (by decide) rfl rfl lk_X6_22 rfl g24 (mu_100 hm) ?_
                        refine ex_getR (ci := 0) (j := 14) (v := m + 11) dX6_item_190 (mu_l hm 0 (by decide)) (mu_S0 hm) rfl lk_X6_157 (mu_F14 hm) (by omega) ?_
                        refine ex_iload_n dX6_item_193 rfl ?_
                        obtain ⟨b25, h⟩ := h
                        refine ex_iald dX6_item_194 (mu_l hm 11 (by decide)) (mu_S11 hm) b25 ?_
                        exact ex_iret dX6_item_195 rfl rfl rfl h
                      · replace h := h.2
                        by_cases e_9 : p2 = 9
                        · replace h := h.1 e_9
                          refine ex_tableIn (tgt := 196) dX6_item_18 (by rw [e_9]; decide) (by rw [e_9]; decide) (by rw [e_9]; rfl) (by decide) ?_
                          refine ex_aload_n dX6_item_196 rfl ?_
                          obtain ⟨g26, h⟩ := h
                          refine ex_getD (ci := 6) (j := 2) (v := m) dX6_item_197 (by decide) rfl rfl lk_X6_22 rfl g26 (mu_100 hm) ?_
                          refine ex_getR (ci := 0) (j := 15) (v := m + 12) dX6_item_200 (mu_l hm 0 (by decide)) (mu_S0 hm) rfl lk_X6_160 (mu_F15 hm) (by omega) ?_
                          refine ex_iload_n dX6_item_203 rfl ?_
                          obtain ⟨b27, h⟩ := h
                          refine ex_iald dX6_item_204 (mu_l hm 12 (by decide)) (mu_S12 hm) b27 ?_
                          exact ex_iret dX6_item_205 rfl rfl rfl h
                        · replace h := h.2
                          by_cases e_10 : p2 = 10
                          · replace h := h.1 e_10
                            refine ex_tableIn (tgt := 206) dX6_item_18 (by rw [e_10]; decide) (by rw [e_10]; decide) (by rw [e_10]; rfl) (by decide) ?_
                            refine ex_aload_n dX6_item_206 rfl ?_
                            obtain ⟨g28, h⟩ := h
                            refine ex_getD (ci := 6) (j := 2) (v := m) dX6_item_207 (by decide) rfl rfl lk_X6_22 rfl g28 (mu_100 hm) ?_
                            refine ex_getR (ci := 0) (j := 16) (v := m + 13) dX6_item_210 (mu_l hm 0 (by decide)) (mu_S0 hm) rfl lk_X6_150 (mu_F16 hm) (by omega) ?_
                            refine ex_iload_n dX6_item_213 rfl ?_
                            obtain ⟨b29, h⟩ := h
                            refine ex_iald dX6_item_214 (mu_l hm 13 (by decide)) (mu_S13 hm) b29 ?_
                            exact ex_iret dX6_item_215 rfl rfl rfl h
                          · replace h := h.2
                            by_cases e_11 : p2 = 11
                            · replace h := h.1 e_11
                              refine ex_tableIn (tgt := 216) dX6_item_18 (by rw [e_11]; decide) (by rw [e_11]; decide) (by rw [e_11]; rfl) (by decide) ?_
                              refine ex_aload_n dX6_item_216 rfl ?_
                              obtain ⟨g30, h⟩ := h
                              refine ex_getD (ci := 6) (j := 2) (v := m) dX6_item_217 (by decide) rfl rfl lk_X6_22 rfl g30 (mu_100 hm) ?_
                              refine ex_iload_n dX6_item_220 rfl ?_
                              refine ex_iload_n dX6_item_221 rfl ?_
                              refine ex_bipush (v := 11) dX6_item_222 (by decide) ?_
                              refine ex_isub dX6_item_224 ?_
                              refine ex_invV (k := m) (ci := 0) (as := [.int p1, .int (p2 - 11)]) (L2 := [.ref m, .int p1, .int (p2 - 11)]) (st := []) 0 0 dX6_item_225 lk_X6_214 sl_X0_intervalAt (rmK_of rfl) (mu_l hm 0 (by decide)) (mu_S0 hm) ⟨by decide, rfl⟩ rfl (Nat.le_of_ble_eq_true rfl) (Nat.le_of_ble_eq_true rfl) (t_X0_intervalAt m hm p1 (p2 - 11) M _ h) (fun v31 M32 h => ?_)
                              show Ex true mX6_item 78 78 0 0 228 [.ref 0, .int p1, .int p2] [.int v31] M32 Q
                              exact ex_iret dX6_item_228 rfl rfl rfl h
                            · replace h := h.2
                              by_cases e_12 : p2 = 12
                              · replace h := h.1 e_12
                                refine ex_tableIn (tgt := 216) dX6_item_18 (by rw [e_12]; decide) (by rw [e_12]; decide) (by rw [e_12]; rfl) (by decide) ?_
                                refine ex_aload_n dX6_item_216 rfl ?_
                                obtain ⟨g33, h⟩ := h
                                refine ex_getD (ci := 6) (j := 2) (v := m) dX6_item_217 (by decide) rfl rfl lk_X6_22 rfl g33 (mu_100 hm) ?_
                                refine ex_iload_n dX6_item_220 rfl ?_
                                refine ex_iload_n dX6_item_221 rfl ?_
                                refine ex_bipush (v := 11) dX6_item_222 (by decide) ?_
                                refine ex_isub dX6_item_224 ?_
                                refine ex_invV (k := m) (ci := 0) (as := [.int p1, .int (p2 - 11)]) (L2 := [.ref m, .int p1, .int (p2 - 11)]) (st := []) 0 0 dX6_item_225 lk_X6_214 sl_X0_intervalAt (rmK_of rfl) (mu_l hm 0 (by decide)) (mu_S0 hm) ⟨by decide, rfl⟩ rfl (Nat.le_of_ble_eq_true rfl) (Nat.le_of_ble_eq_true rfl) (t_X0_intervalAt m hm p1 (p2 - 11) M _ h) (fun v34 M35 h => ?_)
                                show Ex true mX6_item 78 78 0 0 228 [.ref 0, .int p1, .int p2] [.int v34] M35 Q
                                exact ex_iret dX6_item_228 rfl rfl rfl h
                              · replace h := h.2
                                by_cases e_13 : p2 = 13
                                · replace h := h.1 e_13
                                  refine ex_tableIn (tgt := 216) dX6_item_18 (by rw [e_13]; decide) (by rw [e_13]; decide) (by rw [e_13]; rfl) (by decide) ?_
                                  refine ex_aload_n dX6_item_216 rfl ?_
                                  obtain ⟨g36, h⟩ := h
                                  refine ex_getD (ci := 6) (j := 2) (v := m) dX6_item_217 (by decide) rfl rfl lk_X6_22 rfl g36 (mu_100 hm) ?_
                                  refine ex_iload_n dX6_item_220 rfl ?_
                                  refine ex_iload_n dX6_item_221 rfl ?_
                                  refine ex_bipush (v := 11) dX6_item_222 (by decide) ?_
                                  refine ex_isub dX6_item_224 ?_
                                  refine ex_invV (k := m) (ci := 0) (as := [.int p1, .int (p2 - 11)]) (L2 := [.ref m, .int p1, .int (p2 - 11)]) (st := []) 0 0 dX6_item_225 lk_X6_214 sl_X0_intervalAt (rmK_of rfl) (mu_l hm 0 (by decide)) (mu_S0 hm) ⟨by decide, rfl⟩ rfl (Nat.le_of_ble_eq_true rfl) (Nat.le_of_ble_eq_true rfl) (t_X0_intervalAt m hm p1 (p2 - 11) M _ h) (fun v37 M38 h => ?_)
                                  show Ex true mX6_item 78 78 0 0 228 [.ref 0, .int p1, .int p2] [.int v37] M38 Q
                                  exact ex_iret dX6_item_228 rfl rfl rfl h
                                · replace h := h.2
                                  by_cases e_14 : p2 = 14
                                  · replace h := h.1 e_14
                                    refine ex_tableIn (tgt := 216) dX6_item_18 (by rw [e_14]; decide) (by rw [e_14]; decide) (by rw [e_14]; rfl) (by decide) ?_
                                    refine ex_aload_n dX6_item_216 rfl ?_
                                    obtain ⟨g39, h⟩ := h
                                    refine ex_getD (ci := 6) (j := 2) (v := m) dX6_item_217 (by decide) rfl rfl lk_X6_22 rfl g39 (mu_100 hm) ?_
                                    refine ex_iload_n dX6_item_220 rfl ?_
                                    refine ex_iload_n dX6_item_221 rfl ?_
                                    refine ex_bipush (v := 11) dX6_item_222 (by decide) ?_
                                    refine ex_isub dX6_item_224 ?_
                                    refine ex_invV (k := m) (ci := 0) (as := [.int p1, .int (p2 - 11)]) (L2 := [.ref m, .int p1, .int (p2 - 11)]) (st := []) 0 0 dX6_item_225 lk_X6_214 sl_X0_intervalAt (rmK_of rfl) (mu_l hm 0 (by decide)) (mu_S0 hm) ⟨by decide, rfl⟩ rfl (Nat.le_of_ble_eq_true rfl) (Nat.le_of_ble_eq_true rfl) (t_X0_intervalAt m hm p1 (p2 - 11) M _ h) (fun v40 M41 h => ?_)
                                    show Ex true mX6_item 78 78 0 0 228 [.ref 0, .int p1, .int p2] [.int v40] M41 Q
                                    exact ex_iret dX6_item_228 rfl rfl rfl h
                                  · replace h := h.2
                                    replace h := h e_0 e_1 e_2 e_3 e_4 e_5 e_6 e_7 e_8 e_9 e_10 e_11 e_12 e_13 e_14
                                    refine ex_tableOut (tgt := 229) dX6_item_18 (sw_out15 e_0 e_1 e_2 e_3 e_4 e_5 e_6 e_7 e_8 e_9 e_10 e_11 e_12 e_13 e_14) (by decide) ?_
                                    refine ex_bipush (v := (-2)) dX6_item_229 (by decide) ?_
                                    exact ex_iret dX6_item_231 rfl rfl rfl h
    · replace h := h.2 c_12
      refine ex_iconst (v := (-1)) dX6_item_15 (by decide) ?_
      exact ex_iret dX6_item_16 rfl rfl rfl h
def wb_X6_loose_4 (m : Nat) (Q : Int32 → Mem → Prop) (B4 : Int32 → Int32 → Mem → Prop) (l1 : Int32) (l2 : Int32) (M : Mem) : Prop := (M 0 2 = nI m) ∧ ((((M m 3) ≤ l2) → (Q l1 M)) ∧ (¬ ((M m 3) ≤ l2) → ((M 0 2 = nI m) ∧ (((((M m 3) ≤ (l2 + 1)) → (True)) ∧ (¬ ((M m 3) ≤ (l2 + 1)) → ((M 0 2 = nI m) ∧ ((vp_in (l2 + 1) 600) ∧ ((M 0 2 = nI m) ∧ ((vp_in l2 600) ∧ ((¬ ((M (m + 6) (Int32.toNatClampNeg (l2 + 1))) = (M (m + 6) (Int32.toNatClampNeg l2))) → (True)) ∧ (((M (m + 6) (Int32.toNatClampNeg (l2 + 1))) = (M (m + 6) (Int32.toNatClampNeg l2))) → (True))))))))) ∧ (∀ z7 : Int32, z7 = (if (M m 3) ≤ (l2 + 1) then 0 else (if (M (m + 6) (Int32.toNatClampNeg (l2 + 1))) = (M (m + 6) (Int32.toNatClampNeg l2)) then 1 else 0)) → (M 0 2 = nI m) ∧ ((vp_in l2 600) ∧ ((¬ ((M (m + 11) (Int32.toNatClampNeg l2)) = 1) → (∀ x12 : Int32, x12 = l2 + 1 → B4 l1 x12 M)) ∧ (((M (m + 11) (Int32.toNatClampNeg l2)) = 1) → ((¬ (z7 = 0) → (∀ x15 : Int32, x15 = l2 + 1 → B4 l1 x15 M)) ∧ ((z7 = 0) → (∀ x16 : Int32, x16 = l1 + 1 → ∀ x17 : Int32, x17 = l2 + 1 → B4 x16 x17 M)))))))))))
def w_X6_loose_4 (m : Nat) (Q : Int32 → Mem → Prop) : Nat → Int32 → Int32 → Mem → Prop
  | 0 => fun _ _ _ => False
  | k + 1 => wb_X6_loose_4 m Q  (w_X6_loose_4 m Q  k)
theorem t_X6_loose_4 (m : Nat) (hm : MU m) (Q : Int32 → Mem → Prop) : ∀ (k : Nat) (l1 : Int32) (l2 : Int32) (M : Mem), w_X6_loose_4 m Q  k l1 l2 M → Ex true mX6_loose 78 78 0 0 4 [.ref 0, .int l1, .int l2, .null] [] M Q := by
  intro k
  induction k with
  | zero => intro l1 l2 M h; exact False.elim h
  | succ k hB4 =>
    intro l1 l2 M h
    replace h : wb_X6_loose_4 m Q  (w_X6_loose_4 m Q  k) l1 l2 M := h
    generalize w_X6_loose_4 m Q  k = B4 at hB4 h
    unfold wb_X6_loose_4 at h
    refine ex_iload_n dX6_loose_4 rfl ?_
    refine ex_aload_n dX6_loose_5 rfl ?_
    obtain ⟨g1, h⟩ := h
    refine ex_getD (ci := 6) (j := 2) (v := m) dX6_loose_6 (by decide) rfl rfl lk_X6_22 rfl g1 (mu_100 hm) ?_
    refine ex_getI (ci := 0) (j := 3) dX6_loose_9 (mu_l hm 0 (by decide)) (mu_S0 hm) rfl lk_X6_138 ?_
    refine ex_icmp_ge (tgt := 83) dX6_loose_12 (by decide) (fun c_12 => ?_) (fun c_12 => ?_)
    · replace h := h.1 c_12
      refine ex_iload_n dX6_loose_83 rfl ?_
      exact ex_iret dX6_loose_84 rfl rfl rfl h
    · replace h := h.2 c_12
      refine ex_iload_n dX6_loose_15 rfl ?_
      refine ex_iconst (v := 1) dX6_loose_16 (by decide) ?_
      refine ex_iadd dX6_loose_17 ?_
      refine ex_aload_n dX6_loose_18 rfl ?_
      obtain ⟨g2, h⟩ := h
      refine ex_getD (ci := 6) (j := 2) (v := m) dX6_loose_19 (by decide) rfl rfl lk_X6_22 rfl g2 (mu_100 hm) ?_
      refine ex_getI (ci := 0) (j := 3) dX6_loose_22 (mu_l hm 0 (by decide)) (mu_S0 hm) rfl lk_X6_138 ?_
      obtain ⟨khJ18, h⟩ := h
      have hJ18 : ∀ z7 : Int32, z7 = (if (M m 3) ≤ (l2 + 1) then 0 else (if (M (m + 6) (Int32.toNatClampNeg (l2 + 1))) = (M (m + 6) (Int32.toNatClampNeg l2)) then 1 else 0)) → Ex true mX6_loose 78 78 0 0 56 [.ref 0, .int l1, .int l2, .null] [.int z7] M Q := by
        intro z7 ez7
        replace h := h z7 ez7
        refine ex_istore_n (L2 := [.ref 0, .int l1, .int l2, .int z7]) dX6_loose_56 (by decide) rfl rfl ?_
        refine ex_aload_n dX6_loose_57 rfl ?_
        obtain ⟨g8, h⟩ := h
        refine ex_getD (ci := 6) (j := 2) (v := m) dX6_loose_58 (by decide) rfl rfl lk_X6_22 rfl g8 (mu_100 hm) ?_
        refine ex_getR (ci := 0) (j := 14) (v := m + 11) dX6_loose_61 (mu_l hm 0 (by decide)) (mu_S0 hm) rfl lk_X6_157 (mu_F14 hm) (by omega) ?_
        refine ex_iload_n dX6_loose_64 rfl ?_
        obtain ⟨b9, h⟩ := h
        refine ex_iald dX6_loose_65 (mu_l hm 11 (by decide)) (mu_S11 hm) b9 ?_
        refine ex_iconst (v := 1) dX6_loose_66 (by decide) ?_
        refine ex_icmp_ne (tgt := 77) dX6_loose_67 (by decide) (fun c_67 => ?_) (fun c_67 => ?_)
        · replace h := h.1 c_67
          refine ex_iinc (v := l2 + 1) (L2 := [.ref 0, .int l1, .int (l2 + 1), .int z7]) dX6_loose_77 rfl rfl (by decide) rfl rfl ?_
          obtain ⟨x12, ex12⟩ : ∃ x12 : Int32, x12 = l2 + 1 := ⟨_, rfl⟩
          rw [← ex12]
          replace h := h x12 ex12
          refine ex_goto (tgt := 4) dX6_loose_80 (by decide) ?_
          refine ex_less (L2 := [.ref 0, .int l1, .int x12, .null]) ?_ (by intro i v hi hn; match i, hi with | 0, hi => exact hi | 1, hi => exact hi | 2, hi => exact hi | 3, hi => (cases hi; cases hn) | k + 4, hi => (exact absurd hi (by simp)))
          exact hB4 l1 x12 M h
        · replace h := h.2 c_67
          refine ex_iload_n dX6_loose_70 rfl ?_
          refine ex_if_ne (tgt := 77) dX6_loose_71 (by decide) (fun c_71 => ?_) (fun c_71 => ?_)
          · replace h := h.1 c_71
            refine ex_iinc (v := l2 + 1) (L2 := [.ref 0, .int l1, .int (l2 + 1), .int z7]) dX6_loose_77 rfl rfl (by decide) rfl rfl ?_
            obtain ⟨x15, ex15⟩ : ∃ x15 : Int32, x15 = l2 + 1 := ⟨_, rfl⟩
            rw [← ex15]
            replace h := h x15 ex15
            refine ex_goto (tgt := 4) dX6_loose_80 (by decide) ?_
            refine ex_less (L2 := [.ref 0, .int l1, .int x15, .null]) ?_ (by intro i v hi hn; match i, hi with | 0, hi => exact hi | 1, hi => exact hi | 2, hi => exact hi | 3, hi => (cases hi; cases hn) | k + 4, hi => (exact absurd hi (by simp)))
            exact hB4 l1 x15 M h
          · replace h := h.2 c_71
            refine ex_iinc (v := l1 + 1) (L2 := [.ref 0, .int (l1 + 1), .int l2, .int z7]) dX6_loose_74 rfl rfl (by decide) rfl rfl ?_
            obtain ⟨x16, ex16⟩ : ∃ x16 : Int32, x16 = l1 + 1 := ⟨_, rfl⟩
            rw [← ex16]
            replace h := h x16 ex16
            refine ex_iinc (v := l2 + 1) (L2 := [.ref 0, .int x16, .int (l2 + 1), .int z7]) dX6_loose_77 rfl rfl (by decide) rfl rfl ?_
            obtain ⟨x17, ex17⟩ : ∃ x17 : Int32, x17 = l2 + 1 := ⟨_, rfl⟩
            rw [← ex17]
            replace h := h x17 ex17
            refine ex_goto (tgt := 4) dX6_loose_80 (by decide) ?_
            refine ex_less (L2 := [.ref 0, .int x16, .int x17, .null]) ?_ (by intro i v hi hn; match i, hi with | 0, hi => exact hi | 1, hi => exact hi | 2, hi => exact hi | 3, hi => (cases hi; cases hn) | k + 4, hi => (exact absurd hi (by simp)))
            exact hB4 x16 x17 M h
      refine ex_icmp_ge (tgt := 55) dX6_loose_25 (by decide) (fun c_25 => ?_) (fun c_25 => ?_)
      · replace h := khJ18.1 c_25
        refine ex_iconst (v := 0) dX6_loose_55 (by decide) ?_
        exact hJ18 _ (by rw [if_pos c_25])
      · replace h := khJ18.2 c_25
        refine ex_aload_n dX6_loose_28 rfl ?_
        obtain ⟨g3, h⟩ := h
        refine ex_getD (ci := 6) (j := 2) (v := m) dX6_loose_29 (by decide) rfl rfl lk_X6_22 rfl g3 (mu_100 hm) ?_
        refine ex_getR (ci := 0) (j := 9) (v := m + 6) dX6_loose_32 (mu_l hm 0 (by decide)) (mu_S0 hm) rfl lk_X6_196 (mu_F9 hm) (by omega) ?_
        refine ex_iload_n dX6_loose_35 rfl ?_
        refine ex_iconst (v := 1) dX6_loose_36 (by decide) ?_
        refine ex_iadd dX6_loose_37 ?_
        obtain ⟨b4, h⟩ := h
        refine ex_iald dX6_loose_38 (mu_l hm 6 (by decide)) (mu_S6 hm) b4 ?_
        refine ex_aload_n dX6_loose_39 rfl ?_
        obtain ⟨g5, h⟩ := h
        refine ex_getD (ci := 6) (j := 2) (v := m) dX6_loose_40 (by decide) rfl rfl lk_X6_22 rfl g5 (mu_100 hm) ?_
        refine ex_getR (ci := 0) (j := 9) (v := m + 6) dX6_loose_43 (mu_l hm 0 (by decide)) (mu_S0 hm) rfl lk_X6_196 (mu_F9 hm) (by omega) ?_
        refine ex_iload_n dX6_loose_46 rfl ?_
        obtain ⟨b6, h⟩ := h
        refine ex_iald dX6_loose_47 (mu_l hm 6 (by decide)) (mu_S6 hm) b6 ?_
        refine ex_icmp_ne (tgt := 55) dX6_loose_48 (by decide) (fun c_48 => ?_) (fun c_48 => ?_)
        · replace h := h.1 c_48
          refine ex_iconst (v := 0) dX6_loose_55 (by decide) ?_
          exact hJ18 _ (by rw [if_neg c_25, if_neg c_48])
        · replace h := h.2 c_48
          refine ex_iconst (v := 1) dX6_loose_51 (by decide) ?_
          refine ex_goto (tgt := 56) dX6_loose_52 (by decide) ?_
          exact hJ18 _ (by rw [if_neg c_25, if_pos c_48])
def w_X6_loose (m : Nat) (M : Mem) (Q : Int32 → Mem → Prop) : Prop := ∃ k, w_X6_loose_4 m Q  k 0 0 M
theorem t_X6_loose (m : Nat) (hm : MU m) (M : Mem) (Q : Int32 → Mem → Prop) (h : w_X6_loose m  M Q) : Ex true mX6_loose 78 78 0 0 0 [.ref 0, .null, .null, .null] [] M Q := by
  unfold w_X6_loose at h
  refine ex_iconst (v := 0) dX6_loose_0 (by decide) ?_
  refine ex_istore_n (L2 := [.ref 0, .int 0, .null, .null]) dX6_loose_1 (by decide) rfl rfl ?_
  refine ex_iconst (v := 0) dX6_loose_2 (by decide) ?_
  refine ex_istore_n (L2 := [.ref 0, .int 0, .int 0, .null]) dX6_loose_3 (by decide) rfl rfl ?_
  obtain ⟨k_, h⟩ := h
  exact t_X6_loose_4 m hm  Q   k_ 0 0 M h
def w_X6_told (r m : Nat) (p1 : Int32) (M : Mem) (Q : Int32 → Mem → Prop) : Prop := (p1 = 0 → ((M 0 2 = nI m) ∧ (Q (M m 2) M))) ∧ ((p1 = 1 → ((M 0 2 = nI m) ∧ (Q (M m 3) M))) ∧ ((p1 = 2 → ((M 0 2 = nI m) ∧ (Q (M m 0) M))) ∧ ((p1 = 3 → ((M 0 0 = nI r) ∧ (Q (M r 1) M))) ∧ ((p1 = 4 → ((M 0 2 = nI m) ∧ (Q (M m 1) M))) ∧ ((p1 = 5 → ((M 0 2 = nI m) ∧ (w_X0_lastSlot m M (fun v7 M8 => ((0 ≤ v7) → ((M8 0 2 = nI m) ∧ ((M8 0 2 = nI m) ∧ (w_X0_lastSlot m M8 (fun v11 M12 => w_X0_voiceLasts m v11 M12 (fun v13 M14 => Q v13 M14)))))) ∧ (¬ (0 ≤ v7) → (Q 0 M8)))))) ∧ ((¬ p1 = 0 → ¬ p1 = 1 → ¬ p1 = 2 → ¬ p1 = 3 → ¬ p1 = 4 → ¬ p1 = 5 → (Q (-2) M))))))))
theorem t_X6_told (r m : Nat) (hr : RW r) (hm : MU m) (p1 : Int32) (M : Mem) (Q : Int32 → Mem → Prop) (h : w_X6_told r m p1 M Q) : Ex true mX6_told 78 78 0 0 0 [.ref 0, .int p1] [] M Q := by
  unfold w_X6_told at h
  refine ex_iload_n dX6_told_0 rfl ?_
  by_cases e_0 : p1 = 0
  · replace h := h.1 e_0
    refine ex_tableIn (tgt := 40) dX6_told_1 (by rw [e_0]; decide) (by rw [e_0]; decide) (by rw [e_0]; rfl) (by decide) ?_
    refine ex_aload_n dX6_told_40 rfl ?_
    obtain ⟨g1, h⟩ := h
    refine ex_getD (ci := 6) (j := 2) (v := m) dX6_told_41 (by decide) rfl rfl lk_X6_22 rfl g1 (mu_100 hm) ?_
    refine ex_getI (ci := 0) (j := 2) dX6_told_44 (mu_l hm 0 (by decide)) (mu_S0 hm) rfl lk_X6_80 ?_
    exact ex_iret dX6_told_47 rfl rfl rfl h
  · replace h := h.2
    by_cases e_1 : p1 = 1
    · replace h := h.1 e_1
      refine ex_tableIn (tgt := 48) dX6_told_1 (by rw [e_1]; decide) (by rw [e_1]; decide) (by rw [e_1]; rfl) (by decide) ?_
      refine ex_aload_n dX6_told_48 rfl ?_
      obtain ⟨g2, h⟩ := h
      refine ex_getD (ci := 6) (j := 2) (v := m) dX6_told_49 (by decide) rfl rfl lk_X6_22 rfl g2 (mu_100 hm) ?_
      refine ex_getI (ci := 0) (j := 3) dX6_told_52 (mu_l hm 0 (by decide)) (mu_S0 hm) rfl lk_X6_138 ?_
      exact ex_iret dX6_told_55 rfl rfl rfl h
    · replace h := h.2
      by_cases e_2 : p1 = 2
      · replace h := h.1 e_2
        refine ex_tableIn (tgt := 56) dX6_told_1 (by rw [e_2]; decide) (by rw [e_2]; decide) (by rw [e_2]; rfl) (by decide) ?_
        refine ex_aload_n dX6_told_56 rfl ?_
        obtain ⟨g3, h⟩ := h
        refine ex_getD (ci := 6) (j := 2) (v := m) dX6_told_57 (by decide) rfl rfl lk_X6_22 rfl g3 (mu_100 hm) ?_
        refine ex_getI (ci := 0) (j := 0) dX6_told_60 (mu_l hm 0 (by decide)) (mu_S0 hm) rfl lk_X6_73 ?_
        exact ex_iret dX6_told_63 rfl rfl rfl h
      · replace h := h.2
        by_cases e_3 : p1 = 3
        · replace h := h.1 e_3
          refine ex_tableIn (tgt := 64) dX6_told_1 (by rw [e_3]; decide) (by rw [e_3]; decide) (by rw [e_3]; rfl) (by decide) ?_
          refine ex_aload_n dX6_told_64 rfl ?_
          obtain ⟨g4, h⟩ := h
          refine ex_getD (ci := 6) (j := 0) (v := r) dX6_told_65 (by decide) rfl rfl lk_X6_10 rfl g4 (rw_100 hr) ?_
          refine ex_getI (ci := 2) (j := 1) dX6_told_68 (rw_l hr 0 (by decide)) (rw_S0 hr) rfl lk_X6_52 ?_
          exact ex_iret dX6_told_71 rfl rfl rfl h
        · replace h := h.2
          by_cases e_4 : p1 = 4
          · replace h := h.1 e_4
            refine ex_tableIn (tgt := 72) dX6_told_1 (by rw [e_4]; decide) (by rw [e_4]; decide) (by rw [e_4]; rfl) (by decide) ?_
            refine ex_aload_n dX6_told_72 rfl ?_
            obtain ⟨g5, h⟩ := h
            refine ex_getD (ci := 6) (j := 2) (v := m) dX6_told_73 (by decide) rfl rfl lk_X6_22 rfl g5 (mu_100 hm) ?_
            refine ex_getI (ci := 0) (j := 1) dX6_told_76 (mu_l hm 0 (by decide)) (mu_S0 hm) rfl lk_X6_87 ?_
            exact ex_iret dX6_told_79 rfl rfl rfl h
          · replace h := h.2
            by_cases e_5 : p1 = 5
            · replace h := h.1 e_5
              refine ex_tableIn (tgt := 80) dX6_told_1 (by rw [e_5]; decide) (by rw [e_5]; decide) (by rw [e_5]; rfl) (by decide) ?_
              refine ex_aload_n dX6_told_80 rfl ?_
              obtain ⟨g6, h⟩ := h
              refine ex_getD (ci := 6) (j := 2) (v := m) dX6_told_81 (by decide) rfl rfl lk_X6_22 rfl g6 (mu_100 hm) ?_
              refine ex_invV (k := m) (ci := 0) (as := []) (L2 := [.ref m, .null]) (st := []) 0 0 dX6_told_84 lk_X6_98 sl_X0_lastSlot (rmK_of rfl) (mu_l hm 0 (by decide)) (mu_S0 hm) ⟨by decide, rfl⟩ rfl (Nat.le_of_ble_eq_true rfl) (Nat.le_of_ble_eq_true rfl) (t_X0_lastSlot m hm M _ h) (fun v7 M8 h => ?_)
              show Ex true mX6_told 78 78 0 0 87 [.ref 0, .int p1] [.int v7] M8 Q
              refine ex_if_ge (tgt := 94) dX6_told_87 (by decide) (fun c_87 => ?_) (fun c_87 => ?_)
              · replace h := h.1 c_87
                refine ex_aload_n dX6_told_94 rfl ?_
                obtain ⟨g9, h⟩ := h
                refine ex_getD (ci := 6) (j := 2) (v := m) dX6_told_95 (by decide) rfl rfl lk_X6_22 rfl g9 (mu_100 hm) ?_
                refine ex_aload_n dX6_told_98 rfl ?_
                obtain ⟨g10, h⟩ := h
                refine ex_getD (ci := 6) (j := 2) (v := m) dX6_told_99 (by decide) rfl rfl lk_X6_22 rfl g10 (mu_100 hm) ?_
                refine ex_invV (k := m) (ci := 0) (as := []) (L2 := [.ref m, .null]) (st := [.ref m]) 0 0 dX6_told_102 lk_X6_98 sl_X0_lastSlot (rmK_of rfl) (mu_l hm 0 (by decide)) (mu_S0 hm) ⟨by decide, rfl⟩ rfl (Nat.le_of_ble_eq_true rfl) (Nat.le_of_ble_eq_true rfl) (t_X0_lastSlot m hm M8 _ h) (fun v11 M12 h => ?_)
                show Ex true mX6_told 78 78 0 0 105 [.ref 0, .int p1] [.int v11, .ref m] M12 Q
                refine ex_invV (k := m) (ci := 0) (as := [.int v11]) (L2 := [.ref m, .int v11, .null, .null]) (st := []) 0 0 dX6_told_105 lk_X6_132 sl_X0_voiceLasts (rmK_of rfl) (mu_l hm 0 (by decide)) (mu_S0 hm) ⟨by decide, rfl⟩ rfl (Nat.le_of_ble_eq_true rfl) (Nat.le_of_ble_eq_true rfl) (t_X0_voiceLasts m hm v11 M12 _ h) (fun v13 M14 h => ?_)
                show Ex true mX6_told 78 78 0 0 108 [.ref 0, .int p1] [.int v13] M14 Q
                exact ex_iret dX6_told_108 rfl rfl rfl h
              · replace h := h.2 c_87
                refine ex_iconst (v := 0) dX6_told_90 (by decide) ?_
                refine ex_goto (tgt := 108) dX6_told_91 (by decide) ?_
                exact ex_iret dX6_told_108 rfl rfl rfl h
            · replace h := h.2
              replace h := h e_0 e_1 e_2 e_3 e_4 e_5
              refine ex_tableOut (tgt := 109) dX6_told_1 (sw_out6 e_0 e_1 e_2 e_3 e_4 e_5) (by decide) ?_
              refine ex_bipush (v := (-2)) dX6_told_109 (by decide) ?_
              exact ex_iret dX6_told_111 rfl rfl rfl h
