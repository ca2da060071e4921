def w_X3_sees (r m : Nat) (p1 : Int32) (p2 : Int32) (M : Mem) (Q : Int32 → Mem → Prop) : Prop := (M 40 2 = nI r) ∧ (w_X2_get r (M 40 4) M (fun v2 M3 => (¬ (v2 = p1) → (Q 0 M3)) ∧ ((v2 = p1) → ((M3 40 2 = nI r) ∧ (w_X2_get r ((M3 40 4) + 1) M3 (fun v5 M6 => ∀ z7 : Int32, z7 = (if v5 = p2 then 1 else 0) → (z7 = 0 ∨ z7 = 1) ∧ (Q z7 M6)))))))
theorem t_X3_sees (r m : Nat) (hr : RW r) (hm : MU m) (p1 : Int32) (p2 : Int32) (M : Mem) (Q : Int32 → Mem → Prop) (h : w_X3_sees r m p1 p2 M Q) : Ex true mX3_sees 78 78 0 0 0 [.ref 40, .int p1, .int p2] [] M Q := by
  unfold w_X3_sees at h
  refine ex_aload_n dX3_sees_0 rfl ?_
  obtain ⟨g1, h⟩ := h
  refine ex_getD (ci := 3) (j := 2) (v := r) dX3_sees_1 (by decide) rfl rfl lk_X3_22 rfl g1 (rw_100 hr) ?_
  refine ex_aload_n dX3_sees_4 rfl ?_
  refine ex_getI (ci := 3) (j := 4) dX3_sees_5 (by decide) rfl rfl lk_X3_30 ?_
  refine ex_invV (k := r) (ci := 2) (as := [.int (M 40 4)]) (L2 := [.ref r, .int (M 40 4)]) (st := []) 0 0 dX3_sees_8 lk_X3_61 sl_X2_get (rmK_of rfl) (rw_l hr 0 (by decide)) (rw_S0 hr) ⟨by decide, rfl⟩ rfl (Nat.le_of_ble_eq_true rfl) (Nat.le_of_ble_eq_true rfl) (t_X2_get r hr (M 40 4) M _ h) (fun v2 M3 h => ?_)
  show Ex true mX3_sees 78 78 0 0 11 [.ref 40, .int p1, .int p2] [.int v2] M3 Q
  refine ex_iload_n dX3_sees_11 rfl ?_
  refine ex_icmp_ne (tgt := 36) dX3_sees_12 (by decide) (fun c_12 => ?_) (fun c_12 => ?_)
  · replace h := h.1 c_12
    refine ex_iconst (v := 0) dX3_sees_36 (by decide) ?_
    exact ex_iret dX3_sees_37 rfl rfl rfl h
  · replace h := h.2 c_12
    refine ex_aload_n dX3_sees_15 rfl ?_
    obtain ⟨g4, h⟩ := h
    refine ex_getD (ci := 3) (j := 2) (v := r) dX3_sees_16 (by decide) rfl rfl lk_X3_22 rfl g4 (rw_100 hr) ?_
    refine ex_aload_n dX3_sees_19 rfl ?_
    refine ex_getI (ci := 3) (j := 4) dX3_sees_20 (by decide) rfl rfl lk_X3_30 ?_
    refine ex_iconst (v := 1) dX3_sees_23 (by decide) ?_
    refine ex_iadd dX3_sees_24 ?_
    refine ex_invV (k := r) (ci := 2) (as := [.int ((M3 40 4) + 1)]) (L2 := [.ref r, .int ((M3 40 4) + 1)]) (st := []) 0 0 dX3_sees_25 lk_X3_61 sl_X2_get (rmK_of rfl) (rw_l hr 0 (by decide)) (rw_S0 hr) ⟨by decide, rfl⟩ rfl (Nat.le_of_ble_eq_true rfl) (Nat.le_of_ble_eq_true rfl) (t_X2_get r hr ((M3 40 4) + 1) M3 _ h) (fun v5 M6 h => ?_)
    show Ex true mX3_sees 78 78 0 0 28 [.ref 40, .int p1, .int p2] [.int v5] M6 Q
    refine ex_iload_n dX3_sees_28 rfl ?_
    have hJ9 : ∀ z7 : Int32, z7 = (if v5 = p2 then 1 else 0) → Ex true mX3_sees 78 78 0 0 37 [.ref 40, .int p1, .int p2] [.int z7] M6 Q := by
      intro z7 ez7
      replace h := h z7 ez7
      obtain ⟨b8, h⟩ := h
      exact ex_iret dX3_sees_37 rfl (nr01 b8) rfl h
    refine ex_icmp_ne (tgt := 36) dX3_sees_29 (by decide) (fun c_29 => ?_) (fun c_29 => ?_)
    ·
      refine ex_iconst (v := 0) dX3_sees_36 (by decide) ?_
      exact hJ9 _ (by rw [if_neg c_29])
    ·
      refine ex_iconst (v := 1) dX3_sees_32 (by decide) ?_
      refine ex_goto (tgt := 37) dX3_sees_33 (by decide) ?_
      exact hJ9 _ (by rw [if_pos c_29])
def w_X3_peek (r m : Nat) (M : Mem) (Q : Int32 → Mem → Prop) : Prop := (M 40 2 = nI r) ∧ (w_X2_get r (M 40 4) M (fun v2 M3 => Q v2 M3))
theorem t_X3_peek (r m : Nat) (hr : RW r) (hm : MU m) (M : Mem) (Q : Int32 → Mem → Prop) (h : w_X3_peek r m  M Q) : Ex true mX3_peek 78 78 0 0 0 [.ref 40] [] M Q := by
  unfold w_X3_peek at h
  refine ex_aload_n dX3_peek_0 rfl ?_
  obtain ⟨g1, h⟩ := h
  refine ex_getD (ci := 3) (j := 2) (v := r) dX3_peek_1 (by decide) rfl rfl lk_X3_22 rfl g1 (rw_100 hr) ?_
  refine ex_aload_n dX3_peek_4 rfl ?_
  refine ex_getI (ci := 3) (j := 4) dX3_peek_5 (by decide) rfl rfl lk_X3_30 ?_
  refine ex_invV (k := r) (ci := 2) (as := [.int (M 40 4)]) (L2 := [.ref r, .int (M 40 4)]) (st := []) 0 0 dX3_peek_8 lk_X3_61 sl_X2_get (rmK_of rfl) (rw_l hr 0 (by decide)) (rw_S0 hr) ⟨by decide, rfl⟩ rfl (Nat.le_of_ble_eq_true rfl) (Nat.le_of_ble_eq_true rfl) (t_X2_get r hr (M 40 4) M _ h) (fun v2 M3 h => ?_)
  show Ex true mX3_peek 78 78 0 0 11 [.ref 40] [.int v2] M3 Q
  exact ex_iret dX3_peek_11 rfl rfl rfl h
def w_X3_readHand_22 (r m : Nat) (Q : Int32 → Mem → Prop) (M : Mem) : Prop := (M 40 3 = nI m) ∧ (w_X3_peek r m M (fun v4 M5 => ∀ z6 : Int32, z6 = (if v4 = 56 then 2 else 1) → ∀ M7 : Mem, M7 = (mset M5 m 1 z6) → ∀ M8 : Mem, M8 = (mset M7 40 4 ((M7 40 4) + 2)) → Q 0 M8))
theorem t_X3_readHand_22 (r m : Nat) (hr : RW r) (hm : MU m) (Q : Int32 → Mem → Prop) (M : Mem) (h : w_X3_readHand_22 r m Q   M) : Ex true mX3_readHand 78 78 0 0 22 [.ref 40] [] M Q := by
  unfold w_X3_readHand_22 at h
  refine ex_aload_n dX3_readHand_22 rfl ?_
  obtain ⟨g3, h⟩ := h
  refine ex_getD (ci := 3) (j := 3) (v := m) dX3_readHand_23 (by decide) rfl rfl lk_X3_26 rfl g3 (mu_100 hm) ?_
  refine ex_aload_n dX3_readHand_26 rfl ?_
  refine ex_invV (k := 40) (ci := 3) (as := []) (L2 := [.ref 40]) (st := [.ref m]) 0 0 dX3_readHand_27 lk_X3_69 sl_X3_peek (rmK_of rfl) (by decide) rfl ⟨by decide, rfl⟩ rfl (Nat.le_of_ble_eq_true rfl) (Nat.le_of_ble_eq_true rfl) (t_X3_peek r m hr hm M _ h) (fun v4 M5 h => ?_)
  show Ex true mX3_readHand 78 78 0 0 30 [.ref 40] [.int v4, .ref m] M5 Q
  refine ex_bipush (v := 56) dX3_readHand_30 (by decide) ?_
  have hJ9 : ∀ z6 : Int32, z6 = (if v4 = 56 then 2 else 1) → Ex true mX3_readHand 78 78 0 0 40 [.ref 40] [.int z6, .ref m] M5 Q := by
    intro z6 ez6
    replace h := h z6 ez6
    refine ex_putI (ci := 0) (j := 1) dX3_readHand_40 (mu_l hm 0 (by decide)) (mu_S0 hm) rfl lk_X3_73 ⟨rfl, rfl⟩ ?_
    refine ex_nmM (fun M7 eM7 => ?_)
    replace h := h M7 eM7
    refine ex_aload_n dX3_readHand_43 rfl ?_
    refine ex_dup dX3_readHand_44 rfl ?_
    refine ex_getI (ci := 3) (j := 4) dX3_readHand_45 (by decide) rfl rfl lk_X3_30 ?_
    refine ex_iconst (v := 2) dX3_readHand_48 (by decide) ?_
    refine ex_iadd dX3_readHand_49 ?_
    refine ex_putI (ci := 3) (j := 4) dX3_readHand_50 (by decide) rfl rfl lk_X3_30 ⟨rfl, rfl⟩ ?_
    refine ex_nmM (fun M8 eM8 => ?_)
    replace h := h M8 eM8
    exact ex_vret dX3_readHand_53 rfl rfl h
  refine ex_icmp_ne (tgt := 39) dX3_readHand_32 (by decide) (fun c_32 => ?_) (fun c_32 => ?_)
  ·
    refine ex_iconst (v := 1) dX3_readHand_39 (by decide) ?_
    exact hJ9 _ (by rw [if_neg c_32])
  ·
    refine ex_iconst (v := 2) dX3_readHand_35 (by decide) ?_
    refine ex_goto (tgt := 40) dX3_readHand_36 (by decide) ?_
    exact hJ9 _ (by rw [if_pos c_32])
def w_X3_readHand (r m : Nat) (M : Mem) (Q : Int32 → Mem → Prop) : Prop := w_X3_sees r m 40 28 M (fun v1 M2 => (¬ (v1 = 0) → (w_X3_readHand_22 r m Q   M2)) ∧ ((v1 = 0) → (w_X3_sees r m 56 28 M2 (fun v10 M11 => ((v10 = 0) → (Q 0 M11)) ∧ (¬ (v10 = 0) → (w_X3_readHand_22 r m Q   M11))))))
theorem t_X3_readHand (r m : Nat) (hr : RW r) (hm : MU m) (M : Mem) (Q : Int32 → Mem → Prop) (h : w_X3_readHand r m  M Q) : Ex true mX3_readHand 78 78 0 0 0 [.ref 40] [] M Q := by
  unfold w_X3_readHand at h
  refine ex_aload_n dX3_readHand_0 rfl ?_
  refine ex_bipush (v := 40) dX3_readHand_1 (by decide) ?_
  refine ex_bipush (v := 28) dX3_readHand_3 (by decide) ?_
  refine ex_invV (k := 40) (ci := 3) (as := [.int 40, .int 28]) (L2 := [.ref 40, .int 40, .int 28]) (st := []) 0 0 dX3_readHand_5 lk_X3_65 sl_X3_sees (rmK_of rfl) (by decide) rfl ⟨by decide, rfl⟩ rfl (Nat.le_of_ble_eq_true rfl) (Nat.le_of_ble_eq_true rfl) (t_X3_sees r m hr hm 40 28 M _ h) (fun v1 M2 h => ?_)
  show Ex true mX3_readHand 78 78 0 0 8 [.ref 40] [.int v1] M2 Q
  refine ex_if_ne (tgt := 22) dX3_readHand_8 (by decide) (fun c_8 => ?_) (fun c_8 => ?_)
  · replace h := h.1 c_8
    exact t_X3_readHand_22 r m hr hm  Q    M2 h
  · replace h := h.2 c_8
    refine ex_aload_n dX3_readHand_11 rfl ?_
    refine ex_bipush (v := 56) dX3_readHand_12 (by decide) ?_
    refine ex_bipush (v := 28) dX3_readHand_14 (by decide) ?_
    refine ex_invV (k := 40) (ci := 3) (as := [.int 56, .int 28]) (L2 := [.ref 40, .int 56, .int 28]) (st := []) 0 0 dX3_readHand_16 lk_X3_65 sl_X3_sees (rmK_of rfl) (by decide) rfl ⟨by decide, rfl⟩ rfl (Nat.le_of_ble_eq_true rfl) (Nat.le_of_ble_eq_true rfl) (t_X3_sees r m hr hm 56 28 M2 _ h) (fun v10 M11 h => ?_)
    show Ex true mX3_readHand 78 78 0 0 19 [.ref 40] [.int v10] M11 Q
    refine ex_if_eq (tgt := 53) dX3_readHand_19 (by decide) (fun c_19 => ?_) (fun c_19 => ?_)
    · replace h := h.1 c_19
      exact ex_vret dX3_readHand_53 rfl rfl h
    · replace h := h.2 c_19
      exact t_X3_readHand_22 r m hr hm  Q    M11 h
def w_X3_beginBar_56 (r m : Nat) (Q : Int32 → Mem → Prop) (l1 : Int32) (M : Mem) : Prop := (M 40 3 = nI m) ∧ (w_X0_startBar m l1 M (fun v9 M10 => (¬ (v9 = 0) → (∀ z11 : Int32, z11 = (if l1 = 0 then 0 else 1) → ∀ M12 : Mem, M12 = (mset M10 40 4 ((M10 40 4) + z11)) → Q 1 M12)) ∧ ((v9 = 0) → (Q 0 M10))))
theorem t_X3_beginBar_56 (r m : Nat) (hr : RW r) (hm : MU m) (Q : Int32 → Mem → Prop) (l1 : Int32) (M : Mem) (h : w_X3_beginBar_56 r m Q  l1 M) : Ex true mX3_beginBar 78 78 0 0 56 [.ref 40, .int l1] [] M Q := by
  unfold w_X3_beginBar_56 at h
  refine ex_aload_n dX3_beginBar_56 rfl ?_
  obtain ⟨g8, h⟩ := h
  refine ex_getD (ci := 3) (j := 3) (v := m) dX3_beginBar_57 (by decide) rfl rfl lk_X3_26 rfl g8 (mu_100 hm) ?_
  refine ex_iload_n dX3_beginBar_60 rfl ?_
  refine ex_invV (k := m) (ci := 0) (as := [.int l1]) (L2 := [.ref m, .int l1]) (st := []) 0 0 dX3_beginBar_61 lk_X3_89 sl_X0_startBar (rmK_of rfl) (mu_l hm 0 (by decide)) (mu_S0 hm) ⟨by decide, rfl⟩ rfl (Nat.le_of_ble_eq_true rfl) (Nat.le_of_ble_eq_true rfl) (t_X0_startBar m hm l1 M _ h) (fun v9 M10 h => ?_)
  show Ex true mX3_beginBar 78 78 0 0 64 [.ref 40, .int l1] [.int v9] M10 Q
  refine ex_if_ne (tgt := 69) dX3_beginBar_64 (by decide) (fun c_64 => ?_) (fun c_64 => ?_)
  · replace h := h.1 c_64
    refine ex_aload_n dX3_beginBar_69 rfl ?_
    refine ex_dup dX3_beginBar_70 rfl ?_
    refine ex_getI (ci := 3) (j := 4) dX3_beginBar_71 (by decide) rfl rfl lk_X3_30 ?_
    refine ex_iload_n dX3_beginBar_74 rfl ?_
    have hJ13 : ∀ z11 : Int32, z11 = (if l1 = 0 then 0 else 1) → Ex true mX3_beginBar 78 78 0 0 83 [.ref 40, .int l1] [.int z11, .int (M10 40 4), .ref 40] M10 Q := by
      intro z11 ez11
      replace h := h z11 ez11
      refine ex_iadd dX3_beginBar_83 ?_
      refine ex_putI (ci := 3) (j := 4) dX3_beginBar_84 (by decide) rfl rfl lk_X3_30 ⟨rfl, rfl⟩ ?_
      refine ex_nmM (fun M12 eM12 => ?_)
      replace h := h M12 eM12
      refine ex_iconst (v := 1) dX3_beginBar_87 (by decide) ?_
      exact ex_iret dX3_beginBar_88 rfl rfl rfl h
    refine ex_if_eq (tgt := 82) dX3_beginBar_75 (by decide) (fun c_75 => ?_) (fun c_75 => ?_)
    ·
      refine ex_iconst (v := 0) dX3_beginBar_82 (by decide) ?_
      exact hJ13 _ (by rw [if_pos c_75])
    ·
      refine ex_iconst (v := 1) dX3_beginBar_78 (by decide) ?_
      refine ex_goto (tgt := 83) dX3_beginBar_79 (by decide) ?_
      exact hJ13 _ (by rw [if_neg c_75])
  · replace h := h.2 c_64
    refine ex_iconst (v := 0) dX3_beginBar_67 (by decide) ?_
    exact ex_iret dX3_beginBar_68 rfl rfl rfl h
def w_X3_beginBar (r m : Nat) (M : Mem) (Q : Int32 → Mem → Prop) : Prop := (M 40 3 = nI m) ∧ ((M 40 3 = nI m) ∧ (w_X1_enterBar 41 m (M m 2) M (fun v3 M4 => w_X3_peek r m M4 (fun v5 M6 => ∀ z7 : Int32, z7 = (if v5 = 54 then 1 else 0) → ((z7 = 0) → (w_X3_beginBar_56 r m Q  z7 M6)) ∧ (¬ (z7 = 0) → ((M6 40 3 = nI m) ∧ ((((M6 m 2) = 0) → (Q 0 M6)) ∧ (¬ ((M6 m 2) = 0) → ((((M6 40 5) = 0) → (w_X3_beginBar_56 r m Q  z7 M6)) ∧ (¬ ((M6 40 5) = 0) → (Q 0 M6)))))))))))
theorem t_X3_beginBar (r m : Nat) (hr : RW r) (hm : MU m) (M : Mem) (Q : Int32 → Mem → Prop) (h : w_X3_beginBar r m  M Q) : Ex true mX3_beginBar 78 78 0 0 0 [.ref 40, .null] [] M Q := by
  unfold w_X3_beginBar at h
  refine ex_aload_n dX3_beginBar_0 rfl ?_
  refine ex_getR (ci := 3) (j := 1) (v := 41) dX3_beginBar_1 (by decide) rfl rfl lk_X3_12 rfl (by decide) ?_
  refine ex_aload_n dX3_beginBar_4 rfl ?_
  obtain ⟨g1, h⟩ := h
  refine ex_getD (ci := 3) (j := 3) (v := m) dX3_beginBar_5 (by decide) rfl rfl lk_X3_26 rfl g1 (mu_100 hm) ?_
  refine ex_aload_n dX3_beginBar_8 rfl ?_
  obtain ⟨g2, h⟩ := h
  refine ex_getD (ci := 3) (j := 3) (v := m) dX3_beginBar_9 (by decide) rfl rfl lk_X3_26 rfl g2 (mu_100 hm) ?_
  refine ex_getI (ci := 0) (j := 2) dX3_beginBar_12 (mu_l hm 0 (by decide)) (mu_S0 hm) rfl lk_X3_56 ?_
  refine ex_invV (k := 41) (ci := 1) (as := [.ref m, .int (M m 2)]) (L2 := [.ref 41, .ref m, .int (M m 2), .null]) (st := []) 0 0 dX3_beginBar_15 lk_X3_85 sl_X1_enterBar (rmK_of rfl) (by decide) rfl ⟨by decide, rfl⟩ rfl (Nat.le_of_ble_eq_true rfl) (Nat.le_of_ble_eq_true rfl) (t_X1_enterBar 41 m (Or.inl rfl) hm (M m 2) M _ h) (fun v3 M4 h => ?_)
  show Ex true mX3_beginBar 78 78 0 0 18 [.ref 40, .null] [] M4 Q
  refine ex_aload_n dX3_beginBar_18 rfl ?_
  refine ex_invV (k := 40) (ci := 3) (as := []) (L2 := [.ref 40]) (st := []) 0 0 dX3_beginBar_19 lk_X3_69 sl_X3_peek (rmK_of rfl) (by decide) rfl ⟨by decide, rfl⟩ rfl (Nat.le_of_ble_eq_true rfl) (Nat.le_of_ble_eq_true rfl) (t_X3_peek r m hr hm M4 _ h) (fun v5 M6 h => ?_)
  show Ex true mX3_beginBar 78 78 0 0 22 [.ref 40, .null] [.int v5] M6 Q
  refine ex_bipush (v := 54) dX3_beginBar_22 (by decide) ?_
  have hJ15 : ∀ z7 : Int32, z7 = (if v5 = 54 then 1 else 0) → Ex true mX3_beginBar 78 78 0 0 32 [.ref 40, .null] [.int z7] M6 Q := by
    intro z7 ez7
    replace h := h z7 ez7
    refine ex_istore_n (L2 := [.ref 40, .int z7]) dX3_beginBar_32 (by decide) rfl rfl ?_
    refine ex_iload_n dX3_beginBar_33 rfl ?_
    refine ex_if_eq (tgt := 56) dX3_beginBar_34 (by decide) (fun c_34 => ?_) (fun c_34 => ?_)
    · replace h := h.1 c_34
      exact t_X3_beginBar_56 r m hr hm  Q   z7 M6 h
    · replace h := h.2 c_34
      refine ex_aload_n dX3_beginBar_37 rfl ?_
      obtain ⟨g14, h⟩ := h
      refine ex_getD (ci := 3) (j := 3) (v := m) dX3_beginBar_38 (by decide) rfl rfl lk_X3_26 rfl g14 (mu_100 hm) ?_
      refine ex_getI (ci := 0) (j := 2) dX3_beginBar_41 (mu_l hm 0 (by decide)) (mu_S0 hm) rfl lk_X3_56 ?_
      refine ex_if_eq (tgt := 54) dX3_beginBar_44 (by decide) (fun c_44 => ?_) (fun c_44 => ?_)
      · replace h := h.1 c_44
        refine ex_iconst (v := 0) dX3_beginBar_54 (by decide) ?_
        exact ex_iret dX3_beginBar_55 rfl rfl rfl h
      · replace h := h.2 c_44
        refine ex_aload_n dX3_beginBar_47 rfl ?_
        refine ex_getI (ci := 3) (j := 5) dX3_beginBar_48 (by decide) rfl rfl lk_X3_34 ?_
        refine ex_if_eq (tgt := 56) dX3_beginBar_51 (by decide) (fun c_51 => ?_) (fun c_51 => ?_)
        · replace h := h.1 c_51
          exact t_X3_beginBar_56 r m hr hm  Q   z7 M6 h
        · replace h := h.2 c_51
          refine ex_iconst (v := 0) dX3_beginBar_54 (by decide) ?_
          exact ex_iret dX3_beginBar_55 rfl rfl rfl h
  refine ex_icmp_ne (tgt := 31) dX3_beginBar_24 (by decide) (fun c_24 => ?_) (fun c_24 => ?_)
  ·
    refine ex_iconst (v := 0) dX3_beginBar_31 (by decide) ?_
    exact hJ15 _ (by rw [if_neg c_24])
  ·
    refine ex_iconst (v := 1) dX3_beginBar_27 (by decide) ?_
    refine ex_goto (tgt := 32) dX3_beginBar_28 (by decide) ?_
    exact hJ15 _ (by rw [if_pos c_24])
def w_X3_readSizeSign_17 (r m : Nat) (Q : Int32 → Mem → Prop) (l1 : Int32) (M : Mem) : Prop := (M 40 2 = nI r) ∧ (w_X2_get r ((M 40 4) + 1) M (fun v4 M5 => ((v4 = 35) → (∀ M6 : Mem, M6 = (mset M5 40 4 ((M5 40 4) + 2)) → w_X3_peek r m M6 (fun v7 M8 => ((v7 = 2) → (∀ M9 : Mem, M9 = (mset M8 40 4 ((M8 40 4) + 1)) → ∀ z10 : Int32, z10 = (if l1 = 24 then 0 else 1) → ∀ M11 : Mem, M11 = (mset M9 40 6 z10) → Q 1 M11)) ∧ (¬ (v7 = 2) → (Q 0 M8))))) ∧ (¬ (v4 = 35) → (Q 1 M5))))
theorem t_X3_readSizeSign_17 (r m : Nat) (hr : RW r) (hm : MU m) (Q : Int32 → Mem → Prop) (l1 : Int32) (M : Mem) (h : w_X3_readSizeSign_17 r m Q  l1 M) : Ex true mX3_readSizeSign 78 78 0 0 17 [.ref 40, .int l1] [] M Q := by
  unfold w_X3_readSizeSign_17 at h
  refine ex_aload_n dX3_readSizeSign_17 rfl ?_
  obtain ⟨g3, h⟩ := h
  refine ex_getD (ci := 3) (j := 2) (v := r) dX3_readSizeSign_18 (by decide) rfl rfl lk_X3_22 rfl g3 (rw_100 hr) ?_
  refine ex_aload_n dX3_readSizeSign_21 rfl ?_
  refine ex_getI (ci := 3) (j := 4) dX3_readSizeSign_22 (by decide) rfl rfl lk_X3_30 ?_
  refine ex_iconst (v := 1) dX3_readSizeSign_25 (by decide) ?_
  refine ex_iadd dX3_readSizeSign_26 ?_
  refine ex_invV (k := r) (ci := 2) (as := [.int ((M 40 4) + 1)]) (L2 := [.ref r, .int ((M 40 4) + 1)]) (st := []) 0 0 dX3_readSizeSign_27 lk_X3_61 sl_X2_get (rmK_of rfl) (rw_l hr 0 (by decide)) (rw_S0 hr) ⟨by decide, rfl⟩ rfl (Nat.le_of_ble_eq_true rfl) (Nat.le_of_ble_eq_true rfl) (t_X2_get r hr ((M 40 4) + 1) M _ h) (fun v4 M5 h => ?_)
  show Ex true mX3_readSizeSign 78 78 0 0 30 [.ref 40, .int l1] [.int v4] M5 Q
  refine ex_bipush (v := 35) dX3_readSizeSign_30 (by decide) ?_
  refine ex_icmp_eq (tgt := 37) dX3_readSizeSign_32 (by decide) (fun c_32 => ?_) (fun c_32 => ?_)
  · replace h := h.1 c_32
    refine ex_aload_n dX3_readSizeSign_37 rfl ?_
    refine ex_dup dX3_readSizeSign_38 rfl ?_
    refine ex_getI (ci := 3) (j := 4) dX3_readSizeSign_39 (by decide) rfl rfl lk_X3_30 ?_
    refine ex_iconst (v := 2) dX3_readSizeSign_42 (by decide) ?_
    refine ex_iadd dX3_readSizeSign_43 ?_
    refine ex_putI (ci := 3) (j := 4) dX3_readSizeSign_44 (by decide) rfl rfl lk_X3_30 ⟨rfl, rfl⟩ ?_
    refine ex_nmM (fun M6 eM6 => ?_)
    replace h := h M6 eM6
    refine ex_aload_n dX3_readSizeSign_47 rfl ?_
    refine ex_invV (k := 40) (ci := 3) (as := []) (L2 := [.ref 40]) (st := []) 0 0 dX3_readSizeSign_48 lk_X3_69 sl_X3_peek (rmK_of rfl) (by decide) rfl ⟨by decide, rfl⟩ rfl (Nat.le_of_ble_eq_true rfl) (Nat.le_of_ble_eq_true rfl) (t_X3_peek r m hr hm M6 _ h) (fun v7 M8 h => ?_)
    show Ex true mX3_readSizeSign 78 78 0 0 51 [.ref 40, .int l1] [.int v7] M8 Q
    refine ex_iconst (v := 2) dX3_readSizeSign_51 (by decide) ?_
    refine ex_icmp_eq (tgt := 57) dX3_readSizeSign_52 (by decide) (fun c_52 => ?_) (fun c_52 => ?_)
    · replace h := h.1 c_52
      refine ex_aload_n dX3_readSizeSign_57 rfl ?_
      refine ex_dup dX3_readSizeSign_58 rfl ?_
      refine ex_getI (ci := 3) (j := 4) dX3_readSizeSign_59 (by decide) rfl rfl lk_X3_30 ?_
      refine ex_iconst (v := 1) dX3_readSizeSign_62 (by decide) ?_
      refine ex_iadd dX3_readSizeSign_63 ?_
      refine ex_putI (ci := 3) (j := 4) dX3_readSizeSign_64 (by decide) rfl rfl lk_X3_30 ⟨rfl, rfl⟩ ?_
      refine ex_nmM (fun M9 eM9 => ?_)
      replace h := h M9 eM9
      refine ex_aload_n dX3_readSizeSign_67 rfl ?_
      refine ex_iload_n dX3_readSizeSign_68 rfl ?_
      refine ex_bipush (v := 24) dX3_readSizeSign_69 (by decide) ?_
      have hJ12 : ∀ z10 : Int32, z10 = (if l1 = 24 then 0 else 1) → Ex true mX3_readSizeSign 78 78 0 0 79 [.ref 40, .int l1] [.int z10, .ref 40] M9 Q := by
        intro z10 ez10
        replace h := h z10 ez10
        refine ex_putI (ci := 3) (j := 6) dX3_readSizeSign_79 (by decide) rfl rfl lk_X3_93 ⟨rfl, rfl⟩ ?_
        refine ex_nmM (fun M11 eM11 => ?_)
        replace h := h M11 eM11
        refine ex_iconst (v := 1) dX3_readSizeSign_82 (by decide) ?_
        exact ex_iret dX3_readSizeSign_83 rfl rfl rfl h
      refine ex_icmp_ne (tgt := 78) dX3_readSizeSign_71 (by decide) (fun c_71 => ?_) (fun c_71 => ?_)
      ·
        refine ex_iconst (v := 1) dX3_readSizeSign_78 (by decide) ?_
        exact hJ12 _ (by rw [if_neg c_71])
      ·
        refine ex_iconst (v := 0) dX3_readSizeSign_74 (by decide) ?_
        refine ex_goto (tgt := 79) dX3_readSizeSign_75 (by decide) ?_
        exact hJ12 _ (by rw [if_pos c_71])
    · replace h := h.2 c_52
      refine ex_iconst (v := 0) dX3_readSizeSign_55 (by decide) ?_
      exact ex_iret dX3_readSizeSign_56 rfl rfl rfl h
  · replace h := h.2 c_32
    refine ex_iconst (v := 1) dX3_readSizeSign_35 (by decide) ?_
    exact ex_iret dX3_readSizeSign_36 rfl rfl rfl h
def w_X3_readSizeSign (r m : Nat) (M : Mem) (Q : Int32 → Mem → Prop) : Prop := w_X3_peek r m M (fun v1 M2 => ((v1 = 24) → (w_X3_readSizeSign_17 r m Q  v1 M2)) ∧ (¬ (v1 = 24) → ((¬ (v1 = 32) → (Q 1 M2)) ∧ ((v1 = 32) → (w_X3_readSizeSign_17 r m Q  v1 M2)))))
theorem t_X3_readSizeSign (r m : Nat) (hr : RW r) (hm : MU m) (M : Mem) (Q : Int32 → Mem → Prop) (h : w_X3_readSizeSign r m  M Q) : Ex true mX3_readSizeSign 78 78 0 0 0 [.ref 40, .null] [] M Q := by
  unfold w_X3_readSizeSign at h
  refine ex_aload_n dX3_readSizeSign_0 rfl ?_
  refine ex_invV (k := 40) (ci := 3) (as := []) (L2 := [.ref 40]) (st := []) 0 0 dX3_readSizeSign_1 lk_X3_69 sl_X3_peek (rmK_of rfl) (by decide) rfl ⟨by decide, rfl⟩ rfl (Nat.le_of_ble_eq_true rfl) (Nat.le_of_ble_eq_true rfl) (t_X3_peek r m hr hm M _ h) (fun v1 M2 h => ?_)
  show Ex true mX3_readSizeSign 78 78 0 0 4 [.ref 40, .null] [.int v1] M2 Q
  refine ex_istore_n (L2 := [.ref 40, .int v1]) dX3_readSizeSign_4 (by decide) rfl rfl ?_
  refine ex_iload_n dX3_readSizeSign_5 rfl ?_
  refine ex_bipush (v := 24) dX3_readSizeSign_6 (by decide) ?_
  refine ex_icmp_eq (tgt := 17) dX3_readSizeSign_8 (by decide) (fun c_8 => ?_) (fun c_8 => ?_)
  · replace h := h.1 c_8
    exact t_X3_readSizeSign_17 r m hr hm  Q   v1 M2 h
  · replace h := h.2 c_8
    refine ex_iload_n dX3_readSizeSign_11 rfl ?_
    refine ex_bipush (v := 32) dX3_readSizeSign_12 (by decide) ?_
    refine ex_icmp_ne (tgt := 35) dX3_readSizeSign_14 (by decide) (fun c_14 => ?_) (fun c_14 => ?_)
    · replace h := h.1 c_14
      refine ex_iconst (v := 1) dX3_readSizeSign_35 (by decide) ?_
      exact ex_iret dX3_readSizeSign_36 rfl rfl rfl h
    · replace h := h.2 c_14
      exact t_X3_readSizeSign_17 r m hr hm  Q   v1 M2 h
def w_X3_readOpen (r m : Nat) (M : Mem) (Q : Int32 → Mem → Prop) : Prop := w_X3_sees r m 48 3 M (fun v1 M2 => (¬ (v1 = 0) → ((((M2 40 5) = 0) → (∀ M3 : Mem, M3 = (mset M2 40 5 1) → ∀ M4 : Mem, M4 = (mset M3 40 4 ((M3 40 4) + 2)) → Q 1 M4)) ∧ (¬ ((M2 40 5) = 0) → (∀ M5 : Mem, M5 = (mset M2 40 4 ((M2 40 4) + 1)) → Q 0 M5)))) ∧ ((v1 = 0) → (Q 1 M2)))
theorem t_X3_readOpen (r m : Nat) (hr : RW r) (hm : MU m) (M : Mem) (Q : Int32 → Mem → Prop) (h : w_X3_readOpen r m  M Q) : Ex true mX3_readOpen 78 78 0 0 0 [.ref 40] [] M Q := by
  unfold w_X3_readOpen at h
  refine ex_aload_n dX3_readOpen_0 rfl ?_
  refine ex_bipush (v := 48) dX3_readOpen_1 (by decide) ?_
  refine ex_iconst (v := 3) dX3_readOpen_3 (by decide) ?_
  refine ex_invV (k := 40) (ci := 3) (as := [.int 48, .int 3]) (L2 := [.ref 40, .int 48, .int 3]) (st := []) 0 0 dX3_readOpen_4 lk_X3_65 sl_X3_sees (rmK_of rfl) (by decide) rfl ⟨by decide, rfl⟩ rfl (Nat.le_of_ble_eq_true rfl) (Nat.le_of_ble_eq_true rfl) (t_X3_sees r m hr hm 48 3 M _ h) (fun v1 M2 h => ?_)
  show Ex true mX3_readOpen 78 78 0 0 7 [.ref 40] [.int v1] M2 Q
  refine ex_if_ne (tgt := 12) dX3_readOpen_7 (by decide) (fun c_7 => ?_) (fun c_7 => ?_)
  · replace h := h.1 c_7
    refine ex_aload_n dX3_readOpen_12 rfl ?_
    refine ex_getI (ci := 3) (j := 5) dX3_readOpen_13 (by decide) rfl rfl lk_X3_34 ?_
    refine ex_if_eq (tgt := 31) dX3_readOpen_16 (by decide) (fun c_16 => ?_) (fun c_16 => ?_)
    · replace h := h.1 c_16
      refine ex_aload_n dX3_readOpen_31 rfl ?_
      refine ex_iconst (v := 1) dX3_readOpen_32 (by decide) ?_
      refine ex_putI (ci := 3) (j := 5) dX3_readOpen_33 (by decide) rfl rfl lk_X3_34 ⟨rfl, rfl⟩ ?_
      refine ex_nmM (fun M3 eM3 => ?_)
      replace h := h M3 eM3
      refine ex_aload_n dX3_readOpen_36 rfl ?_
      refine ex_dup dX3_readOpen_37 rfl ?_
      refine ex_getI (ci := 3) (j := 4) dX3_readOpen_38 (by decide) rfl rfl lk_X3_30 ?_
      refine ex_iconst (v := 2) dX3_readOpen_41 (by decide) ?_
      refine ex_iadd dX3_readOpen_42 ?_
      refine ex_putI (ci := 3) (j := 4) dX3_readOpen_43 (by decide) rfl rfl lk_X3_30 ⟨rfl, rfl⟩ ?_
      refine ex_nmM (fun M4 eM4 => ?_)
      replace h := h M4 eM4
      refine ex_iconst (v := 1) dX3_readOpen_46 (by decide) ?_
      exact ex_iret dX3_readOpen_47 rfl rfl rfl h
    · replace h := h.2 c_16
      refine ex_aload_n dX3_readOpen_19 rfl ?_
      refine ex_dup dX3_readOpen_20 rfl ?_
      refine ex_getI (ci := 3) (j := 4) dX3_readOpen_21 (by decide) rfl rfl lk_X3_30 ?_
      refine ex_iconst (v := 1) dX3_readOpen_24 (by decide) ?_
      refine ex_iadd dX3_readOpen_25 ?_
      refine ex_putI (ci := 3) (j := 4) dX3_readOpen_26 (by decide) rfl rfl lk_X3_30 ⟨rfl, rfl⟩ ?_
      refine ex_nmM (fun M5 eM5 => ?_)
      replace h := h M5 eM5
      refine ex_iconst (v := 0) dX3_readOpen_29 (by decide) ?_
      exact ex_iret dX3_readOpen_30 rfl rfl rfl h
  · replace h := h.2 c_7
    refine ex_iconst (v := 1) dX3_readOpen_10 (by decide) ?_
    exact ex_iret dX3_readOpen_11 rfl rfl rfl h
def wb_X3_readDots_2 (r m : Nat) (Q : Int32 → Mem → Prop) (B2 : Int32 → Mem → Prop) (l1 : Int32) (M : Mem) : Prop := ((2 ≤ l1) → (Q l1 M)) ∧ (¬ (2 ≤ l1) → (w_X3_peek r m M (fun v1 M2 => (¬ (v1 = 4) → (Q l1 M2)) ∧ ((v1 = 4) → (∀ x3 : Int32, x3 = l1 + 1 → ∀ M4 : Mem, M4 = (mset M2 40 4 ((M2 40 4) + 1)) → B2 x3 M4)))))
def w_X3_readDots_2 (r m : Nat) (Q : Int32 → Mem → Prop) : Nat → Int32 → Mem → Prop
  | 0 => fun _ _ => False
  | k + 1 => wb_X3_readDots_2 r m Q  (w_X3_readDots_2 r m Q  k)
theorem t_X3_readDots_2 (r m : Nat) (hr : RW r) (hm : MU m) (Q : Int32 → Mem → Prop) : ∀ (k : Nat) (l1 : Int32) (M : Mem), w_X3_readDots_2 r m Q  k l1 M → Ex true mX3_readDots 78 78 0 0 2 [.ref 40, .int l1] [] M Q := by
  intro k
  induction k with
  | zero => intro l1 M h; exact False.elim h
  | succ k hB2 =>
    intro l1 M h
    replace h : wb_X3_readDots_2 r m Q  (w_X3_readDots_2 r m Q  k) l1 M := h
    generalize w_X3_readDots_2 r m Q  k = B2 at hB2 h
    unfold wb_X3_readDots_2 at h
    refine ex_iload_n dX3_readDots_2 rfl ?_
    refine ex_iconst (v := 2) dX3_readDots_3 (by decide) ?_
    refine ex_icmp_ge (tgt := 31) dX3_readDots_4 (by decide) (fun c_4 => ?_) (fun c_4 => ?_)
    · replace h := h.1 c_4
      refine ex_iload_n dX3_readDots_31 rfl ?_
      exact ex_iret dX3_readDots_32 rfl rfl rfl h
    · replace h := h.2 c_4
      refine ex_aload_n dX3_readDots_7 rfl ?_
      refine ex_invV (k := 40) (ci := 3) (as := []) (L2 := [.ref 40]) (st := []) 0 0 dX3_readDots_8 lk_X3_69 sl_X3_peek (rmK_of rfl) (by decide) rfl ⟨by decide, rfl⟩ rfl (Nat.le_of_ble_eq_true rfl) (Nat.le_of_ble_eq_true rfl) (t_X3_peek r m hr hm M _ h) (fun v1 M2 h => ?_)
      show Ex true mX3_readDots 78 78 0 0 11 [.ref 40, .int l1] [.int v1] M2 Q
      refine ex_iconst (v := 4) dX3_readDots_11 (by decide) ?_
      refine ex_icmp_ne (tgt := 31) dX3_readDots_12 (by decide) (fun c_12 => ?_) (fun c_12 => ?_)
      · replace h := h.1 c_12
        refine ex_iload_n dX3_readDots_31 rfl ?_
        exact ex_iret dX3_readDots_32 rfl rfl rfl h
      · replace h := h.2 c_12
        refine ex_iinc (v := l1 + 1) (L2 := [.ref 40, .int (l1 + 1)]) dX3_readDots_15 rfl rfl (by decide) rfl rfl ?_
        obtain ⟨x3, ex3⟩ : ∃ x3 : Int32, x3 = l1 + 1 := ⟨_, rfl⟩
        rw [← ex3]
        replace h := h x3 ex3
        refine ex_aload_n dX3_readDots_18 rfl ?_
        refine ex_dup dX3_readDots_19 rfl ?_
        refine ex_getI (ci := 3) (j := 4) dX3_readDots_20 (by decide) rfl rfl lk_X3_30 ?_
        refine ex_iconst (v := 1) dX3_readDots_23 (by decide) ?_
        refine ex_iadd dX3_readDots_24 ?_
        refine ex_putI (ci := 3) (j := 4) dX3_readDots_25 (by decide) rfl rfl lk_X3_30 ⟨rfl, rfl⟩ ?_
        refine ex_nmM (fun M4 eM4 => ?_)
        replace h := h M4 eM4
        refine ex_goto (tgt := 2) dX3_readDots_28 (by decide) ?_
        exact hB2 x3 M4 h
def w_X3_readDots (r m : Nat) (M : Mem) (Q : Int32 → Mem → Prop) : Prop := ∃ k, w_X3_readDots_2 r m Q  k 0 M
theorem t_X3_readDots (r m : Nat) (hr : RW r) (hm : MU m) (M : Mem) (Q : Int32 → Mem → Prop) (h : w_X3_readDots r m  M Q) : Ex true mX3_readDots 78 78 0 0 0 [.ref 40, .null] [] M Q := by
  unfold w_X3_readDots at h
  refine ex_iconst (v := 0) dX3_readDots_0 (by decide) ?_
  refine ex_istore_n (L2 := [.ref 40, .int 0]) dX3_readDots_1 (by decide) rfl rfl ?_
  obtain ⟨k_, h⟩ := h
  exact t_X3_readDots_2 r m hr hm  Q   k_ 0 M h
def w_X3_readNote_132 (r m : Nat) (Q : Int32 → Mem → Prop) (l1 : Int32) (l2 : Int32) (l3 : Int32) (l4 : Int32) (t0 : Int32) (M : Mem) : Prop := w_X6_isPitch t0 M (fun v21 M22 => (¬ (v21 = 0) → (w_X1_heard 41 t0 M22 (fun v23 M24 => ∀ M25 : Mem, M25 = (mset M24 40 4 ((M24 40 4) + 1)) → w_X6_indexIn 1 (l3 &&& 36) M25 (fun v26 M27 => (M27 40 3 = nI m) ∧ (w_X3_readDots r m M27 (fun v29 M30 => w_X0_addItem m t0 l1 v26 (M27 40 6) v29 M30 (fun v31 M32 => ∀ z33 : Int32, z33 = (if v31 = (-1) then 0 else 1) → (z33 = 0 ∨ z33 = 1) ∧ (Q z33 M32)))))))) ∧ ((v21 = 0) → (Q 0 M22)))
theorem t_X3_readNote_132 (r m : Nat) (hr : RW r) (hm : MU m) (Q : Int32 → Mem → Prop) (l1 : Int32) (l2 : Int32) (l3 : Int32) (l4 : Int32) (t0 : Int32) (M : Mem) (h : w_X3_readNote_132 r m Q  l1 l2 l3 l4 t0 M) : Ex true mX3_readNote 78 78 0 0 132 [.ref 40, .int l1, .int l2, .int l3, .int l4, .null, .null] [.int t0] M Q := by
  unfold w_X3_readNote_132 at h
  refine ex_istore (L2 := [.ref 40, .int l1, .int l2, .int l3, .int l4, .int t0, .null]) dX3_readNote_132 (by decide) rfl rfl ?_
  refine ex_iload dX3_readNote_134 rfl ?_
  refine ex_invS (as := [.int t0]) (L2 := [.int t0]) (st := []) 0 0 dX3_readNote_136 lk_X3_184 sl_X6_isPitch (rmK_of rfl) rfl (Nat.le_of_ble_eq_true rfl) (Nat.le_of_ble_eq_true rfl) (t_X6_isPitch   t0 M _ h) (fun v21 M22 h => ?_)
  show Ex true mX3_readNote 78 78 0 0 139 [.ref 40, .int l1, .int l2, .int l3, .int l4, .int t0, .null] [.int v21] M22 Q
  refine ex_if_ne (tgt := 144) dX3_readNote_139 (by decide) (fun c_139 => ?_) (fun c_139 => ?_)
  · replace h := h.1 c_139
    refine ex_aload_n dX3_readNote_144 rfl ?_
    refine ex_getR (ci := 3) (j := 1) (v := 41) dX3_readNote_145 (by decide) rfl rfl lk_X3_12 rfl (by decide) ?_
    refine ex_iload dX3_readNote_148 rfl ?_
    refine ex_invV (k := 41) (ci := 1) (as := [.int t0]) (L2 := [.ref 41, .int t0]) (st := []) 0 0 dX3_readNote_150 lk_X3_187 sl_X1_heard (rmK_of rfl) (by decide) rfl ⟨by decide, rfl⟩ rfl (Nat.le_of_ble_eq_true rfl) (Nat.le_of_ble_eq_true rfl) (t_X1_heard 41 (Or.inl rfl) t0 M22 _ h) (fun v23 M24 h => ?_)
    show Ex true mX3_readNote 78 78 0 0 153 [.ref 40, .int l1, .int l2, .int l3, .int l4, .int t0, .null] [] M24 Q
    refine ex_aload_n dX3_readNote_153 rfl ?_
    refine ex_dup dX3_readNote_154 rfl ?_
    refine ex_getI (ci := 3) (j := 4) dX3_readNote_155 (by decide) rfl rfl lk_X3_30 ?_
    refine ex_iconst (v := 1) dX3_readNote_158 (by decide) ?_
    refine ex_iadd dX3_readNote_159 ?_
    refine ex_putI (ci := 3) (j := 4) dX3_readNote_160 (by decide) rfl rfl lk_X3_30 ⟨rfl, rfl⟩ ?_
    refine ex_nmM (fun M25 eM25 => ?_)
    replace h := h M25 eM25
    refine ex_gets (i := 1) dX3_readNote_163 (by decide) lk_X3_191 ?_
    refine ex_iload_n dX3_readNote_166 rfl ?_
    refine ex_bipush (v := 36) dX3_readNote_167 (by decide) ?_
    refine ex_iand dX3_readNote_169 ?_
    refine ex_invS (as := [.ref (100 + 1), .int (l3 &&& 36)]) (L2 := [.ref (100 + 1), .int (l3 &&& 36), .null]) (st := []) 0 0 dX3_readNote_170 lk_X3_146 sl_X6_indexIn (rmK_of rfl) rfl (Nat.le_of_ble_eq_true rfl) (Nat.le_of_ble_eq_true rfl) (t_X6_indexIn 1 (ti_d rfl) (l3 &&& 36) M25 _ h) (fun v26 M27 h => ?_)
    show Ex true mX3_readNote 78 78 0 0 173 [.ref 40, .int l1, .int l2, .int l3, .int l4, .int t0, .null] [.int v26] M27 Q
    refine ex_istore (L2 := [.ref 40, .int l1, .int l2, .int l3, .int l4, .int t0, .int v26]) dX3_readNote_173 (by decide) rfl rfl ?_
    refine ex_aload_n dX3_readNote_175 rfl ?_
    obtain ⟨g28, h⟩ := h
    refine ex_getD (ci := 3) (j := 3) (v := m) dX3_readNote_176 (by decide) rfl rfl lk_X3_26 rfl g28 (mu_100 hm) ?_
    refine ex_iload dX3_readNote_179 rfl ?_
    refine ex_iload_n dX3_readNote_181 rfl ?_
    refine ex_iload dX3_readNote_182 rfl ?_
    refine ex_aload_n dX3_readNote_184 rfl ?_
    refine ex_getI (ci := 3) (j := 6) dX3_readNote_185 (by decide) rfl rfl lk_X3_93 ?_
    refine ex_aload_n dX3_readNote_188 rfl ?_
    refine ex_invV (k := 40) (ci := 3) (as := []) (L2 := [.ref 40, .null]) (st := [.int (M27 40 6), .int v26, .int l1, .int t0, .ref m]) 0 0 dX3_readNote_189 lk_X3_150 sl_X3_readDots (rmK_of rfl) (by decide) rfl ⟨by decide, rfl⟩ rfl (Nat.le_of_ble_eq_true rfl) (Nat.le_of_ble_eq_true rfl) (t_X3_readDots r m hr hm M27 _ h) (fun v29 M30 h => ?_)
    show Ex true mX3_readNote 78 78 0 0 192 [.ref 40, .int l1, .int l2, .int l3, .int l4, .int t0, .int v26] [.int v29, .int (M27 40 6), .int v26, .int l1, .int t0, .ref m] M30 Q
    refine ex_invV (k := m) (ci := 0) (as := [.int t0, .int l1, .int v26, .int (M27 40 6), .int v29]) (L2 := [.ref m, .int t0, .int l1, .int v26, .int (M27 40 6), .int v29, .null]) (st := []) 0 0 dX3_readNote_192 lk_X3_153 sl_X0_addItem (rmK_of rfl) (mu_l hm 0 (by decide)) (mu_S0 hm) ⟨by decide, rfl⟩ rfl (Nat.le_of_ble_eq_true rfl) (Nat.le_of_ble_eq_true rfl) (t_X0_addItem m hm t0 l1 v26 (M27 40 6) v29 M30 _ h) (fun v31 M32 h => ?_)
    show Ex true mX3_readNote 78 78 0 0 195 [.ref 40, .int l1, .int l2, .int l3, .int l4, .int t0, .int v26] [.int v31] M32 Q
    refine ex_iconst (v := (-1)) dX3_readNote_195 (by decide) ?_
    have hJ35 : ∀ z33 : Int32, z33 = (if v31 = (-1) then 0 else 1) → Ex true mX3_readNote 78 78 0 0 204 [.ref 40, .int l1, .int l2, .int l3, .int l4, .int t0, .int v26] [.int z33] M32 Q := by
      intro z33 ez33
      replace h := h z33 ez33
      obtain ⟨b34, h⟩ := h
      exact ex_iret dX3_readNote_204 rfl (nr01 b34) rfl h
    refine ex_icmp_eq (tgt := 203) dX3_readNote_196 (by decide) (fun c_196 => ?_) (fun c_196 => ?_)
    ·
      refine ex_iconst (v := 0) dX3_readNote_203 (by decide) ?_
      exact hJ35 _ (by rw [if_pos c_196])
    ·
      refine ex_iconst (v := 1) dX3_readNote_199 (by decide) ?_
      refine ex_goto (tgt := 204) dX3_readNote_200 (by decide) ?_
      exact hJ35 _ (by rw [if_neg c_196])
  · replace h := h.2 c_139
    refine ex_iconst (v := 0) dX3_readNote_142 (by decide) ?_
    exact ex_iret dX3_readNote_143 rfl rfl rfl h
def w_X3_readNote_109 (r m : Nat) (Q : Int32 → Mem → Prop) (l1 : Int32) (l2 : Int32) (l3 : Int32) (l4 : Int32) (M : Mem) : Prop := ((l2 ≤ 0) → (w_X1_nearest 41 l4 M (fun v19 M20 => w_X3_readNote_132 r m Q  l1 l2 l3 l4 v19 M20))) ∧ (¬ (l2 ≤ 0) → (w_X3_readNote_132 r m Q  l1 l2 l3 l4 ((l2 * 7) + l4) M))
theorem t_X3_readNote_109 (r m : Nat) (hr : RW r) (hm : MU m) (Q : Int32 → Mem → Prop) (l1 : Int32) (l2 : Int32) (l3 : Int32) (l4 : Int32) (M : Mem) (h : w_X3_readNote_109 r m Q  l1 l2 l3 l4 M) : Ex true mX3_readNote 78 78 0 0 109 [.ref 40, .int l1, .int l2, .int l3, .int l4, .null, .null] [] M Q := by
  unfold w_X3_readNote_109 at h
  refine ex_iload_n dX3_readNote_109 rfl ?_
  refine ex_if_le (tgt := 123) dX3_readNote_110 (by decide) (fun c_110 => ?_) (fun c_110 => ?_)
  · replace h := h.1 c_110
    refine ex_aload_n dX3_readNote_123 rfl ?_
    refine ex_getR (ci := 3) (j := 1) (v := 41) dX3_readNote_124 (by decide) rfl rfl lk_X3_12 rfl (by decide) ?_
    refine ex_iload dX3_readNote_127 rfl ?_
    refine ex_invV (k := 41) (ci := 1) (as := [.int l4]) (L2 := [.ref 41, .int l4, .null]) (st := []) 0 0 dX3_readNote_129 lk_X3_181 sl_X1_nearest (rmK_of rfl) (by decide) rfl ⟨by decide, rfl⟩ rfl (Nat.le_of_ble_eq_true rfl) (Nat.le_of_ble_eq_true rfl) (t_X1_nearest 41 (Or.inl rfl) l4 M _ h) (fun v19 M20 h => ?_)
    show Ex true mX3_readNote 78 78 0 0 132 [.ref 40, .int l1, .int l2, .int l3, .int l4, .null, .null] [.int v19] M20 Q
    exact t_X3_readNote_132 r m hr hm  Q   l1 l2 l3 l4 v19 M20 h
  · replace h := h.2 c_110
    refine ex_iload_n dX3_readNote_113 rfl ?_
    refine ex_bipush (v := 7) dX3_readNote_114 (by decide) ?_
    refine ex_imul dX3_readNote_116 ?_
    refine ex_iload dX3_readNote_117 rfl ?_
    refine ex_iadd dX3_readNote_119 ?_
    refine ex_goto (tgt := 132) dX3_readNote_120 (by decide) ?_
    exact t_X3_readNote_132 r m hr hm  Q   l1 l2 l3 l4 ((l2 * 7) + l4) M h
def w_X3_readNote_86 (r m : Nat) (Q : Int32 → Mem → Prop) (l1 : Int32) (l2 : Int32) (l3 : Int32) (t0 : Int32) (M : Mem) : Prop := ((t0 < 0) → (Q 0 M)) ∧ (¬ (t0 < 0) → ((¬ (l2 = 0) → (w_X3_readNote_109 r m Q  l1 l2 l3 t0 M)) ∧ ((l2 = 0) → ((((M 41 1) = 0) → (w_X3_readNote_109 r m Q  l1 l2 l3 t0 M)) ∧ (¬ ((M 41 1) = 0) → (Q 0 M))))))
theorem t_X3_readNote_86 (r m : Nat) (hr : RW r) (hm : MU m) (Q : Int32 → Mem → Prop) (l1 : Int32) (l2 : Int32) (l3 : Int32) (t0 : Int32) (M : Mem) (h : w_X3_readNote_86 r m Q  l1 l2 l3 t0 M) : Ex true mX3_readNote 78 78 0 0 86 [.ref 40, .int l1, .int l2, .int l3, .null, .null, .null] [.int t0] M Q := by
  unfold w_X3_readNote_86 at h
  refine ex_istore (L2 := [.ref 40, .int l1, .int l2, .int l3, .int t0, .null, .null]) dX3_readNote_86 (by decide) rfl rfl ?_
  refine ex_iload dX3_readNote_88 rfl ?_
  refine ex_if_lt (tgt := 107) dX3_readNote_90 (by decide) (fun c_90 => ?_) (fun c_90 => ?_)
  · replace h := h.1 c_90
    refine ex_iconst (v := 0) dX3_readNote_107 (by decide) ?_
    exact ex_iret dX3_readNote_108 rfl rfl rfl h
  · replace h := h.2 c_90
    refine ex_iload_n dX3_readNote_93 rfl ?_
    refine ex_if_ne (tgt := 109) dX3_readNote_94 (by decide) (fun c_94 => ?_) (fun c_94 => ?_)
    · replace h := h.1 c_94
      exact t_X3_readNote_109 r m hr hm  Q   l1 l2 l3 t0 M h
    · replace h := h.2 c_94
      refine ex_aload_n dX3_readNote_97 rfl ?_
      refine ex_getR (ci := 3) (j := 1) (v := 41) dX3_readNote_98 (by decide) rfl rfl lk_X3_12 rfl (by decide) ?_
      refine ex_getI (ci := 1) (j := 1) dX3_readNote_101 (by decide) rfl rfl lk_X3_178 ?_
      refine ex_if_eq (tgt := 109) dX3_readNote_104 (by decide) (fun c_104 => ?_) (fun c_104 => ?_)
      · replace h := h.1 c_104
        exact t_X3_readNote_109 r m hr hm  Q   l1 l2 l3 t0 M h
      · replace h := h.2 c_104
        refine ex_iconst (v := 0) dX3_readNote_107 (by decide) ?_
        exact ex_iret dX3_readNote_108 rfl rfl rfl h
def w_X3_readNote (r m : Nat) (M : Mem) (Q : Int32 → Mem → Prop) : Prop := w_X3_peek r m M (fun v1 M2 => w_X6_indexIn 4 v1 M2 (fun v3 M4 => ∀ x5 : Int32, x5 = (v3 + 1) → ∀ z6 : Int32, z6 = (if x5 ≤ 0 then 0 else 1) → ∀ M7 : Mem, M7 = (mset M4 40 4 ((M4 40 4) + z6)) → w_X3_peek r m M7 (fun v8 M9 => w_X6_indexIn 3 v8 M9 (fun v10 M11 => ∀ x12 : Int32, x12 = (v10 + 1) → ∀ z13 : Int32, z13 = (if x12 ≤ 0 then 0 else 1) → ∀ M14 : Mem, M14 = (mset M11 40 4 ((M11 40 4) + z13)) → w_X3_peek r m M14 (fun v15 M16 => (¬ (v15 = (-1)) → (w_X6_indexIn 0 (v15 &&& 27) M16 (fun v17 M18 => w_X3_readNote_86 r m Q  x5 x12 v15 v17 M18))) ∧ ((v15 = (-1)) → (w_X3_readNote_86 r m Q  x5 x12 v15 (-1) M16)))))))
theorem t_X3_readNote (r m : Nat) (hr : RW r) (hm : MU m) (M : Mem) (Q : Int32 → Mem → Prop) (h : w_X3_readNote r m  M Q) : Ex true mX3_readNote 78 78 0 0 0 [.ref 40, .null, .null, .null, .null, .null, .null] [] M Q := by
  unfold w_X3_readNote at h
  refine ex_gets (i := 4) dX3_readNote_0 (by decide) lk_X3_169 ?_
  refine ex_aload_n dX3_readNote_3 rfl ?_
  refine ex_invV (k := 40) (ci := 3) (as := []) (L2 := [.ref 40]) (st := [.ref (100 + 4)]) 0 0 dX3_readNote_4 lk_X3_69 sl_X3_peek (rmK_of rfl) (by decide) rfl ⟨by decide, rfl⟩ rfl (Nat.le_of_ble_eq_true rfl) (Nat.le_of_ble_eq_true rfl) (t_X3_peek r m hr hm M _ h) (fun v1 M2 h => ?_)
  show Ex true mX3_readNote 78 78 0 0 7 [.ref 40, .null, .null, .null, .null, .null, .null] [.int v1, .ref (100 + 4)] M2 Q
  refine ex_invS (as := [.ref (100 + 4), .int v1]) (L2 := [.ref (100 + 4), .int v1, .null]) (st := []) 0 0 dX3_readNote_7 lk_X3_146 sl_X6_indexIn (rmK_of rfl) rfl (Nat.le_of_ble_eq_true rfl) (Nat.le_of_ble_eq_true rfl) (t_X6_indexIn 4 (ti_d rfl) v1 M2 _ h) (fun v3 M4 h => ?_)
  show Ex true mX3_readNote 78 78 0 0 10 [.ref 40, .null, .null, .null, .null, .null, .null] [.int v3] M4 Q
  refine ex_iconst (v := 1) dX3_readNote_10 (by decide) ?_
  refine ex_iadd dX3_readNote_11 ?_
  refine ex_top (fun x5 ex5 => ?_)
  replace h := h x5 ex5
  refine ex_istore_n (L2 := [.ref 40, .int x5, .null, .null, .null, .null, .null]) dX3_readNote_12 (by decide) rfl rfl ?_
  refine ex_aload_n dX3_readNote_13 rfl ?_
  refine ex_dup dX3_readNote_14 rfl ?_
  refine ex_getI (ci := 3) (j := 4) dX3_readNote_15 (by decide) rfl rfl lk_X3_30 ?_
  refine ex_iload_n dX3_readNote_18 rfl ?_
  have hJ37 : ∀ z6 : Int32, z6 = (if x5 ≤ 0 then 0 else 1) → Ex true mX3_readNote 78 78 0 0 27 [.ref 40, .int x5, .null, .null, .null, .null, .null] [.int z6, .int (M4 40 4), .ref 40] M4 Q := by
    intro z6 ez6
    replace h := h z6 ez6
    refine ex_iadd dX3_readNote_27 ?_
    refine ex_putI (ci := 3) (j := 4) dX3_readNote_28 (by decide) rfl rfl lk_X3_30 ⟨rfl, rfl⟩ ?_
    refine ex_nmM (fun M7 eM7 => ?_)
    replace h := h M7 eM7
    refine ex_gets (i := 3) dX3_readNote_31 (by decide) lk_X3_172 ?_
    refine ex_aload_n dX3_readNote_34 rfl ?_
    refine ex_invV (k := 40) (ci := 3) (as := []) (L2 := [.ref 40]) (st := [.ref (100 + 3)]) 0 0 dX3_readNote_35 lk_X3_69 sl_X3_peek (rmK_of rfl) (by decide) rfl ⟨by decide, rfl⟩ rfl (Nat.le_of_ble_eq_true rfl) (Nat.le_of_ble_eq_true rfl) (t_X3_peek r m hr hm M7 _ h) (fun v8 M9 h => ?_)
    show Ex true mX3_readNote 78 78 0 0 38 [.ref 40, .int x5, .null, .null, .null, .null, .null] [.int v8, .ref (100 + 3)] M9 Q
    refine ex_invS (as := [.ref (100 + 3), .int v8]) (L2 := [.ref (100 + 3), .int v8, .null]) (st := []) 0 0 dX3_readNote_38 lk_X3_146 sl_X6_indexIn (rmK_of rfl) rfl (Nat.le_of_ble_eq_true rfl) (Nat.le_of_ble_eq_true rfl) (t_X6_indexIn 3 (ti_d rfl) v8 M9 _ h) (fun v10 M11 h => ?_)
    show Ex true mX3_readNote 78 78 0 0 41 [.ref 40, .int x5, .null, .null, .null, .null, .null] [.int v10] M11 Q
    refine ex_iconst (v := 1) dX3_readNote_41 (by decide) ?_
    refine ex_iadd dX3_readNote_42 ?_
    refine ex_top (fun x12 ex12 => ?_)
    replace h := h x12 ex12
    refine ex_istore_n (L2 := [.ref 40, .int x5, .int x12, .null, .null, .null, .null]) dX3_readNote_43 (by decide) rfl rfl ?_
    refine ex_aload_n dX3_readNote_44 rfl ?_
    refine ex_dup dX3_readNote_45 rfl ?_
    refine ex_getI (ci := 3) (j := 4) dX3_readNote_46 (by decide) rfl rfl lk_X3_30 ?_
    refine ex_iload_n dX3_readNote_49 rfl ?_
    have hJ36 : ∀ z13 : Int32, z13 = (if x12 ≤ 0 then 0 else 1) → Ex true mX3_readNote 78 78 0 0 58 [.ref 40, .int x5, .int x12, .null, .null, .null, .null] [.int z13, .int (M11 40 4), .ref 40] M11 Q := by
      intro z13 ez13
      replace h := h z13 ez13
      refine ex_iadd dX3_readNote_58 ?_
      refine ex_putI (ci := 3) (j := 4) dX3_readNote_59 (by decide) rfl rfl lk_X3_30 ⟨rfl, rfl⟩ ?_
      refine ex_nmM (fun M14 eM14 => ?_)
      replace h := h M14 eM14
      refine ex_aload_n dX3_readNote_62 rfl ?_
      refine ex_invV (k := 40) (ci := 3) (as := []) (L2 := [.ref 40]) (st := []) 0 0 dX3_readNote_63 lk_X3_69 sl_X3_peek (rmK_of rfl) (by decide) rfl ⟨by decide, rfl⟩ rfl (Nat.le_of_ble_eq_true rfl) (Nat.le_of_ble_eq_true rfl) (t_X3_peek r m hr hm M14 _ h) (fun v15 M16 h => ?_)
      show Ex true mX3_readNote 78 78 0 0 66 [.ref 40, .int x5, .int x12, .null, .null, .null, .null] [.int v15] M16 Q
      refine ex_istore_n (L2 := [.ref 40, .int x5, .int x12, .int v15, .null, .null, .null]) dX3_readNote_66 (by decide) rfl rfl ?_
      refine ex_iload_n dX3_readNote_67 rfl ?_
      refine ex_iconst (v := (-1)) dX3_readNote_68 (by decide) ?_
      refine ex_icmp_ne (tgt := 76) dX3_readNote_69 (by decide) (fun c_69 => ?_) (fun c_69 => ?_)
      · replace h := h.1 c_69
        refine ex_gets (i := 0) dX3_readNote_76 (by decide) lk_X3_175 ?_
        refine ex_iload_n dX3_readNote_79 rfl ?_
        refine ex_bipush (v := 27) dX3_readNote_80 (by decide) ?_
        refine ex_iand dX3_readNote_82 ?_
        refine ex_invS (as := [.ref (100 + 0), .int (v15 &&& 27)]) (L2 := [.ref (100 + 0), .int (v15 &&& 27), .null]) (st := []) 0 0 dX3_readNote_83 lk_X3_146 sl_X6_indexIn (rmK_of rfl) rfl (Nat.le_of_ble_eq_true rfl) (Nat.le_of_ble_eq_true rfl) (t_X6_indexIn 0 (ti_d rfl) (v15 &&& 27) M16 _ h) (fun v17 M18 h => ?_)
        show Ex true mX3_readNote 78 78 0 0 86 [.ref 40, .int x5, .int x12, .int v15, .null, .null, .null] [.int v17] M18 Q
        exact t_X3_readNote_86 r m hr hm  Q   x5 x12 v15 v17 M18 h
      · replace h := h.2 c_69
        refine ex_iconst (v := (-1)) dX3_readNote_72 (by decide) ?_
        refine ex_goto (tgt := 86) dX3_readNote_73 (by decide) ?_
        exact t_X3_readNote_86 r m hr hm  Q   x5 x12 v15 (-1) M16 h
    refine ex_if_le (tgt := 57) dX3_readNote_50 (by decide) (fun c_50 => ?_) (fun c_50 => ?_)
    ·
      refine ex_iconst (v := 0) dX3_readNote_57 (by decide) ?_
      exact hJ36 _ (by rw [if_pos c_50])
    ·
      refine ex_iconst (v := 1) dX3_readNote_53 (by decide) ?_
      refine ex_goto (tgt := 58) dX3_readNote_54 (by decide) ?_
      exact hJ36 _ (by rw [if_neg c_50])
  refine ex_if_le (tgt := 26) dX3_readNote_19 (by decide) (fun c_19 => ?_) (fun c_19 => ?_)
  ·
    refine ex_iconst (v := 0) dX3_readNote_26 (by decide) ?_
    exact hJ37 _ (by rw [if_pos c_19])
  ·
    refine ex_iconst (v := 1) dX3_readNote_22 (by decide) ?_
    refine ex_goto (tgt := 27) dX3_readNote_23 (by decide) ?_
    exact hJ37 _ (by rw [if_neg c_19])
def wb_X3_readIntervals_2 (r m : Nat) (Q : Int32 → Mem → Prop) (B2 : Int32 → Mem → Prop) (l1 : Int32) (M : Mem) : Prop := ((4 ≤ l1) → (Q 1 M)) ∧ (¬ (4 ≤ l1) → (w_X3_peek r m M (fun v1 M2 => w_X6_indexIn 4 v1 M2 (fun v3 M4 => ∀ x5 : Int32, x5 = (v3 + 1) → ∀ z6 : Int32, z6 = (if x5 ≤ 0 then 0 else 1) → (M4 40 2 = nI r) ∧ (w_X2_get r ((M4 40 4) + z6) M4 (fun v8 M9 => w_X6_indexIn 5 v8 M9 (fun v10 M11 => ∀ x12 : Int32, x12 = (v10 + 2) → ((2 ≤ x12) → (∀ M13 : Mem, M13 = (mset M11 40 4 ((M11 40 4) + z6)) → (M13 40 3 = nI m) ∧ ((M13 40 3 = nI m) ∧ ((M13 40 3 = nI m) ∧ (w_X0_intervalPitch m ((M13 m 3) - 1) x12 (M13 m 1) M13 (fun v17 M18 => w_X6_isPitch v17 M18 (fun v19 M20 => (¬ (v19 = 0) → (∀ M21 : Mem, M21 = (mset M20 40 4 ((M20 40 4) + 1)) → (M21 40 3 = nI m) ∧ (w_X0_addInterval m x12 x5 M21 (fun v23 M24 => ∀ x25 : Int32, x25 = l1 + 1 → B2 x25 M24)))) ∧ ((v19 = 0) → (Q 0 M20))))))))) ∧ (¬ (2 ≤ x12) → (Q 1 M11)))))))))
def w_X3_readIntervals_2 (r m : Nat) (Q : Int32 → Mem → Prop) : Nat → Int32 → Mem → Prop
  | 0 => fun _ _ => False
  | k + 1 => wb_X3_readIntervals_2 r m Q  (w_X3_readIntervals_2 r m Q  k)
theorem t_X3_readIntervals_2 (r m : Nat) (hr : RW r) (hm : MU m) (Q : Int32 → Mem → Prop) : ∀ (k : Nat) (l1 : Int32) (M : Mem), w_X3_readIntervals_2 r m Q  k l1 M → Ex true mX3_readIntervals 78 78 0 0 2 [.ref 40, .int l1, .null, .null, .null] [] M Q := by
  intro k
  induction k with
  | zero => intro l1 M h; exact False.elim h
  | succ k hB2 =>
    intro l1 M h
    replace h : wb_X3_readIntervals_2 r m Q  (w_X3_readIntervals_2 r m Q  k) l1 M := h
    generalize w_X3_readIntervals_2 r m Q  k = B2 at hB2 h
    unfold wb_X3_readIntervals_2 at h
    refine ex_iload_n dX3_readIntervals_2 rfl ?_
    refine ex_iconst (v := 4) dX3_readIntervals_3 (by decide) ?_
    refine ex_icmp_ge (tgt := 130) dX3_readIntervals_4 (by decide) (fun c_4 => ?_) (fun c_4 => ?_)
    · replace h := h.1 c_4
      refine ex_iconst (v := 1) dX3_readIntervals_130 (by decide) ?_
      exact ex_iret dX3_readIntervals_131 rfl rfl rfl h
    · replace h := h.2 c_4
      refine ex_gets (i := 4) dX3_readIntervals_7 (by decide) lk_X3_169 ?_
      refine ex_aload_n dX3_readIntervals_10 rfl ?_
      refine ex_invV (k := 40) (ci := 3) (as := []) (L2 := [.ref 40]) (st := [.ref (100 + 4)]) 0 0 dX3_readIntervals_11 lk_X3_69 sl_X3_peek (rmK_of rfl) (by decide) rfl ⟨by decide, rfl⟩ rfl (Nat.le_of_ble_eq_true rfl) (Nat.le_of_ble_eq_true rfl) (t_X3_peek r m hr hm M _ h) (fun v1 M2 h => ?_)
      show Ex true mX3_readIntervals 78 78 0 0 14 [.ref 40, .int l1, .null, .null, .null] [.int v1, .ref (100 + 4)] M2 Q
      refine ex_invS (as := [.ref (100 + 4), .int v1]) (L2 := [.ref (100 + 4), .int v1, .null]) (st := []) 0 0 dX3_readIntervals_14 lk_X3_146 sl_X6_indexIn (rmK_of rfl) rfl (Nat.le_of_ble_eq_true rfl) (Nat.le_of_ble_eq_true rfl) (t_X6_indexIn 4 (ti_d rfl) v1 M2 _ h) (fun v3 M4 h => ?_)
      show Ex true mX3_readIntervals 78 78 0 0 17 [.ref 40, .int l1, .null, .null, .null] [.int v3] M4 Q
      refine ex_iconst (v := 1) dX3_readIntervals_17 (by decide) ?_
      refine ex_iadd dX3_readIntervals_18 ?_
      refine ex_top (fun x5 ex5 => ?_)
      replace h := h x5 ex5
      refine ex_istore_n (L2 := [.ref 40, .int l1, .int x5, .null, .null]) dX3_readIntervals_19 (by decide) rfl rfl ?_
      refine ex_iload_n dX3_readIntervals_20 rfl ?_
      have hJ26 : ∀ z6 : Int32, z6 = (if x5 ≤ 0 then 0 else 1) → Ex true mX3_readIntervals 78 78 0 0 29 [.ref 40, .int l1, .int x5, .null, .null] [.int z6] M4 Q := by
        intro z6 ez6
        replace h := h z6 ez6
        refine ex_istore_n (L2 := [.ref 40, .int l1, .int x5, .int z6, .null]) dX3_readIntervals_29 (by decide) rfl rfl ?_
        refine ex_gets (i := 5) dX3_readIntervals_30 (by decide) lk_X3_194 ?_
        refine ex_aload_n dX3_readIntervals_33 rfl ?_
        obtain ⟨g7, h⟩ := h
        refine ex_getD (ci := 3) (j := 2) (v := r) dX3_readIntervals_34 (by decide) rfl rfl lk_X3_22 rfl g7 (rw_100 hr) ?_
        refine ex_aload_n dX3_readIntervals_37 rfl ?_
        refine ex_getI (ci := 3) (j := 4) dX3_readIntervals_38 (by decide) rfl rfl lk_X3_30 ?_
        refine ex_iload_n dX3_readIntervals_41 rfl ?_
        refine ex_iadd dX3_readIntervals_42 ?_
        refine ex_invV (k := r) (ci := 2) (as := [.int ((M4 40 4) + z6)]) (L2 := [.ref r, .int ((M4 40 4) + z6)]) (st := [.ref (100 + 5)]) 0 0 dX3_readIntervals_43 lk_X3_61 sl_X2_get (rmK_of rfl) (rw_l hr 0 (by decide)) (rw_S0 hr) ⟨by decide, rfl⟩ rfl (Nat.le_of_ble_eq_true rfl) (Nat.le_of_ble_eq_true rfl) (t_X2_get r hr ((M4 40 4) + z6) M4 _ h) (fun v8 M9 h => ?_)
        show Ex true mX3_readIntervals 78 78 0 0 46 [.ref 40, .int l1, .int x5, .int z6, .null] [.int v8, .ref (100 + 5)] M9 Q
        refine ex_invS (as := [.ref (100 + 5), .int v8]) (L2 := [.ref (100 + 5), .int v8, .null]) (st := []) 0 0 dX3_readIntervals_46 lk_X3_146 sl_X6_indexIn (rmK_of rfl) rfl (Nat.le_of_ble_eq_true rfl) (Nat.le_of_ble_eq_true rfl) (t_X6_indexIn 5 (ti_d rfl) v8 M9 _ h) (fun v10 M11 h => ?_)
        show Ex true mX3_readIntervals 78 78 0 0 49 [.ref 40, .int l1, .int x5, .int z6, .null] [.int v10] M11 Q
        refine ex_iconst (v := 2) dX3_readIntervals_49 (by decide) ?_
        refine ex_iadd dX3_readIntervals_50 ?_
        refine ex_top (fun x12 ex12 => ?_)
        replace h := h x12 ex12
        refine ex_istore (L2 := [.ref 40, .int l1, .int x5, .int z6, .int x12]) dX3_readIntervals_51 (by decide) rfl rfl ?_
        refine ex_iload dX3_readIntervals_53 rfl ?_
        refine ex_iconst (v := 2) dX3_readIntervals_55 (by decide) ?_
        refine ex_icmp_ge (tgt := 61) dX3_readIntervals_56 (by decide) (fun c_56 => ?_) (fun c_56 => ?_)
        · replace h := h.1 c_56
          refine ex_aload_n dX3_readIntervals_61 rfl ?_
          refine ex_dup dX3_readIntervals_62 rfl ?_
          refine ex_getI (ci := 3) (j := 4) dX3_readIntervals_63 (by decide) rfl rfl lk_X3_30 ?_
          refine ex_iload_n dX3_readIntervals_66 rfl ?_
          refine ex_iadd dX3_readIntervals_67 ?_
          refine ex_putI (ci := 3) (j := 4) dX3_readIntervals_68 (by decide) rfl rfl lk_X3_30 ⟨rfl, rfl⟩ ?_
          refine ex_nmM (fun M13 eM13 => ?_)
          replace h := h M13 eM13
          refine ex_aload_n dX3_readIntervals_71 rfl ?_
          obtain ⟨g14, h⟩ := h
          refine ex_getD (ci := 3) (j := 3) (v := m) dX3_readIntervals_72 (by decide) rfl rfl lk_X3_26 rfl g14 (mu_100 hm) ?_
          refine ex_aload_n dX3_readIntervals_75 rfl ?_
          obtain ⟨g15, h⟩ := h
          refine ex_getD (ci := 3) (j := 3) (v := m) dX3_readIntervals_76 (by decide) rfl rfl lk_X3_26 rfl g15 (mu_100 hm) ?_
          refine ex_getI (ci := 0) (j := 3) dX3_readIntervals_79 (mu_l hm 0 (by decide)) (mu_S0 hm) rfl lk_X3_96 ?_
          refine ex_iconst (v := 1) dX3_readIntervals_82 (by decide) ?_
          refine ex_isub dX3_readIntervals_83 ?_
          refine ex_iload dX3_readIntervals_84 rfl ?_
          refine ex_aload_n dX3_readIntervals_86 rfl ?_
          obtain ⟨g16, h⟩ := h
          refine ex_getD (ci := 3) (j := 3) (v := m) dX3_readIntervals_87 (by decide) rfl rfl lk_X3_26 rfl g16 (mu_100 hm) ?_
          refine ex_getI (ci := 0) (j := 1) dX3_readIntervals_90 (mu_l hm 0 (by decide)) (mu_S0 hm) rfl lk_X3_73 ?_
          refine ex_invV (k := m) (ci := 0) (as := [.int ((M13 m 3) - 1), .int x12, .int (M13 m 1)]) (L2 := [.ref m, .int ((M13 m 3) - 1), .int x12, .int (M13 m 1)]) (st := []) 0 0 dX3_readIntervals_93 lk_X3_197 sl_X0_intervalPitch (rmK_of rfl) (mu_l hm 0 (by decide)) (mu_S0 hm) ⟨by decide, rfl⟩ rfl (Nat.le_of_ble_eq_true rfl) (Nat.le_of_ble_eq_true rfl) (t_X0_intervalPitch m hm ((M13 m 3) - 1) x12 (M13 m 1) M13 _ h) (fun v17 M18 h => ?_)
          show Ex true mX3_readIntervals 78 78 0 0 96 [.ref 40, .int l1, .int x5, .int z6, .int x12] [.int v17] M18 Q
          refine ex_invS (as := [.int v17]) (L2 := [.int v17]) (st := []) 0 0 dX3_readIntervals_96 lk_X3_184 sl_X6_isPitch (rmK_of rfl) rfl (Nat.le_of_ble_eq_true rfl) (Nat.le_of_ble_eq_true rfl) (t_X6_isPitch   v17 M18 _ h) (fun v19 M20 h => ?_)
          show Ex true mX3_readIntervals 78 78 0 0 99 [.ref 40, .int l1, .int x5, .int z6, .int x12] [.int v19] M20 Q
          refine ex_if_ne (tgt := 104) dX3_readIntervals_99 (by decide) (fun c_99 => ?_) (fun c_99 => ?_)
          · replace h := h.1 c_99
            refine ex_aload_n dX3_readIntervals_104 rfl ?_
            refine ex_dup dX3_readIntervals_105 rfl ?_
            refine ex_getI (ci := 3) (j := 4) dX3_readIntervals_106 (by decide) rfl rfl lk_X3_30 ?_
            refine ex_iconst (v := 1) dX3_readIntervals_109 (by decide) ?_
            refine ex_iadd dX3_readIntervals_110 ?_
            refine ex_putI (ci := 3) (j := 4) dX3_readIntervals_111 (by decide) rfl rfl lk_X3_30 ⟨rfl, rfl⟩ ?_
            refine ex_nmM (fun M21 eM21 => ?_)
            replace h := h M21 eM21
            refine ex_aload_n dX3_readIntervals_114 rfl ?_
            obtain ⟨g22, h⟩ := h
            refine ex_getD (ci := 3) (j := 3) (v := m) dX3_readIntervals_115 (by decide) rfl rfl lk_X3_26 rfl g22 (mu_100 hm) ?_
            refine ex_iload dX3_readIntervals_118 rfl ?_
            refine ex_iload_n dX3_readIntervals_120 rfl ?_
            refine ex_invV (k := m) (ci := 0) (as := [.int x12, .int x5]) (L2 := [.ref m, .int x12, .int x5, .null]) (st := []) 0 0 dX3_readIntervals_121 lk_X3_201 sl_X0_addInterval (rmK_of rfl) (mu_l hm 0 (by decide)) (mu_S0 hm) ⟨by decide, rfl⟩ rfl (Nat.le_of_ble_eq_true rfl) (Nat.le_of_ble_eq_true rfl) (t_X0_addInterval m hm x12 x5 M21 _ h) (fun v23 M24 h => ?_)
            show Ex true mX3_readIntervals 78 78 0 0 124 [.ref 40, .int l1, .int x5, .int z6, .int x12] [] M24 Q
            refine ex_iinc (v := l1 + 1) (L2 := [.ref 40, .int (l1 + 1), .int x5, .int z6, .int x12]) dX3_readIntervals_124 rfl rfl (by decide) rfl rfl ?_
            obtain ⟨x25, ex25⟩ : ∃ x25 : Int32, x25 = l1 + 1 := ⟨_, rfl⟩
            rw [← ex25]
            replace h := h x25 ex25
            refine ex_goto (tgt := 2) dX3_readIntervals_127 (by decide) ?_
            refine ex_less (L2 := [.ref 40, .int x25, .null, .null, .null]) ?_ (by intro i v hi hn; match i, hi with | 0, hi => exact hi | 1, hi => exact hi | 2, hi => (cases hi; cases hn) | 3, hi => (cases hi; cases hn) | 4, hi => (cases hi; cases hn) | k + 5, hi => (exact absurd hi (by simp)))
            exact hB2 x25 M24 h
          · replace h := h.2 c_99
            refine ex_iconst (v := 0) dX3_readIntervals_102 (by decide) ?_
            exact ex_iret dX3_readIntervals_103 rfl rfl rfl h
        · replace h := h.2 c_56
          refine ex_iconst (v := 1) dX3_readIntervals_59 (by decide) ?_
          exact ex_iret dX3_readIntervals_60 rfl rfl rfl h
      refine ex_if_le (tgt := 28) dX3_readIntervals_21 (by decide) (fun c_21 => ?_) (fun c_21 => ?_)
      ·
        refine ex_iconst (v := 0) dX3_readIntervals_28 (by decide) ?_
        exact hJ26 _ (by rw [if_pos c_21])
      ·
        refine ex_iconst (v := 1) dX3_readIntervals_24 (by decide) ?_
        refine ex_goto (tgt := 29) dX3_readIntervals_25 (by decide) ?_
        exact hJ26 _ (by rw [if_neg c_21])
def w_X3_readIntervals (r m : Nat) (M : Mem) (Q : Int32 → Mem → Prop) : Prop := ∃ k, w_X3_readIntervals_2 r m Q  k 0 M
theorem t_X3_readIntervals (r m : Nat) (hr : RW r) (hm : MU m) (M : Mem) (Q : Int32 → Mem → Prop) (h : w_X3_readIntervals r m  M Q) : Ex true mX3_readIntervals 78 78 0 0 0 [.ref 40, .null, .null, .null, .null] [] M Q := by
  unfold w_X3_readIntervals at h
  refine ex_iconst (v := 0) dX3_readIntervals_0 (by decide) ?_
  refine ex_istore_n (L2 := [.ref 40, .int 0, .null, .null, .null]) dX3_readIntervals_1 (by decide) rfl rfl ?_
  obtain ⟨k_, h⟩ := h
  exact t_X3_readIntervals_2 r m hr hm  Q   k_ 0 M h
def w_X3_readTie (r m : Nat) (M : Mem) (Q : Int32 → Mem → Prop) : Prop := (M 40 3 = nI m) ∧ (∀ x2 : Int32, x2 = ((M m 3) - 1) → ((x2 < 0) → (Q 0 M)) ∧ (¬ (x2 < 0) → (w_X3_sees r m 8 9 M (fun v3 M4 => ((v3 = 0) → (Q 0 M4)) ∧ (¬ (v3 = 0) → ((M4 40 3 = nI m) ∧ ((vp_in x2 600) ∧ (∀ M7 : Mem, M7 = (mset M4 (m + 11) (Int32.toNatClampNeg x2) 1) → ∀ M8 : Mem, M8 = (mset M7 40 4 ((M7 40 4) + 2)) → Q 0 M8))))))))
theorem t_X3_readTie (r m : Nat) (hr : RW r) (hm : MU m) (M : Mem) (Q : Int32 → Mem → Prop) (h : w_X3_readTie r m  M Q) : Ex true mX3_readTie 78 78 0 0 0 [.ref 40, .null] [] M Q := by
  unfold w_X3_readTie at h
  refine ex_aload_n dX3_readTie_0 rfl ?_
  obtain ⟨g1, h⟩ := h
  refine ex_getD (ci := 3) (j := 3) (v := m) dX3_readTie_1 (by decide) rfl rfl lk_X3_26 rfl g1 (mu_100 hm) ?_
  refine ex_getI (ci := 0) (j := 3) dX3_readTie_4 (mu_l hm 0 (by decide)) (mu_S0 hm) rfl lk_X3_96 ?_
  refine ex_iconst (v := 1) dX3_readTie_7 (by decide) ?_
  refine ex_isub dX3_readTie_8 ?_
  refine ex_top (fun x2 ex2 => ?_)
  replace h := h x2 ex2
  refine ex_istore_n (L2 := [.ref 40, .int x2]) dX3_readTie_9 (by decide) rfl rfl ?_
  refine ex_iload_n dX3_readTie_10 rfl ?_
  refine ex_if_lt (tgt := 45) dX3_readTie_11 (by decide) (fun c_11 => ?_) (fun c_11 => ?_)
  · replace h := h.1 c_11
    exact ex_vret dX3_readTie_45 rfl rfl h
  · replace h := h.2 c_11
    refine ex_aload_n dX3_readTie_14 rfl ?_
    refine ex_bipush (v := 8) dX3_readTie_15 (by decide) ?_
    refine ex_bipush (v := 9) dX3_readTie_17 (by decide) ?_
    refine ex_invV (k := 40) (ci := 3) (as := [.int 8, .int 9]) (L2 := [.ref 40, .int 8, .int 9]) (st := []) 0 0 dX3_readTie_19 lk_X3_65 sl_X3_sees (rmK_of rfl) (by decide) rfl ⟨by decide, rfl⟩ rfl (Nat.le_of_ble_eq_true rfl) (Nat.le_of_ble_eq_true rfl) (t_X3_sees r m hr hm 8 9 M _ h) (fun v3 M4 h => ?_)
    show Ex true mX3_readTie 78 78 0 0 22 [.ref 40, .int x2] [.int v3] M4 Q
    refine ex_if_eq (tgt := 45) dX3_readTie_22 (by decide) (fun c_22 => ?_) (fun c_22 => ?_)
    · replace h := h.1 c_22
      exact ex_vret dX3_readTie_45 rfl rfl h
    · replace h := h.2 c_22
      refine ex_aload_n dX3_readTie_25 rfl ?_
      obtain ⟨g5, h⟩ := h
      refine ex_getD (ci := 3) (j := 3) (v := m) dX3_readTie_26 (by decide) rfl rfl lk_X3_26 rfl g5 (mu_100 hm) ?_
      refine ex_getR (ci := 0) (j := 14) (v := m + 11) dX3_readTie_29 (mu_l hm 0 (by decide)) (mu_S0 hm) rfl lk_X3_205 (mu_F14 hm) (by omega) ?_
      refine ex_iload_n dX3_readTie_32 rfl ?_
      refine ex_iconst (v := 1) dX3_readTie_33 (by decide) ?_
      obtain ⟨b6, h⟩ := h
      refine ex_iast dX3_readTie_34 (mu_l hm 11 (by decide)) (mu_S11 hm) b6 ?_
      refine ex_nmM (fun M7 eM7 => ?_)
      replace h := h M7 eM7
      refine ex_aload_n dX3_readTie_35 rfl ?_
      refine ex_dup dX3_readTie_36 rfl ?_
      refine ex_getI (ci := 3) (j := 4) dX3_readTie_37 (by decide) rfl rfl lk_X3_30 ?_
      refine ex_iconst (v := 2) dX3_readTie_40 (by decide) ?_
      refine ex_iadd dX3_readTie_41 ?_
      refine ex_putI (ci := 3) (j := 4) dX3_readTie_42 (by decide) rfl rfl lk_X3_30 ⟨rfl, rfl⟩ ?_
      refine ex_nmM (fun M8 eM8 => ?_)
      replace h := h M8 eM8
      exact ex_vret dX3_readTie_45 rfl rfl h
def w_X3_readSlur_51 (r m : Nat) (Q : Int32 → Mem → Prop) (l1 : Int32) (M : Mem) : Prop := (((M 40 5) = 0) → (w_X3_peek r m M (fun v3 M4 => (¬ (v3 = 9) → (Q 0 M4)) ∧ ((v3 = 9) → ((M4 40 3 = nI m) ∧ ((vp_in l1 600) ∧ (∀ M7 : Mem, M7 = (mset M4 (m + 12) (Int32.toNatClampNeg l1) 1) → ∀ M8 : Mem, M8 = (mset M7 40 4 ((M7 40 4) + 1)) → Q 0 M8))))))) ∧ (¬ ((M 40 5) = 0) → ((M 40 3 = nI m) ∧ ((vp_in l1 600) ∧ (∀ M11 : Mem, M11 = (mset M (m + 12) (Int32.toNatClampNeg l1) 1) → Q 0 M11))))
theorem t_X3_readSlur_51 (r m : Nat) (hr : RW r) (hm : MU m) (Q : Int32 → Mem → Prop) (l1 : Int32) (M : Mem) (h : w_X3_readSlur_51 r m Q  l1 M) : Ex true mX3_readSlur 78 78 0 0 51 [.ref 40, .int l1] [] M Q := by
  unfold w_X3_readSlur_51 at h
  refine ex_aload_n dX3_readSlur_51 rfl ?_
  refine ex_getI (ci := 3) (j := 5) dX3_readSlur_52 (by decide) rfl rfl lk_X3_34 ?_
  refine ex_if_eq (tgt := 71) dX3_readSlur_55 (by decide) (fun c_55 => ?_) (fun c_55 => ?_)
  · replace h := h.1 c_55
    refine ex_aload_n dX3_readSlur_71 rfl ?_
    refine ex_invV (k := 40) (ci := 3) (as := []) (L2 := [.ref 40]) (st := []) 0 0 dX3_readSlur_72 lk_X3_69 sl_X3_peek (rmK_of rfl) (by decide) rfl ⟨by decide, rfl⟩ rfl (Nat.le_of_ble_eq_true rfl) (Nat.le_of_ble_eq_true rfl) (t_X3_peek r m hr hm M _ h) (fun v3 M4 h => ?_)
    show Ex true mX3_readSlur 78 78 0 0 75 [.ref 40, .int l1] [.int v3] M4 Q
    refine ex_bipush (v := 9) dX3_readSlur_75 (by decide) ?_
    refine ex_icmp_ne (tgt := 100) dX3_readSlur_77 (by decide) (fun c_77 => ?_) (fun c_77 => ?_)
    · replace h := h.1 c_77
      exact ex_vret dX3_readSlur_100 rfl rfl h
    · replace h := h.2 c_77
      refine ex_aload_n dX3_readSlur_80 rfl ?_
      obtain ⟨g5, h⟩ := h
      refine ex_getD (ci := 3) (j := 3) (v := m) dX3_readSlur_81 (by decide) rfl rfl lk_X3_26 rfl g5 (mu_100 hm) ?_
      refine ex_getR (ci := 0) (j := 15) (v := m + 12) dX3_readSlur_84 (mu_l hm 0 (by decide)) (mu_S0 hm) rfl lk_X3_208 (mu_F15 hm) (by omega) ?_
      refine ex_iload_n dX3_readSlur_87 rfl ?_
      refine ex_iconst (v := 1) dX3_readSlur_88 (by decide) ?_
      obtain ⟨b6, h⟩ := h
      refine ex_iast dX3_readSlur_89 (mu_l hm 12 (by decide)) (mu_S12 hm) b6 ?_
      refine ex_nmM (fun M7 eM7 => ?_)
      replace h := h M7 eM7
      refine ex_aload_n dX3_readSlur_90 rfl ?_
      refine ex_dup dX3_readSlur_91 rfl ?_
      refine ex_getI (ci := 3) (j := 4) dX3_readSlur_92 (by decide) rfl rfl lk_X3_30 ?_
      refine ex_iconst (v := 1) dX3_readSlur_95 (by decide) ?_
      refine ex_iadd dX3_readSlur_96 ?_
      refine ex_putI (ci := 3) (j := 4) dX3_readSlur_97 (by decide) rfl rfl lk_X3_30 ⟨rfl, rfl⟩ ?_
      refine ex_nmM (fun M8 eM8 => ?_)
      replace h := h M8 eM8
      exact ex_vret dX3_readSlur_100 rfl rfl h
  · replace h := h.2 c_55
    refine ex_aload_n dX3_readSlur_58 rfl ?_
    obtain ⟨g9, h⟩ := h
    refine ex_getD (ci := 3) (j := 3) (v := m) dX3_readSlur_59 (by decide) rfl rfl lk_X3_26 rfl g9 (mu_100 hm) ?_
    refine ex_getR (ci := 0) (j := 15) (v := m + 12) dX3_readSlur_62 (mu_l hm 0 (by decide)) (mu_S0 hm) rfl lk_X3_208 (mu_F15 hm) (by omega) ?_
    refine ex_iload_n dX3_readSlur_65 rfl ?_
    refine ex_iconst (v := 1) dX3_readSlur_66 (by decide) ?_
    obtain ⟨b10, h⟩ := h
    refine ex_iast dX3_readSlur_67 (mu_l hm 12 (by decide)) (mu_S12 hm) b10 ?_
    refine ex_nmM (fun M11 eM11 => ?_)
    replace h := h M11 eM11
    refine ex_goto (tgt := 100) dX3_readSlur_68 (by decide) ?_
    exact ex_vret dX3_readSlur_100 rfl rfl h
def w_X3_readSlur (r m : Nat) (M : Mem) (Q : Int32 → Mem → Prop) : Prop := (M 40 3 = nI m) ∧ (∀ x2 : Int32, x2 = ((M m 3) - 1) → ((0 ≤ x2) → ((((M 40 5) = 0) → (w_X3_readSlur_51 r m Q  x2 M)) ∧ (¬ ((M 40 5) = 0) → (w_X3_sees r m 24 6 M (fun v12 M13 => ((v12 = 0) → (w_X3_readSlur_51 r m Q  x2 M13)) ∧ (¬ (v12 = 0) → (∀ M14 : Mem, M14 = (mset M13 40 5 0) → ∀ M15 : Mem, M15 = (mset M14 40 4 ((M14 40 4) + 2)) → Q 0 M15))))))) ∧ (¬ (0 ≤ x2) → (Q 0 M)))
theorem t_X3_readSlur (r m : Nat) (hr : RW r) (hm : MU m) (M : Mem) (Q : Int32 → Mem → Prop) (h : w_X3_readSlur r m  M Q) : Ex true mX3_readSlur 78 78 0 0 0 [.ref 40, .null] [] M Q := by
  unfold w_X3_readSlur at h
  refine ex_aload_n dX3_readSlur_0 rfl ?_
  obtain ⟨g1, h⟩ := h
  refine ex_getD (ci := 3) (j := 3) (v := m) dX3_readSlur_1 (by decide) rfl rfl lk_X3_26 rfl g1 (mu_100 hm) ?_
  refine ex_getI (ci := 0) (j := 3) dX3_readSlur_4 (mu_l hm 0 (by decide)) (mu_S0 hm) rfl lk_X3_96 ?_
  refine ex_iconst (v := 1) dX3_readSlur_7 (by decide) ?_
  refine ex_isub dX3_readSlur_8 ?_
  refine ex_top (fun x2 ex2 => ?_)
  replace h := h x2 ex2
  refine ex_istore_n (L2 := [.ref 40, .int x2]) dX3_readSlur_9 (by decide) rfl rfl ?_
  refine ex_iload_n dX3_readSlur_10 rfl ?_
  refine ex_if_ge (tgt := 15) dX3_readSlur_11 (by decide) (fun c_11 => ?_) (fun c_11 => ?_)
  · replace h := h.1 c_11
    refine ex_aload_n dX3_readSlur_15 rfl ?_
    refine ex_getI (ci := 3) (j := 5) dX3_readSlur_16 (by decide) rfl rfl lk_X3_34 ?_
    refine ex_if_eq (tgt := 51) dX3_readSlur_19 (by decide) (fun c_19 => ?_) (fun c_19 => ?_)
    · replace h := h.1 c_19
      exact t_X3_readSlur_51 r m hr hm  Q   x2 M h
    · replace h := h.2 c_19
      refine ex_aload_n dX3_readSlur_22 rfl ?_
      refine ex_bipush (v := 24) dX3_readSlur_23 (by decide) ?_
      refine ex_bipush (v := 6) dX3_readSlur_25 (by decide) ?_
      refine ex_invV (k := 40) (ci := 3) (as := [.int 24, .int 6]) (L2 := [.ref 40, .int 24, .int 6]) (st := []) 0 0 dX3_readSlur_27 lk_X3_65 sl_X3_sees (rmK_of rfl) (by decide) rfl ⟨by decide, rfl⟩ rfl (Nat.le_of_ble_eq_true rfl) (Nat.le_of_ble_eq_true rfl) (t_X3_sees r m hr hm 24 6 M _ h) (fun v12 M13 h => ?_)
      show Ex true mX3_readSlur 78 78 0 0 30 [.ref 40, .int x2] [.int v12] M13 Q
      refine ex_if_eq (tgt := 51) dX3_readSlur_30 (by decide) (fun c_30 => ?_) (fun c_30 => ?_)
      · replace h := h.1 c_30
        exact t_X3_readSlur_51 r m hr hm  Q   x2 M13 h
      · replace h := h.2 c_30
        refine ex_aload_n dX3_readSlur_33 rfl ?_
        refine ex_iconst (v := 0) dX3_readSlur_34 (by decide) ?_
        refine ex_putI (ci := 3) (j := 5) dX3_readSlur_35 (by decide) rfl rfl lk_X3_34 ⟨rfl, rfl⟩ ?_
        refine ex_nmM (fun M14 eM14 => ?_)
        replace h := h M14 eM14
        refine ex_aload_n dX3_readSlur_38 rfl ?_
        refine ex_dup dX3_readSlur_39 rfl ?_
        refine ex_getI (ci := 3) (j := 4) dX3_readSlur_40 (by decide) rfl rfl lk_X3_30 ?_
        refine ex_iconst (v := 2) dX3_readSlur_43 (by decide) ?_
        refine ex_iadd dX3_readSlur_44 ?_
        refine ex_putI (ci := 3) (j := 4) dX3_readSlur_45 (by decide) rfl rfl lk_X3_30 ⟨rfl, rfl⟩ ?_
        refine ex_nmM (fun M15 eM15 => ?_)
        replace h := h M15 eM15
        refine ex_goto (tgt := 100) dX3_readSlur_48 (by decide) ?_
        exact ex_vret dX3_readSlur_100 rfl rfl h
  · replace h := h.2 c_11
    exact ex_vret dX3_readSlur_14 rfl rfl h
def w_X3_readItem (r m : Nat) (M : Mem) (Q : Int32 → Mem → Prop) : Prop := w_X3_readSizeSign r m M (fun v1 M2 => ((v1 = 0) → (Q 0 M2)) ∧ (¬ (v1 = 0) → (w_X3_readOpen r m M2 (fun v3 M4 => (¬ (v3 = 0) → (w_X3_peek r m M4 (fun v5 M6 => w_X6_indexIn 2 v5 M6 (fun v7 M8 => ((v7 < 0) → (w_X3_readNote r m M8 (fun v9 M10 => ((v9 = 0) → (Q 0 M10)) ∧ (¬ (v9 = 0) → (w_X3_readIntervals r m M10 (fun v11 M12 => (¬ (v11 = 0) → (w_X3_readTie r m M12 (fun v13 M14 => w_X3_readSlur r m M14 (fun v15 M16 => Q 1 M16)))) ∧ ((v11 = 0) → (Q 0 M12)))))))) ∧ (¬ (v7 < 0) → (∀ M17 : Mem, M17 = (mset M8 40 4 ((M8 40 4) + 1)) → (M17 40 3 = nI m) ∧ (w_X3_readDots r m M17 (fun v19 M20 => w_X0_addItem m 0 0 v7 (M17 40 6) v19 M20 (fun v21 M22 => w_X3_readSlur r m M22 (fun v23 M24 => Q 1 M24)))))))))) ∧ ((v3 = 0) → (Q 0 M4))))))
theorem t_X3_readItem (r m : Nat) (hr : RW r) (hm : MU m) (M : Mem) (Q : Int32 → Mem → Prop) (h : w_X3_readItem r m  M Q) : Ex true mX3_readItem 78 78 0 0 0 [.ref 40, .null] [] M Q := by
  unfold w_X3_readItem at h
  refine ex_aload_n dX3_readItem_0 rfl ?_
  refine ex_invV (k := 40) (ci := 3) (as := []) (L2 := [.ref 40, .null]) (st := []) 0 0 dX3_readItem_1 lk_X3_137 sl_X3_readSizeSign (rmK_of rfl) (by decide) rfl ⟨by decide, rfl⟩ rfl (Nat.le_of_ble_eq_true rfl) (Nat.le_of_ble_eq_true rfl) (t_X3_readSizeSign r m hr hm M _ h) (fun v1 M2 h => ?_)
  show Ex true mX3_readItem 78 78 0 0 4 [.ref 40, .null] [.int v1] M2 Q
  refine ex_if_eq (tgt := 14) dX3_readItem_4 (by decide) (fun c_4 => ?_) (fun c_4 => ?_)
  · replace h := h.1 c_4
    refine ex_iconst (v := 0) dX3_readItem_14 (by decide) ?_
    exact ex_iret dX3_readItem_15 rfl rfl rfl h
  · replace h := h.2 c_4
    refine ex_aload_n dX3_readItem_7 rfl ?_
    refine ex_invV (k := 40) (ci := 3) (as := []) (L2 := [.ref 40]) (st := []) 0 0 dX3_readItem_8 lk_X3_140 sl_X3_readOpen (rmK_of rfl) (by decide) rfl ⟨by decide, rfl⟩ rfl (Nat.le_of_ble_eq_true rfl) (Nat.le_of_ble_eq_true rfl) (t_X3_readOpen r m hr hm M2 _ h) (fun v3 M4 h => ?_)
    show Ex true mX3_readItem 78 78 0 0 11 [.ref 40, .null] [.int v3] M4 Q
    refine ex_if_ne (tgt := 16) dX3_readItem_11 (by decide) (fun c_11 => ?_) (fun c_11 => ?_)
    · replace h := h.1 c_11
      refine ex_gets (i := 2) dX3_readItem_16 (by decide) lk_X3_143 ?_
      refine ex_aload_n dX3_readItem_19 rfl ?_
      refine ex_invV (k := 40) (ci := 3) (as := []) (L2 := [.ref 40]) (st := [.ref (100 + 2)]) 0 0 dX3_readItem_20 lk_X3_69 sl_X3_peek (rmK_of rfl) (by decide) rfl ⟨by decide, rfl⟩ rfl (Nat.le_of_ble_eq_true rfl) (Nat.le_of_ble_eq_true rfl) (t_X3_peek r m hr hm M4 _ h) (fun v5 M6 h => ?_)
      show Ex true mX3_readItem 78 78 0 0 23 [.ref 40, .null] [.int v5, .ref (100 + 2)] M6 Q
      refine ex_invS (as := [.ref (100 + 2), .int v5]) (L2 := [.ref (100 + 2), .int v5, .null]) (st := []) 0 0 dX3_readItem_23 lk_X3_146 sl_X6_indexIn (rmK_of rfl) rfl (Nat.le_of_ble_eq_true rfl) (Nat.le_of_ble_eq_true rfl) (t_X6_indexIn 2 (ti_d rfl) v5 M6 _ h) (fun v7 M8 h => ?_)
      show Ex true mX3_readItem 78 78 0 0 26 [.ref 40, .null] [.int v7] M8 Q
      refine ex_istore_n (L2 := [.ref 40, .int v7]) dX3_readItem_26 (by decide) rfl rfl ?_
      refine ex_iload_n dX3_readItem_27 rfl ?_
      refine ex_if_lt (tgt := 63) dX3_readItem_28 (by decide) (fun c_28 => ?_) (fun c_28 => ?_)
      · replace h := h.1 c_28
        refine ex_aload_n dX3_readItem_63 rfl ?_
        refine ex_invV (k := 40) (ci := 3) (as := []) (L2 := [.ref 40, .null, .null, .null, .null, .null, .null]) (st := []) 0 0 dX3_readItem_64 lk_X3_157 sl_X3_readNote (rmK_of rfl) (by decide) rfl ⟨by decide, rfl⟩ rfl (Nat.le_of_ble_eq_true rfl) (Nat.le_of_ble_eq_true rfl) (t_X3_readNote r m hr hm M8 _ h) (fun v9 M10 h => ?_)
        show Ex true mX3_readItem 78 78 0 0 67 [.ref 40, .int v7] [.int v9] M10 Q
        refine ex_if_eq (tgt := 77) dX3_readItem_67 (by decide) (fun c_67 => ?_) (fun c_67 => ?_)
        · replace h := h.1 c_67
          refine ex_iconst (v := 0) dX3_readItem_77 (by decide) ?_
          exact ex_iret dX3_readItem_78 rfl rfl rfl h
        · replace h := h.2 c_67
          refine ex_aload_n dX3_readItem_70 rfl ?_
          refine ex_invV (k := 40) (ci := 3) (as := []) (L2 := [.ref 40, .null, .null, .null, .null]) (st := []) 0 0 dX3_readItem_71 lk_X3_160 sl_X3_readIntervals (rmK_of rfl) (by decide) rfl ⟨by decide, rfl⟩ rfl (Nat.le_of_ble_eq_true rfl) (Nat.le_of_ble_eq_true rfl) (t_X3_readIntervals r m hr hm M10 _ h) (fun v11 M12 h => ?_)
          show Ex true mX3_readItem 78 78 0 0 74 [.ref 40, .int v7] [.int v11] M12 Q
          refine ex_if_ne (tgt := 79) dX3_readItem_74 (by decide) (fun c_74 => ?_) (fun c_74 => ?_)
          · replace h := h.1 c_74
            refine ex_aload_n dX3_readItem_79 rfl ?_
            refine ex_invV (k := 40) (ci := 3) (as := []) (L2 := [.ref 40, .null]) (st := []) 0 0 dX3_readItem_80 lk_X3_163 sl_X3_readTie (rmK_of rfl) (by decide) rfl ⟨by decide, rfl⟩ rfl (Nat.le_of_ble_eq_true rfl) (Nat.le_of_ble_eq_true rfl) (t_X3_readTie r m hr hm M12 _ h) (fun v13 M14 h => ?_)
            show Ex true mX3_readItem 78 78 0 0 83 [.ref 40, .int v7] [] M14 Q
            refine ex_aload_n dX3_readItem_83 rfl ?_
            refine ex_invV (k := 40) (ci := 3) (as := []) (L2 := [.ref 40, .null]) (st := []) 0 0 dX3_readItem_84 lk_X3_166 sl_X3_readSlur (rmK_of rfl) (by decide) rfl ⟨by decide, rfl⟩ rfl (Nat.le_of_ble_eq_true rfl) (Nat.le_of_ble_eq_true rfl) (t_X3_readSlur r m hr hm M14 _ h) (fun v15 M16 h => ?_)
            show Ex true mX3_readItem 78 78 0 0 87 [.ref 40, .int v7] [] M16 Q
            refine ex_iconst (v := 1) dX3_readItem_87 (by decide) ?_
            exact ex_iret dX3_readItem_88 rfl rfl rfl h
          · replace h := h.2 c_74
            refine ex_iconst (v := 0) dX3_readItem_77 (by decide) ?_
            exact ex_iret dX3_readItem_78 rfl rfl rfl h
      · replace h := h.2 c_28
        refine ex_aload_n dX3_readItem_31 rfl ?_
        refine ex_dup dX3_readItem_32 rfl ?_
        refine ex_getI (ci := 3) (j := 4) dX3_readItem_33 (by decide) rfl rfl lk_X3_30 ?_
        refine ex_iconst (v := 1) dX3_readItem_36 (by decide) ?_
        refine ex_iadd dX3_readItem_37 ?_
        refine ex_putI (ci := 3) (j := 4) dX3_readItem_38 (by decide) rfl rfl lk_X3_30 ⟨rfl, rfl⟩ ?_
        refine ex_nmM (fun M17 eM17 => ?_)
        replace h := h M17 eM17
        refine ex_aload_n dX3_readItem_41 rfl ?_
        obtain ⟨g18, h⟩ := h
        refine ex_getD (ci := 3) (j := 3) (v := m) dX3_readItem_42 (by decide) rfl rfl lk_X3_26 rfl g18 (mu_100 hm) ?_
        refine ex_iconst (v := 0) dX3_readItem_45 (by decide) ?_
        refine ex_iconst (v := 0) dX3_readItem_46 (by decide) ?_
        refine ex_iload_n dX3_readItem_47 rfl ?_
        refine ex_aload_n dX3_readItem_48 rfl ?_
        refine ex_getI (ci := 3) (j := 6) dX3_readItem_49 (by decide) rfl rfl lk_X3_93 ?_
        refine ex_aload_n dX3_readItem_52 rfl ?_
        refine ex_invV (k := 40) (ci := 3) (as := []) (L2 := [.ref 40, .null]) (st := [.int (M17 40 6), .int v7, .int 0, .int 0, .ref m]) 0 0 dX3_readItem_53 lk_X3_150 sl_X3_readDots (rmK_of rfl) (by decide) rfl ⟨by decide, rfl⟩ rfl (Nat.le_of_ble_eq_true rfl) (Nat.le_of_ble_eq_true rfl) (t_X3_readDots r m hr hm M17 _ h) (fun v19 M20 h => ?_)
        show Ex true mX3_readItem 78 78 0 0 56 [.ref 40, .int v7] [.int v19, .int (M17 40 6), .int v7, .int 0, .int 0, .ref m] M20 Q
        refine ex_invV (k := m) (ci := 0) (as := [.int 0, .int 0, .int v7, .int (M17 40 6), .int v19]) (L2 := [.ref m, .int 0, .int 0, .int v7, .int (M17 40 6), .int v19, .null]) (st := []) 0 0 dX3_readItem_56 lk_X3_153 sl_X0_addItem (rmK_of rfl) (mu_l hm 0 (by decide)) (mu_S0 hm) ⟨by decide, rfl⟩ rfl (Nat.le_of_ble_eq_true rfl) (Nat.le_of_ble_eq_true rfl) (t_X0_addItem m hm 0 0 v7 (M17 40 6) v19 M20 _ h) (fun v21 M22 h => ?_)
        show Ex true mX3_readItem 78 78 0 0 59 [.ref 40, .int v7] [.int v21] M22 Q
        refine ex_pop dX3_readItem_59 rfl ?_
        refine ex_goto (tgt := 83) dX3_readItem_60 (by decide) ?_
        refine ex_aload_n dX3_readItem_83 rfl ?_
        refine ex_invV (k := 40) (ci := 3) (as := []) (L2 := [.ref 40, .null]) (st := []) 0 0 dX3_readItem_84 lk_X3_166 sl_X3_readSlur (rmK_of rfl) (by decide) rfl ⟨by decide, rfl⟩ rfl (Nat.le_of_ble_eq_true rfl) (Nat.le_of_ble_eq_true rfl) (t_X3_readSlur r m hr hm M22 _ h) (fun v23 M24 h => ?_)
        show Ex true mX3_readItem 78 78 0 0 87 [.ref 40, .int v7] [] M24 Q
        refine ex_iconst (v := 1) dX3_readItem_87 (by decide) ?_
        exact ex_iret dX3_readItem_88 rfl rfl rfl h
    · replace h := h.2 c_11
      refine ex_iconst (v := 0) dX3_readItem_14 (by decide) ?_
      exact ex_iret dX3_readItem_15 rfl rfl rfl h
def w_X3_isAtVoiceEnd (r m : Nat) (M : Mem) (Q : Int32 → Mem → Prop) : Prop := w_X3_peek r m M (fun v1 M2 => ((v1 = 0) → (Q 1 M2)) ∧ (¬ (v1 = 0) → (((v1 = 64) → (Q 1 M2)) ∧ (¬ (v1 = 64) → (((v1 = (-1)) → (Q 1 M2)) ∧ (¬ (v1 = (-1)) → (w_X3_sees r m 35 28 M2 (fun v3 M4 => ∀ z5 : Int32, z5 = (if v3 = 0 then 0 else 1) → (z5 = 0 ∨ z5 = 1) ∧ (Q z5 M4)))))))))
theorem t_X3_isAtVoiceEnd (r m : Nat) (hr : RW r) (hm : MU m) (M : Mem) (Q : Int32 → Mem → Prop) (h : w_X3_isAtVoiceEnd r m  M Q) : Ex true mX3_isAtVoiceEnd 78 78 0 0 0 [.ref 40, .null] [] M Q := by
  unfold w_X3_isAtVoiceEnd at h
  refine ex_aload_n dX3_isAtVoiceEnd_0 rfl ?_
  refine ex_invV (k := 40) (ci := 3) (as := []) (L2 := [.ref 40]) (st := []) 0 0 dX3_isAtVoiceEnd_1 lk_X3_69 sl_X3_peek (rmK_of rfl) (by decide) rfl ⟨by decide, rfl⟩ rfl (Nat.le_of_ble_eq_true rfl) (Nat.le_of_ble_eq_true rfl) (t_X3_peek r m hr hm M _ h) (fun v1 M2 h => ?_)
  show Ex true mX3_isAtVoiceEnd 78 78 0 0 4 [.ref 40, .null] [.int v1] M2 Q
  refine ex_istore_n (L2 := [.ref 40, .int v1]) dX3_isAtVoiceEnd_4 (by decide) rfl rfl ?_
  refine ex_iload_n dX3_isAtVoiceEnd_5 rfl ?_
  refine ex_if_eq (tgt := 31) dX3_isAtVoiceEnd_6 (by decide) (fun c_6 => ?_) (fun c_6 => ?_)
  · replace h := h.1 c_6
    refine ex_iconst (v := 1) dX3_isAtVoiceEnd_31 (by decide) ?_
    refine ex_goto (tgt := 36) dX3_isAtVoiceEnd_32 (by decide) ?_
    exact ex_iret dX3_isAtVoiceEnd_36 rfl rfl rfl h
  · replace h := h.2 c_6
    refine ex_iload_n dX3_isAtVoiceEnd_9 rfl ?_
    refine ex_bipush (v := 64) dX3_isAtVoiceEnd_10 (by decide) ?_
    refine ex_icmp_eq (tgt := 31) dX3_isAtVoiceEnd_12 (by decide) (fun c_12 => ?_) (fun c_12 => ?_)
    · replace h := h.1 c_12
      refine ex_iconst (v := 1) dX3_isAtVoiceEnd_31 (by decide) ?_
      refine ex_goto (tgt := 36) dX3_isAtVoiceEnd_32 (by decide) ?_
      exact ex_iret dX3_isAtVoiceEnd_36 rfl rfl rfl h
    · replace h := h.2 c_12
      refine ex_iload_n dX3_isAtVoiceEnd_15 rfl ?_
      refine ex_iconst (v := (-1)) dX3_isAtVoiceEnd_16 (by decide) ?_
      refine ex_icmp_eq (tgt := 31) dX3_isAtVoiceEnd_17 (by decide) (fun c_17 => ?_) (fun c_17 => ?_)
      · replace h := h.1 c_17
        refine ex_iconst (v := 1) dX3_isAtVoiceEnd_31 (by decide) ?_
        refine ex_goto (tgt := 36) dX3_isAtVoiceEnd_32 (by decide) ?_
        exact ex_iret dX3_isAtVoiceEnd_36 rfl rfl rfl h
      · replace h := h.2 c_17
        refine ex_aload_n dX3_isAtVoiceEnd_20 rfl ?_
        refine ex_bipush (v := 35) dX3_isAtVoiceEnd_21 (by decide) ?_
        refine ex_bipush (v := 28) dX3_isAtVoiceEnd_23 (by decide) ?_
        refine ex_invV (k := 40) (ci := 3) (as := [.int 35, .int 28]) (L2 := [.ref 40, .int 35, .int 28]) (st := []) 0 0 dX3_isAtVoiceEnd_25 lk_X3_65 sl_X3_sees (rmK_of rfl) (by decide) rfl ⟨by decide, rfl⟩ rfl (Nat.le_of_ble_eq_true rfl) (Nat.le_of_ble_eq_true rfl) (t_X3_sees r m hr hm 35 28 M2 _ h) (fun v3 M4 h => ?_)
        show Ex true mX3_isAtVoiceEnd 78 78 0 0 28 [.ref 40, .int v1] [.int v3] M4 Q
        have hJ7 : ∀ z5 : Int32, z5 = (if v3 = 0 then 0 else 1) → Ex true mX3_isAtVoiceEnd 78 78 0 0 36 [.ref 40, .int v1] [.int z5] M4 Q := by
          intro z5 ez5
          replace h := h z5 ez5
          obtain ⟨b6, h⟩ := h
          exact ex_iret dX3_isAtVoiceEnd_36 rfl (nr01 b6) rfl h
        refine ex_if_eq (tgt := 35) dX3_isAtVoiceEnd_28 (by decide) (fun c_28 => ?_) (fun c_28 => ?_)
        ·
          refine ex_iconst (v := 0) dX3_isAtVoiceEnd_35 (by decide) ?_
          exact hJ7 _ (by rw [if_pos c_28])
        ·
          refine ex_iconst (v := 1) dX3_isAtVoiceEnd_31 (by decide) ?_
          refine ex_goto (tgt := 36) dX3_isAtVoiceEnd_32 (by decide) ?_
          exact hJ7 _ (by rw [if_neg c_28])
def w_X3_endVoice_112 (r m : Nat) (Q : Int32 → Mem → Prop) (l1 : Int32) (l2 : Int32) (l3 : Int32) (M : Mem) : Prop := (M 40 3 = nI m) ∧ (w_X5_settle m l1 l3 M (fun v10 M11 => (¬ (v10 = 0) → ((M11 40 3 = nI m) ∧ ((¬ l2 < 0) ∧ ((¬ l3 < 0) ∧ ((Int32.toNatClampNeg 0 + Int32.toNatClampNeg l3 ≤ 40) ∧ ((Int32.toNatClampNeg l2 + Int32.toNatClampNeg l3 ≤ 600) ∧ (∀ M17 : Mem, M17 = (mrow M11 (m + 9) (va_cpy (M11 36) (M11 (m + 9)) (Int32.toNatClampNeg 0) (Int32.toNatClampNeg l2) (Int32.toNatClampNeg l3))) → Q 1 M17))))))) ∧ ((v10 = 0) → (Q 0 M11))))
theorem t_X3_endVoice_112 (r m : Nat) (hr : RW r) (hm : MU m) (Q : Int32 → Mem → Prop) (l1 : Int32) (l2 : Int32) (l3 : Int32) (M : Mem) (h : w_X3_endVoice_112 r m Q  l1 l2 l3 M) : Ex true mX3_endVoice 78 78 0 0 112 [.ref 40, .int l1, .int l2, .int l3] [] M Q := by
  unfold w_X3_endVoice_112 at h
  refine ex_aload_n dX3_endVoice_112 rfl ?_
  refine ex_getR (ci := 3) (j := 0) (v := 35) dX3_endVoice_113 (by decide) rfl rfl lk_X3_18 rfl (by decide) ?_
  refine ex_aload_n dX3_endVoice_116 rfl ?_
  obtain ⟨g9, h⟩ := h
  refine ex_getD (ci := 3) (j := 3) (v := m) dX3_endVoice_117 (by decide) rfl rfl lk_X3_26 rfl g9 (mu_100 hm) ?_
  refine ex_iload_n dX3_endVoice_120 rfl ?_
  refine ex_iload_n dX3_endVoice_121 rfl ?_
  refine ex_invV (k := 35) (ci := 5) (as := [.ref m, .int l1, .int l3]) (L2 := [.ref 35, .ref m, .int l1, .int l3, .null, .null, .null, .null, .null]) (st := []) 0 0 dX3_endVoice_122 lk_X3_122 sl_X5_settle (rmK_of rfl) (by decide) rfl ⟨by decide, rfl⟩ rfl (Nat.le_of_ble_eq_true rfl) (Nat.le_of_ble_eq_true rfl) (t_X5_settle m hm l1 l3 M _ h) (fun v10 M11 h => ?_)
  show Ex true mX3_endVoice 78 78 0 0 125 [.ref 40, .int l1, .int l2, .int l3] [.int v10] M11 Q
  refine ex_if_ne (tgt := 130) dX3_endVoice_125 (by decide) (fun c_125 => ?_) (fun c_125 => ?_)
  · replace h := h.1 c_125
    refine ex_aload_n dX3_endVoice_130 rfl ?_
    refine ex_getR (ci := 3) (j := 0) (v := 35) dX3_endVoice_131 (by decide) rfl rfl lk_X3_18 rfl (by decide) ?_
    refine ex_getR (ci := 5) (j := 0) (v := 36) dX3_endVoice_134 (by decide) rfl rfl lk_X3_128 rfl (by decide) ?_
    refine ex_iconst (v := 0) dX3_endVoice_137 (by decide) ?_
    refine ex_aload_n dX3_endVoice_138 rfl ?_
    obtain ⟨g12, h⟩ := h
    refine ex_getD (ci := 3) (j := 3) (v := m) dX3_endVoice_139 (by decide) rfl rfl lk_X3_26 rfl g12 (mu_100 hm) ?_
    refine ex_getR (ci := 0) (j := 12) (v := m + 9) dX3_endVoice_142 (mu_l hm 0 (by decide)) (mu_S0 hm) rfl lk_X3_116 (mu_F12 hm) (by omega) ?_
    refine ex_iload_n dX3_endVoice_145 rfl ?_
    refine ex_iload_n dX3_endVoice_146 rfl ?_
    obtain ⟨g13, h⟩ := h
    obtain ⟨g14, h⟩ := h
    obtain ⟨g15, h⟩ := h
    obtain ⟨g16, h⟩ := h
    refine ex_copy (k0 := 36) (k1 := (m + 9)) dX3_endVoice_147 lk_X3_131 (by decide) (mu_l hm 9 (by decide)) rfl (mu_S9 hm) (by decide) g13 g14 g15 g16 (by decide) (by decide) ?_
    refine ex_nmM (fun M17 eM17 => ?_)
    replace h := h M17 eM17
    refine ex_iconst (v := 1) dX3_endVoice_150 (by decide) ?_
    exact ex_iret dX3_endVoice_151 rfl rfl rfl h
  · replace h := h.2 c_125
    refine ex_iconst (v := 0) dX3_endVoice_128 (by decide) ?_
    exact ex_iret dX3_endVoice_129 rfl rfl rfl h
def wb_X3_endVoice_78 (r m : Nat) (Q : Int32 → Mem → Prop) (B78 : Int32 → Int32 → Int32 → Mem → Prop) (l1 : Int32) (l2 : Int32) (l3 : Int32) (M : Mem) : Prop := (M 40 3 = nI m) ∧ ((vp_in l1 180) ∧ ((((M (m + 3) (Int32.toNatClampNeg l1)) ≤ l3) → (w_X3_endVoice_112 r m Q  l1 l2 l3 M)) ∧ (¬ ((M (m + 3) (Int32.toNatClampNeg l1)) ≤ l3) → ((M 40 3 = nI m) ∧ ((vp_in (l2 + l3) 600) ∧ ((¬ ((M (m + 9) (Int32.toNatClampNeg (l2 + l3))) = (-1)) → (w_X3_endVoice_112 r m Q  l1 l2 l3 M)) ∧ (((M (m + 9) (Int32.toNatClampNeg (l2 + l3))) = (-1)) → (∀ x20 : Int32, x20 = l3 + 1 → B78 l1 l2 x20 M))))))))
def w_X3_endVoice_78 (r m : Nat) (Q : Int32 → Mem → Prop) : Nat → Int32 → Int32 → Int32 → Mem → Prop
  | 0 => fun _ _ _ _ => False
  | k + 1 => wb_X3_endVoice_78 r m Q  (w_X3_endVoice_78 r m Q  k)
theorem t_X3_endVoice_78 (r m : Nat) (hr : RW r) (hm : MU m) (Q : Int32 → Mem → Prop) : ∀ (k : Nat) (l1 : Int32) (l2 : Int32) (l3 : Int32) (M : Mem), w_X3_endVoice_78 r m Q  k l1 l2 l3 M → Ex true mX3_endVoice 78 78 0 0 78 [.ref 40, .int l1, .int l2, .int l3] [] M Q := by
  intro k
  induction k with
  | zero => intro l1 l2 l3 M h; exact False.elim h
  | succ k hB78 =>
    intro l1 l2 l3 M h
    replace h : wb_X3_endVoice_78 r m Q  (w_X3_endVoice_78 r m Q  k) l1 l2 l3 M := h
    generalize w_X3_endVoice_78 r m Q  k = B78 at hB78 h
    unfold wb_X3_endVoice_78 at h
    refine ex_iload_n dX3_endVoice_78 rfl ?_
    refine ex_aload_n dX3_endVoice_79 rfl ?_
    obtain ⟨g7, h⟩ := h
    refine ex_getD (ci := 3) (j := 3) (v := m) dX3_endVoice_80 (by decide) rfl rfl lk_X3_26 rfl g7 (mu_100 hm) ?_
    refine ex_getR (ci := 0) (j := 6) (v := m + 3) dX3_endVoice_83 (mu_l hm 0 (by decide)) (mu_S0 hm) rfl lk_X3_119 (mu_F6 hm) (by omega) ?_
    refine ex_iload_n dX3_endVoice_86 rfl ?_
    obtain ⟨b8, h⟩ := h
    refine ex_iald dX3_endVoice_87 (mu_l hm 3 (by decide)) (mu_S3 hm) b8 ?_
    refine ex_icmp_ge (tgt := 112) dX3_endVoice_88 (by decide) (fun c_88 => ?_) (fun c_88 => ?_)
    · replace h := h.1 c_88
      exact t_X3_endVoice_112 r m hr hm  Q   l1 l2 l3 M h
    · replace h := h.2 c_88
      refine ex_aload_n dX3_endVoice_91 rfl ?_
      obtain ⟨g18, h⟩ := h
      refine ex_getD (ci := 3) (j := 3) (v := m) dX3_endVoice_92 (by decide) rfl rfl lk_X3_26 rfl g18 (mu_100 hm) ?_
      refine ex_getR (ci := 0) (j := 12) (v := m + 9) dX3_endVoice_95 (mu_l hm 0 (by decide)) (mu_S0 hm) rfl lk_X3_116 (mu_F12 hm) (by omega) ?_
      refine ex_iload_n dX3_endVoice_98 rfl ?_
      refine ex_iload_n dX3_endVoice_99 rfl ?_
      refine ex_iadd dX3_endVoice_100 ?_
      obtain ⟨b19, h⟩ := h
      refine ex_iald dX3_endVoice_101 (mu_l hm 9 (by decide)) (mu_S9 hm) b19 ?_
      refine ex_iconst (v := (-1)) dX3_endVoice_102 (by decide) ?_
      refine ex_icmp_ne (tgt := 112) dX3_endVoice_103 (by decide) (fun c_103 => ?_) (fun c_103 => ?_)
      · replace h := h.1 c_103
        exact t_X3_endVoice_112 r m hr hm  Q   l1 l2 l3 M h
      · replace h := h.2 c_103
        refine ex_iinc (v := l3 + 1) (L2 := [.ref 40, .int l1, .int l2, .int (l3 + 1)]) dX3_endVoice_106 rfl rfl (by decide) rfl rfl ?_
        obtain ⟨x20, ex20⟩ : ∃ x20 : Int32, x20 = l3 + 1 := ⟨_, rfl⟩
        rw [← ex20]
        replace h := h x20 ex20
        refine ex_goto (tgt := 78) dX3_endVoice_109 (by decide) ?_
        exact hB78 l1 l2 x20 M h
def w_X3_endVoice_30 (r m : Nat) (Q : Int32 → Mem → Prop) (l1 : Int32) (M : Mem) : Prop := (M 40 3 = nI m) ∧ ((vp_in l1 180) ∧ (∀ x3 : Int32, x3 = (M (m + 2) (Int32.toNatClampNeg l1)) → (M 40 3 = nI m) ∧ (w_X0_isLoneWholeRest m l1 M (fun v5 M6 => ((v5 = 0) → (∃ k, w_X3_endVoice_78 r m Q  k l1 x3 0 M6)) ∧ (¬ (v5 = 0) → ((M6 40 3 = nI m) ∧ ((vp_in x3 600) ∧ ((¬ ((M6 (m + 9) (Int32.toNatClampNeg x3)) = (-1)) → (∃ k, w_X3_endVoice_78 r m Q  k l1 x3 0 M6)) ∧ (((M6 (m + 9) (Int32.toNatClampNeg x3)) = (-1)) → ((M6 40 3 = nI m) ∧ ((vp_in x3 600) ∧ (∀ M25 : Mem, M25 = (mset M6 (m + 9) (Int32.toNatClampNeg x3) 2) → Q 1 M25))))))))))))
theorem t_X3_endVoice_30 (r m : Nat) (hr : RW r) (hm : MU m) (Q : Int32 → Mem → Prop) (l1 : Int32) (M : Mem) (h : w_X3_endVoice_30 r m Q  l1 M) : Ex true mX3_endVoice 78 78 0 0 30 [.ref 40, .int l1, .null, .null] [] M Q := by
  unfold w_X3_endVoice_30 at h
  refine ex_aload_n dX3_endVoice_30 rfl ?_
  obtain ⟨g1, h⟩ := h
  refine ex_getD (ci := 3) (j := 3) (v := m) dX3_endVoice_31 (by decide) rfl rfl lk_X3_26 rfl g1 (mu_100 hm) ?_
  refine ex_getR (ci := 0) (j := 5) (v := m + 2) dX3_endVoice_34 (mu_l hm 0 (by decide)) (mu_S0 hm) rfl lk_X3_109 (mu_F5 hm) (by omega) ?_
  refine ex_iload_n dX3_endVoice_37 rfl ?_
  obtain ⟨b2, h⟩ := h
  refine ex_iald dX3_endVoice_38 (mu_l hm 2 (by decide)) (mu_S2 hm) b2 ?_
  refine ex_top (fun x3 ex3 => ?_)
  replace h := h x3 ex3
  refine ex_istore_n (L2 := [.ref 40, .int l1, .int x3, .null]) dX3_endVoice_39 (by decide) rfl rfl ?_
  refine ex_aload_n dX3_endVoice_40 rfl ?_
  obtain ⟨g4, h⟩ := h
  refine ex_getD (ci := 3) (j := 3) (v := m) dX3_endVoice_41 (by decide) rfl rfl lk_X3_26 rfl g4 (mu_100 hm) ?_
  refine ex_iload_n dX3_endVoice_44 rfl ?_
  refine ex_invV (k := m) (ci := 0) (as := [.int l1]) (L2 := [.ref m, .int l1, .null]) (st := []) 0 0 dX3_endVoice_45 lk_X3_113 sl_X0_isLoneWholeRest (rmK_of rfl) (mu_l hm 0 (by decide)) (mu_S0 hm) ⟨by decide, rfl⟩ rfl (Nat.le_of_ble_eq_true rfl) (Nat.le_of_ble_eq_true rfl) (t_X0_isLoneWholeRest m hm l1 M _ h) (fun v5 M6 h => ?_)
  show Ex true mX3_endVoice 78 78 0 0 48 [.ref 40, .int l1, .int x3, .null] [.int v5] M6 Q
  refine ex_if_eq (tgt := 76) dX3_endVoice_48 (by decide) (fun c_48 => ?_) (fun c_48 => ?_)
  · replace h := h.1 c_48
    refine ex_iconst (v := 0) dX3_endVoice_76 (by decide) ?_
    refine ex_istore_n (L2 := [.ref 40, .int l1, .int x3, .int 0]) dX3_endVoice_77 (by decide) rfl rfl ?_
    obtain ⟨k_, h⟩ := h
    exact t_X3_endVoice_78 r m hr hm  Q   k_ l1 x3 0 M6 h
  · replace h := h.2 c_48
    refine ex_aload_n dX3_endVoice_51 rfl ?_
    obtain ⟨g21, h⟩ := h
    refine ex_getD (ci := 3) (j := 3) (v := m) dX3_endVoice_52 (by decide) rfl rfl lk_X3_26 rfl g21 (mu_100 hm) ?_
    refine ex_getR (ci := 0) (j := 12) (v := m + 9) dX3_endVoice_55 (mu_l hm 0 (by decide)) (mu_S0 hm) rfl lk_X3_116 (mu_F12 hm) (by omega) ?_
    refine ex_iload_n dX3_endVoice_58 rfl ?_
    obtain ⟨b22, h⟩ := h
    refine ex_iald dX3_endVoice_59 (mu_l hm 9 (by decide)) (mu_S9 hm) b22 ?_
    refine ex_iconst (v := (-1)) dX3_endVoice_60 (by decide) ?_
    refine ex_icmp_ne (tgt := 76) dX3_endVoice_61 (by decide) (fun c_61 => ?_) (fun c_61 => ?_)
    · replace h := h.1 c_61
      refine ex_iconst (v := 0) dX3_endVoice_76 (by decide) ?_
      refine ex_istore_n (L2 := [.ref 40, .int l1, .int x3, .int 0]) dX3_endVoice_77 (by decide) rfl rfl ?_
      obtain ⟨k_, h⟩ := h
      exact t_X3_endVoice_78 r m hr hm  Q   k_ l1 x3 0 M6 h
    · replace h := h.2 c_61
      refine ex_aload_n dX3_endVoice_64 rfl ?_
      obtain ⟨g23, h⟩ := h
      refine ex_getD (ci := 3) (j := 3) (v := m) dX3_endVoice_65 (by decide) rfl rfl lk_X3_26 rfl g23 (mu_100 hm) ?_
      refine ex_getR (ci := 0) (j := 12) (v := m + 9) dX3_endVoice_68 (mu_l hm 0 (by decide)) (mu_S0 hm) rfl lk_X3_116 (mu_F12 hm) (by omega) ?_
      refine ex_iload_n dX3_endVoice_71 rfl ?_
      refine ex_iconst (v := 2) dX3_endVoice_72 (by decide) ?_
      obtain ⟨b24, h⟩ := h
      refine ex_iast dX3_endVoice_73 (mu_l hm 9 (by decide)) (mu_S9 hm) b24 ?_
      refine ex_nmM (fun M25 eM25 => ?_)
      replace h := h M25 eM25
      refine ex_iconst (v := 1) dX3_endVoice_74 (by decide) ?_
      exact ex_iret dX3_endVoice_75 rfl rfl rfl h
def w_X3_endVoice (r m : Nat) (p1 : Int32) (M : Mem) (Q : Int32 → Mem → Prop) : Prop := (((M 40 5) = 0) → (w_X3_endVoice_30 r m Q  p1 M)) ∧ (¬ ((M 40 5) = 0) → (w_X3_sees r m 35 28 M (fun v26 M27 => ((v26 = 0) → (w_X3_endVoice_30 r m Q  p1 M27)) ∧ (¬ (v26 = 0) → (∀ M28 : Mem, M28 = (mset M27 40 4 ((M27 40 4) + 1)) → Q 0 M28)))))
theorem t_X3_endVoice (r m : Nat) (hr : RW r) (hm : MU m) (p1 : Int32) (M : Mem) (Q : Int32 → Mem → Prop) (h : w_X3_endVoice r m p1 M Q) : Ex true mX3_endVoice 78 78 0 0 0 [.ref 40, .int p1, .null, .null] [] M Q := by
  unfold w_X3_endVoice at h
  refine ex_aload_n dX3_endVoice_0 rfl ?_
  refine ex_getI (ci := 3) (j := 5) dX3_endVoice_1 (by decide) rfl rfl lk_X3_34 ?_
  refine ex_if_eq (tgt := 30) dX3_endVoice_4 (by decide) (fun c_4 => ?_) (fun c_4 => ?_)
  · replace h := h.1 c_4
    exact t_X3_endVoice_30 r m hr hm  Q   p1 M h
  · replace h := h.2 c_4
    refine ex_aload_n dX3_endVoice_7 rfl ?_
    refine ex_bipush (v := 35) dX3_endVoice_8 (by decide) ?_
    refine ex_bipush (v := 28) dX3_endVoice_10 (by decide) ?_
    refine ex_invV (k := 40) (ci := 3) (as := [.int 35, .int 28]) (L2 := [.ref 40, .int 35, .int 28]) (st := []) 0 0 dX3_endVoice_12 lk_X3_65 sl_X3_sees (rmK_of rfl) (by decide) rfl ⟨by decide, rfl⟩ rfl (Nat.le_of_ble_eq_true rfl) (Nat.le_of_ble_eq_true rfl) (t_X3_sees r m hr hm 35 28 M _ h) (fun v26 M27 h => ?_)
    show Ex true mX3_endVoice 78 78 0 0 15 [.ref 40, .int p1, .null, .null] [.int v26] M27 Q
    refine ex_if_eq (tgt := 30) dX3_endVoice_15 (by decide) (fun c_15 => ?_) (fun c_15 => ?_)
    · replace h := h.1 c_15
      exact t_X3_endVoice_30 r m hr hm  Q   p1 M27 h
    · replace h := h.2 c_15
      refine ex_aload_n dX3_endVoice_18 rfl ?_
      refine ex_dup dX3_endVoice_19 rfl ?_
      refine ex_getI (ci := 3) (j := 4) dX3_endVoice_20 (by decide) rfl rfl lk_X3_30 ?_
      refine ex_iconst (v := 1) dX3_endVoice_23 (by decide) ?_
      refine ex_iadd dX3_endVoice_24 ?_
      refine ex_putI (ci := 3) (j := 4) dX3_endVoice_25 (by decide) rfl rfl lk_X3_30 ⟨rfl, rfl⟩ ?_
      refine ex_nmM (fun M28 eM28 => ?_)
      replace h := h M28 eM28
      refine ex_iconst (v := 0) dX3_endVoice_28 (by decide) ?_
      exact ex_iret dX3_endVoice_29 rfl rfl rfl h
def w_X3_readVoice_102 (r m : Nat) (Q : Int32 → Mem → Prop) (l1 : Int32) (l2 : Int32) (l3 : Int32) (M : Mem) : Prop := ((l2 = 0) → (Q 0 M)) ∧ (¬ (l2 = 0) → (w_X3_endVoice r m l1 M (fun v6 M7 => ∀ z8 : Int32, z8 = (if v6 = 0 then 0 else 1) → (z8 = 0 ∨ z8 = 1) ∧ (Q z8 M7))))
theorem t_X3_readVoice_102 (r m : Nat) (hr : RW r) (hm : MU m) (Q : Int32 → Mem → Prop) (l1 : Int32) (l2 : Int32) (l3 : Int32) (M : Mem) (h : w_X3_readVoice_102 r m Q  l1 l2 l3 M) : Ex true mX3_readVoice 78 78 0 0 102 [.ref 40, .int l1, .int l2, .int l3] [] M Q := by
  unfold w_X3_readVoice_102 at h
  refine ex_iload_n dX3_readVoice_102 rfl ?_
  refine ex_if_eq (tgt := 118) dX3_readVoice_103 (by decide) (fun c_103 => ?_) (fun c_103 => ?_)
  · replace h := h.1 c_103
    refine ex_iconst (v := 0) dX3_readVoice_118 (by decide) ?_
    exact ex_iret dX3_readVoice_119 rfl rfl rfl h
  · replace h := h.2 c_103
    refine ex_aload_n dX3_readVoice_106 rfl ?_
    refine ex_iload_n dX3_readVoice_107 rfl ?_
    refine ex_invV (k := 40) (ci := 3) (as := [.int l1]) (L2 := [.ref 40, .int l1, .null, .null]) (st := []) 0 0 dX3_readVoice_108 lk_X3_105 sl_X3_endVoice (rmK_of rfl) (by decide) rfl ⟨by decide, rfl⟩ rfl (Nat.le_of_ble_eq_true rfl) (Nat.le_of_ble_eq_true rfl) (t_X3_endVoice r m hr hm l1 M _ h) (fun v6 M7 h => ?_)
    show Ex true mX3_readVoice 78 78 0 0 111 [.ref 40, .int l1, .int l2, .int l3] [.int v6] M7 Q
    have hJ10 : ∀ z8 : Int32, z8 = (if v6 = 0 then 0 else 1) → Ex true mX3_readVoice 78 78 0 0 119 [.ref 40, .int l1, .int l2, .int l3] [.int z8] M7 Q := by
      intro z8 ez8
      replace h := h z8 ez8
      obtain ⟨b9, h⟩ := h
      exact ex_iret dX3_readVoice_119 rfl (nr01 b9) rfl h
    refine ex_if_eq (tgt := 118) dX3_readVoice_111 (by decide) (fun c_111 => ?_) (fun c_111 => ?_)
    ·
      refine ex_iconst (v := 0) dX3_readVoice_118 (by decide) ?_
      exact hJ10 _ (by rw [if_pos c_111])
    ·
      refine ex_iconst (v := 1) dX3_readVoice_114 (by decide) ?_
      refine ex_goto (tgt := 119) dX3_readVoice_115 (by decide) ?_
      exact hJ10 _ (by rw [if_neg c_111])
def wb_X3_readVoice_47 (r m : Nat) (Q : Int32 → Mem → Prop) (B47 : Int32 → Int32 → Int32 → Mem → Prop) (l1 : Int32) (l2 : Int32) (l3 : Int32) (M : Mem) : Prop := ((40 < l3) → (w_X3_readVoice_102 r m Q  l1 l2 l3 M)) ∧ (¬ (40 < l3) → (((l2 = 0) → (w_X3_readVoice_102 r m Q  l1 l2 l3 M)) ∧ (¬ (l2 = 0) → (w_X3_isAtVoiceEnd r m M (fun v11 M12 => (¬ (v11 = 0) → (w_X3_readVoice_102 r m Q  l1 l2 l3 M12)) ∧ ((v11 = 0) → (((40 ≤ l3) → (∀ x13 : Int32, x13 = l3 + 1 → B47 l1 0 x13 M12)) ∧ (¬ (40 ≤ l3) → ((M12 40 3 = nI m) ∧ (((600 ≤ (M12 m 3)) → (∀ x15 : Int32, x15 = l3 + 1 → B47 l1 0 x15 M12)) ∧ (¬ (600 ≤ (M12 m 3)) → (w_X3_readItem r m M12 (fun v16 M17 => ∀ z18 : Int32, z18 = (if v16 = 0 then 0 else 1) → ∀ x19 : Int32, x19 = l3 + 1 → B47 l1 z18 x19 M17)))))))))))))
def w_X3_readVoice_47 (r m : Nat) (Q : Int32 → Mem → Prop) : Nat → Int32 → Int32 → Int32 → Mem → Prop
  | 0 => fun _ _ _ _ => False
  | k + 1 => wb_X3_readVoice_47 r m Q  (w_X3_readVoice_47 r m Q  k)
theorem t_X3_readVoice_47 (r m : Nat) (hr : RW r) (hm : MU m) (Q : Int32 → Mem → Prop) : ∀ (k : Nat) (l1 : Int32) (l2 : Int32) (l3 : Int32) (M : Mem), w_X3_readVoice_47 r m Q  k l1 l2 l3 M → Ex true mX3_readVoice 78 78 0 0 47 [.ref 40, .int l1, .int l2, .int l3] [] M Q := by
  intro k
  induction k with
  | zero => intro l1 l2 l3 M h; exact False.elim h
  | succ k hB47 =>
    intro l1 l2 l3 M h
    replace h : wb_X3_readVoice_47 r m Q  (w_X3_readVoice_47 r m Q  k) l1 l2 l3 M := h
    generalize w_X3_readVoice_47 r m Q  k = B47 at hB47 h
    unfold wb_X3_readVoice_47 at h
    refine ex_iload_n dX3_readVoice_47 rfl ?_
    refine ex_bipush (v := 40) dX3_readVoice_48 (by decide) ?_
    refine ex_icmp_gt (tgt := 102) dX3_readVoice_50 (by decide) (fun c_50 => ?_) (fun c_50 => ?_)
    · replace h := h.1 c_50
      exact t_X3_readVoice_102 r m hr hm  Q   l1 l2 l3 M h
    · replace h := h.2 c_50
      refine ex_iload_n dX3_readVoice_53 rfl ?_
      refine ex_if_eq (tgt := 102) dX3_readVoice_54 (by decide) (fun c_54 => ?_) (fun c_54 => ?_)
      · replace h := h.1 c_54
        exact t_X3_readVoice_102 r m hr hm  Q   l1 l2 l3 M h
      · replace h := h.2 c_54
        refine ex_aload_n dX3_readVoice_57 rfl ?_
        refine ex_invV (k := 40) (ci := 3) (as := []) (L2 := [.ref 40, .null]) (st := []) 0 0 dX3_readVoice_58 lk_X3_102 sl_X3_isAtVoiceEnd (rmK_of rfl) (by decide) rfl ⟨by decide, rfl⟩ rfl (Nat.le_of_ble_eq_true rfl) (Nat.le_of_ble_eq_true rfl) (t_X3_isAtVoiceEnd r m hr hm M _ h) (fun v11 M12 h => ?_)
        show Ex true mX3_readVoice 78 78 0 0 61 [.ref 40, .int l1, .int l2, .int l3] [.int v11] M12 Q
        refine ex_if_ne (tgt := 102) dX3_readVoice_61 (by decide) (fun c_61 => ?_) (fun c_61 => ?_)
        · replace h := h.1 c_61
          exact t_X3_readVoice_102 r m hr hm  Q   l1 l2 l3 M12 h
        · replace h := h.2 c_61
          refine ex_iload_n dX3_readVoice_64 rfl ?_
          refine ex_bipush (v := 40) dX3_readVoice_65 (by decide) ?_
          refine ex_icmp_ge (tgt := 94) dX3_readVoice_67 (by decide) (fun c_67 => ?_) (fun c_67 => ?_)
          · replace h := h.1 c_67
            refine ex_iconst (v := 0) dX3_readVoice_94 (by decide) ?_
            refine ex_istore_n (L2 := [.ref 40, .int l1, .int 0, .int l3]) dX3_readVoice_95 (by decide) rfl rfl ?_
            refine ex_iinc (v := l3 + 1) (L2 := [.ref 40, .int l1, .int 0, .int (l3 + 1)]) dX3_readVoice_96 rfl rfl (by decide) rfl rfl ?_
            obtain ⟨x13, ex13⟩ : ∃ x13 : Int32, x13 = l3 + 1 := ⟨_, rfl⟩
            rw [← ex13]
            replace h := h x13 ex13
            refine ex_goto (tgt := 47) dX3_readVoice_99 (by decide) ?_
            exact hB47 l1 0 x13 M12 h
          · replace h := h.2 c_67
            refine ex_aload_n dX3_readVoice_70 rfl ?_
            obtain ⟨g14, h⟩ := h
            refine ex_getD (ci := 3) (j := 3) (v := m) dX3_readVoice_71 (by decide) rfl rfl lk_X3_26 rfl g14 (mu_100 hm) ?_
            refine ex_getI (ci := 0) (j := 3) dX3_readVoice_74 (mu_l hm 0 (by decide)) (mu_S0 hm) rfl lk_X3_96 ?_
            refine ex_sipush (v := 600) dX3_readVoice_77 (by decide) ?_
            refine ex_icmp_ge (tgt := 94) dX3_readVoice_80 (by decide) (fun c_80 => ?_) (fun c_80 => ?_)
            · replace h := h.1 c_80
              refine ex_iconst (v := 0) dX3_readVoice_94 (by decide) ?_
              refine ex_istore_n (L2 := [.ref 40, .int l1, .int 0, .int l3]) dX3_readVoice_95 (by decide) rfl rfl ?_
              refine ex_iinc (v := l3 + 1) (L2 := [.ref 40, .int l1, .int 0, .int (l3 + 1)]) dX3_readVoice_96 rfl rfl (by decide) rfl rfl ?_
              obtain ⟨x15, ex15⟩ : ∃ x15 : Int32, x15 = l3 + 1 := ⟨_, rfl⟩
              rw [← ex15]
              replace h := h x15 ex15
              refine ex_goto (tgt := 47) dX3_readVoice_99 (by decide) ?_
              exact hB47 l1 0 x15 M12 h
            · replace h := h.2 c_80
              refine ex_aload_n dX3_readVoice_83 rfl ?_
              refine ex_invV (k := 40) (ci := 3) (as := []) (L2 := [.ref 40, .null]) (st := []) 0 0 dX3_readVoice_84 lk_X3_99 sl_X3_readItem (rmK_of rfl) (by decide) rfl ⟨by decide, rfl⟩ rfl (Nat.le_of_ble_eq_true rfl) (Nat.le_of_ble_eq_true rfl) (t_X3_readItem r m hr hm M12 _ h) (fun v16 M17 h => ?_)
              show Ex true mX3_readVoice 78 78 0 0 87 [.ref 40, .int l1, .int l2, .int l3] [.int v16] M17 Q
              have hJ20 : ∀ z18 : Int32, z18 = (if v16 = 0 then 0 else 1) → Ex true mX3_readVoice 78 78 0 0 95 [.ref 40, .int l1, .int l2, .int l3] [.int z18] M17 Q := by
                intro z18 ez18
                replace h := h z18 ez18
                refine ex_istore_n (L2 := [.ref 40, .int l1, .int z18, .int l3]) dX3_readVoice_95 (by decide) rfl rfl ?_
                refine ex_iinc (v := l3 + 1) (L2 := [.ref 40, .int l1, .int z18, .int (l3 + 1)]) dX3_readVoice_96 rfl rfl (by decide) rfl rfl ?_
                obtain ⟨x19, ex19⟩ : ∃ x19 : Int32, x19 = l3 + 1 := ⟨_, rfl⟩
                rw [← ex19]
                replace h := h x19 ex19
                refine ex_goto (tgt := 47) dX3_readVoice_99 (by decide) ?_
                exact hB47 l1 z18 x19 M17 h
              refine ex_if_eq (tgt := 94) dX3_readVoice_87 (by decide) (fun c_87 => ?_) (fun c_87 => ?_)
              ·
                refine ex_iconst (v := 0) dX3_readVoice_94 (by decide) ?_
                exact hJ20 _ (by rw [if_pos c_87])
              ·
                refine ex_iconst (v := 1) dX3_readVoice_90 (by decide) ?_
                refine ex_goto (tgt := 95) dX3_readVoice_91 (by decide) ?_
                exact hJ20 _ (by rw [if_neg c_87])
def w_X3_readVoice (r m : Nat) (M : Mem) (Q : Int32 → Mem → Prop) : Prop := (M 40 3 = nI m) ∧ (w_X0_lastSlot m M (fun v2 M3 => ((0 ≤ v2) → (∀ M4 : Mem, M4 = (mset M3 40 6 (-1)) → (M4 40 3 = nI m) ∧ (((600 ≤ (M4 m 3)) → (∃ k, w_X3_readVoice_47 r m Q  k v2 0 1 M4)) ∧ (¬ (600 ≤ (M4 m 3)) → (w_X3_readItem r m M4 (fun v21 M22 => ∀ z23 : Int32, z23 = (if v21 = 0 then 0 else 1) → ∃ k, w_X3_readVoice_47 r m Q  k v2 z23 1 M22)))))) ∧ (¬ (0 ≤ v2) → (Q 1 M3))))
theorem t_X3_readVoice (r m : Nat) (hr : RW r) (hm : MU m) (M : Mem) (Q : Int32 → Mem → Prop) (h : w_X3_readVoice r m  M Q) : Ex true mX3_readVoice 78 78 0 0 0 [.ref 40, .null, .null, .null] [] M Q := by
  unfold w_X3_readVoice at h
  refine ex_aload_n dX3_readVoice_0 rfl ?_
  obtain ⟨g1, h⟩ := h
  refine ex_getD (ci := 3) (j := 3) (v := m) dX3_readVoice_1 (by decide) rfl rfl lk_X3_26 rfl g1 (mu_100 hm) ?_
  refine ex_invV (k := m) (ci := 0) (as := []) (L2 := [.ref m, .null]) (st := []) 0 0 dX3_readVoice_4 lk_X3_79 sl_X0_lastSlot (rmK_of rfl) (mu_l hm 0 (by decide)) (mu_S0 hm) ⟨by decide, rfl⟩ rfl (Nat.le_of_ble_eq_true rfl) (Nat.le_of_ble_eq_true rfl) (t_X0_lastSlot m hm M _ h) (fun v2 M3 h => ?_)
  show Ex true mX3_readVoice 78 78 0 0 7 [.ref 40, .null, .null, .null] [.int v2] M3 Q
  refine ex_istore_n (L2 := [.ref 40, .int v2, .null, .null]) dX3_readVoice_7 (by decide) rfl rfl ?_
  refine ex_iload_n dX3_readVoice_8 rfl ?_
  refine ex_if_ge (tgt := 14) dX3_readVoice_9 (by decide) (fun c_9 => ?_) (fun c_9 => ?_)
  · replace h := h.1 c_9
    refine ex_aload_n dX3_readVoice_14 rfl ?_
    refine ex_iconst (v := (-1)) dX3_readVoice_15 (by decide) ?_
    refine ex_putI (ci := 3) (j := 6) dX3_readVoice_16 (by decide) rfl rfl lk_X3_93 ⟨rfl, rfl⟩ ?_
    refine ex_nmM (fun M4 eM4 => ?_)
    replace h := h M4 eM4
    refine ex_aload_n dX3_readVoice_19 rfl ?_
    obtain ⟨g5, h⟩ := h
    refine ex_getD (ci := 3) (j := 3) (v := m) dX3_readVoice_20 (by decide) rfl rfl lk_X3_26 rfl g5 (mu_100 hm) ?_
    refine ex_getI (ci := 0) (j := 3) dX3_readVoice_23 (mu_l hm 0 (by decide)) (mu_S0 hm) rfl lk_X3_96 ?_
    refine ex_sipush (v := 600) dX3_readVoice_26 (by decide) ?_
    refine ex_icmp_ge (tgt := 43) dX3_readVoice_29 (by decide) (fun c_29 => ?_) (fun c_29 => ?_)
    · replace h := h.1 c_29
      refine ex_iconst (v := 0) dX3_readVoice_43 (by decide) ?_
      refine ex_istore_n (L2 := [.ref 40, .int v2, .int 0, .null]) dX3_readVoice_44 (by decide) rfl rfl ?_
      refine ex_iconst (v := 1) dX3_readVoice_45 (by decide) ?_
      refine ex_istore_n (L2 := [.ref 40, .int v2, .int 0, .int 1]) dX3_readVoice_46 (by decide) rfl rfl ?_
      obtain ⟨k_, h⟩ := h
      exact t_X3_readVoice_47 r m hr hm  Q   k_ v2 0 1 M4 h
    · replace h := h.2 c_29
      refine ex_aload_n dX3_readVoice_32 rfl ?_
      refine ex_invV (k := 40) (ci := 3) (as := []) (L2 := [.ref 40, .null]) (st := []) 0 0 dX3_readVoice_33 lk_X3_99 sl_X3_readItem (rmK_of rfl) (by decide) rfl ⟨by decide, rfl⟩ rfl (Nat.le_of_ble_eq_true rfl) (Nat.le_of_ble_eq_true rfl) (t_X3_readItem r m hr hm M4 _ h) (fun v21 M22 h => ?_)
      show Ex true mX3_readVoice 78 78 0 0 36 [.ref 40, .int v2, .null, .null] [.int v21] M22 Q
      have hJ24 : ∀ z23 : Int32, z23 = (if v21 = 0 then 0 else 1) → Ex true mX3_readVoice 78 78 0 0 44 [.ref 40, .int v2, .null, .null] [.int z23] M22 Q := by
        intro z23 ez23
        replace h := h z23 ez23
        refine ex_istore_n (L2 := [.ref 40, .int v2, .int z23, .null]) dX3_readVoice_44 (by decide) rfl rfl ?_
        refine ex_iconst (v := 1) dX3_readVoice_45 (by decide) ?_
        refine ex_istore_n (L2 := [.ref 40, .int v2, .int z23, .int 1]) dX3_readVoice_46 (by decide) rfl rfl ?_
        obtain ⟨k_, h⟩ := h
        exact t_X3_readVoice_47 r m hr hm  Q   k_ v2 z23 1 M22 h
      refine ex_if_eq (tgt := 43) dX3_readVoice_36 (by decide) (fun c_36 => ?_) (fun c_36 => ?_)
      ·
        refine ex_iconst (v := 0) dX3_readVoice_43 (by decide) ?_
        exact hJ24 _ (by rw [if_pos c_36])
      ·
        refine ex_iconst (v := 1) dX3_readVoice_39 (by decide) ?_
        refine ex_goto (tgt := 44) dX3_readVoice_40 (by decide) ?_
        exact hJ24 _ (by rw [if_neg c_36])
  · replace h := h.2 c_9
    refine ex_iconst (v := 1) dX3_readVoice_12 (by decide) ?_
    exact ex_iret dX3_readVoice_13 rfl rfl rfl h
def w_X3_beginNext_15 (r m : Nat) (Q : Int32 → Mem → Prop) (l1 : Int32) (M : Mem) : Prop := ∀ M3 : Mem, M3 = (mset M 40 4 ((M 40 4) + 1)) → (¬ (l1 = 64) → (w_X3_beginBar r m M3 (fun v4 M5 => (v4 = 0 ∨ v4 = 1) ∧ (Q v4 M5)))) ∧ ((l1 = 64) → (w_X1_forget 41 M3 (fun v7 M8 => w_X3_beginBar r m M8 (fun v9 M10 => (v9 = 0 ∨ v9 = 1) ∧ (Q v9 M10)))))
theorem t_X3_beginNext_15 (r m : Nat) (hr : RW r) (hm : MU m) (Q : Int32 → Mem → Prop) (l1 : Int32) (M : Mem) (h : w_X3_beginNext_15 r m Q  l1 M) : Ex true mX3_beginNext 78 78 0 0 15 [.ref 40, .int l1] [] M Q := by
  unfold w_X3_beginNext_15 at h
  refine ex_aload_n dX3_beginNext_15 rfl ?_
  refine ex_dup dX3_beginNext_16 rfl ?_
  refine ex_getI (ci := 3) (j := 4) dX3_beginNext_17 (by decide) rfl rfl lk_X3_30 ?_
  refine ex_iconst (v := 1) dX3_beginNext_20 (by decide) ?_
  refine ex_iadd dX3_beginNext_21 ?_
  refine ex_putI (ci := 3) (j := 4) dX3_beginNext_22 (by decide) rfl rfl lk_X3_30 ⟨rfl, rfl⟩ ?_
  refine ex_nmM (fun M3 eM3 => ?_)
  replace h := h M3 eM3
  refine ex_iload_n dX3_beginNext_25 rfl ?_
  refine ex_bipush (v := 64) dX3_beginNext_26 (by decide) ?_
  refine ex_icmp_ne (tgt := 38) dX3_beginNext_28 (by decide) (fun c_28 => ?_) (fun c_28 => ?_)
  · replace h := h.1 c_28
    refine ex_aload_n dX3_beginNext_38 rfl ?_
    refine ex_invV (k := 40) (ci := 3) (as := []) (L2 := [.ref 40, .null]) (st := []) 0 0 dX3_beginNext_39 lk_X3_41 sl_X3_beginBar (rmK_of rfl) (by decide) rfl ⟨by decide, rfl⟩ rfl (Nat.le_of_ble_eq_true rfl) (Nat.le_of_ble_eq_true rfl) (t_X3_beginBar r m hr hm M3 _ h) (fun v4 M5 h => ?_)
    show Ex true mX3_beginNext 78 78 0 0 42 [.ref 40, .int l1] [.int v4] M5 Q
    obtain ⟨b6, h⟩ := h
    exact ex_iret dX3_beginNext_42 rfl (nr01 b6) rfl h
  · replace h := h.2 c_28
    refine ex_aload_n dX3_beginNext_31 rfl ?_
    refine ex_getR (ci := 3) (j := 1) (v := 41) dX3_beginNext_32 (by decide) rfl rfl lk_X3_12 rfl (by decide) ?_
    refine ex_invV (k := 41) (ci := 1) (as := []) (L2 := [.ref 41]) (st := []) 0 0 dX3_beginNext_35 lk_X3_76 sl_X1_forget (rmK_of rfl) (by decide) rfl ⟨by decide, rfl⟩ rfl (Nat.le_of_ble_eq_true rfl) (Nat.le_of_ble_eq_true rfl) (t_X1_forget 41 (Or.inl rfl) M3 _ h) (fun v7 M8 h => ?_)
    show Ex true mX3_beginNext 78 78 0 0 38 [.ref 40, .int l1] [] M8 Q
    refine ex_aload_n dX3_beginNext_38 rfl ?_
    refine ex_invV (k := 40) (ci := 3) (as := []) (L2 := [.ref 40, .null]) (st := []) 0 0 dX3_beginNext_39 lk_X3_41 sl_X3_beginBar (rmK_of rfl) (by decide) rfl ⟨by decide, rfl⟩ rfl (Nat.le_of_ble_eq_true rfl) (Nat.le_of_ble_eq_true rfl) (t_X3_beginBar r m hr hm M8 _ h) (fun v9 M10 h => ?_)
    show Ex true mX3_beginNext 78 78 0 0 42 [.ref 40, .int l1] [.int v9] M10 Q
    obtain ⟨b11, h⟩ := h
    exact ex_iret dX3_beginNext_42 rfl (nr01 b11) rfl h
def w_X3_beginNext (r m : Nat) (M : Mem) (Q : Int32 → Mem → Prop) : Prop := w_X3_peek r m M (fun v1 M2 => ((v1 = 0) → (w_X3_beginNext_15 r m Q  v1 M2)) ∧ (¬ (v1 = 0) → ((¬ (v1 = 64) → ((M2 40 3 = nI m) ∧ (w_X0_lastSlot m M2 (fun v13 M14 => ((v13 < 0) → (Q 0 M14)) ∧ (¬ (v13 < 0) → (w_X3_sees r m 35 28 M14 (fun v15 M16 => (¬ (v15 = 0) → (∀ M17 : Mem, M17 = (mset M16 40 4 ((M16 40 4) + 2)) → w_X1_forget 41 M17 (fun v18 M19 => (M19 40 3 = nI m) ∧ (w_X0_startVoice m M19 (fun v21 M22 => (v21 = 0 ∨ v21 = 1) ∧ (Q v21 M22)))))) ∧ ((v15 = 0) → (Q 0 M16))))))))) ∧ ((v1 = 64) → (w_X3_beginNext_15 r m Q  v1 M2)))))
theorem t_X3_beginNext (r m : Nat) (hr : RW r) (hm : MU m) (M : Mem) (Q : Int32 → Mem → Prop) (h : w_X3_beginNext r m  M Q) : Ex true mX3_beginNext 78 78 0 0 0 [.ref 40, .null] [] M Q := by
  unfold w_X3_beginNext at h
  refine ex_aload_n dX3_beginNext_0 rfl ?_
  refine ex_invV (k := 40) (ci := 3) (as := []) (L2 := [.ref 40]) (st := []) 0 0 dX3_beginNext_1 lk_X3_69 sl_X3_peek (rmK_of rfl) (by decide) rfl ⟨by decide, rfl⟩ rfl (Nat.le_of_ble_eq_true rfl) (Nat.le_of_ble_eq_true rfl) (t_X3_peek r m hr hm M _ h) (fun v1 M2 h => ?_)
  show Ex true mX3_beginNext 78 78 0 0 4 [.ref 40, .null] [.int v1] M2 Q
  refine ex_istore_n (L2 := [.ref 40, .int v1]) dX3_beginNext_4 (by decide) rfl rfl ?_
  refine ex_iload_n dX3_beginNext_5 rfl ?_
  refine ex_if_eq (tgt := 15) dX3_beginNext_6 (by decide) (fun c_6 => ?_) (fun c_6 => ?_)
  · replace h := h.1 c_6
    exact t_X3_beginNext_15 r m hr hm  Q   v1 M2 h
  · replace h := h.2 c_6
    refine ex_iload_n dX3_beginNext_9 rfl ?_
    refine ex_bipush (v := 64) dX3_beginNext_10 (by decide) ?_
    refine ex_icmp_ne (tgt := 43) dX3_beginNext_12 (by decide) (fun c_12 => ?_) (fun c_12 => ?_)
    · replace h := h.1 c_12
      refine ex_aload_n dX3_beginNext_43 rfl ?_
      obtain ⟨g12, h⟩ := h
      refine ex_getD (ci := 3) (j := 3) (v := m) dX3_beginNext_44 (by decide) rfl rfl lk_X3_26 rfl g12 (mu_100 hm) ?_
      refine ex_invV (k := m) (ci := 0) (as := []) (L2 := [.ref m, .null]) (st := []) 0 0 dX3_beginNext_47 lk_X3_79 sl_X0_lastSlot (rmK_of rfl) (mu_l hm 0 (by decide)) (mu_S0 hm) ⟨by decide, rfl⟩ rfl (Nat.le_of_ble_eq_true rfl) (Nat.le_of_ble_eq_true rfl) (t_X0_lastSlot m hm M2 _ h) (fun v13 M14 h => ?_)
      show Ex true mX3_beginNext 78 78 0 0 50 [.ref 40, .int v1] [.int v13] M14 Q
      refine ex_if_lt (tgt := 64) dX3_beginNext_50 (by decide) (fun c_50 => ?_) (fun c_50 => ?_)
      · replace h := h.1 c_50
        refine ex_iconst (v := 0) dX3_beginNext_64 (by decide) ?_
        exact ex_iret dX3_beginNext_65 rfl rfl rfl h
      · replace h := h.2 c_50
        refine ex_aload_n dX3_beginNext_53 rfl ?_
        refine ex_bipush (v := 35) dX3_beginNext_54 (by decide) ?_
        refine ex_bipush (v := 28) dX3_beginNext_56 (by decide) ?_
        refine ex_invV (k := 40) (ci := 3) (as := [.int 35, .int 28]) (L2 := [.ref 40, .int 35, .int 28]) (st := []) 0 0 dX3_beginNext_58 lk_X3_65 sl_X3_sees (rmK_of rfl) (by decide) rfl ⟨by decide, rfl⟩ rfl (Nat.le_of_ble_eq_true rfl) (Nat.le_of_ble_eq_true rfl) (t_X3_sees r m hr hm 35 28 M14 _ h) (fun v15 M16 h => ?_)
        show Ex true mX3_beginNext 78 78 0 0 61 [.ref 40, .int v1] [.int v15] M16 Q
        refine ex_if_ne (tgt := 66) dX3_beginNext_61 (by decide) (fun c_61 => ?_) (fun c_61 => ?_)
        · replace h := h.1 c_61
          refine ex_aload_n dX3_beginNext_66 rfl ?_
          refine ex_dup dX3_beginNext_67 rfl ?_
          refine ex_getI (ci := 3) (j := 4) dX3_beginNext_68 (by decide) rfl rfl lk_X3_30 ?_
          refine ex_iconst (v := 2) dX3_beginNext_71 (by decide) ?_
          refine ex_iadd dX3_beginNext_72 ?_
          refine ex_putI (ci := 3) (j := 4) dX3_beginNext_73 (by decide) rfl rfl lk_X3_30 ⟨rfl, rfl⟩ ?_
          refine ex_nmM (fun M17 eM17 => ?_)
          replace h := h M17 eM17
          refine ex_aload_n dX3_beginNext_76 rfl ?_
          refine ex_getR (ci := 3) (j := 1) (v := 41) dX3_beginNext_77 (by decide) rfl rfl lk_X3_12 rfl (by decide) ?_
          refine ex_invV (k := 41) (ci := 1) (as := []) (L2 := [.ref 41]) (st := []) 0 0 dX3_beginNext_80 lk_X3_76 sl_X1_forget (rmK_of rfl) (by decide) rfl ⟨by decide, rfl⟩ rfl (Nat.le_of_ble_eq_true rfl) (Nat.le_of_ble_eq_true rfl) (t_X1_forget 41 (Or.inl rfl) M17 _ h) (fun v18 M19 h => ?_)
          show Ex true mX3_beginNext 78 78 0 0 83 [.ref 40, .int v1] [] M19 Q
          refine ex_aload_n dX3_beginNext_83 rfl ?_
          obtain ⟨g20, h⟩ := h
          refine ex_getD (ci := 3) (j := 3) (v := m) dX3_beginNext_84 (by decide) rfl rfl lk_X3_26 rfl g20 (mu_100 hm) ?_
          refine ex_invV (k := m) (ci := 0) (as := []) (L2 := [.ref m, .null, .null]) (st := []) 0 0 dX3_beginNext_87 lk_X3_82 sl_X0_startVoice (rmK_of rfl) (mu_l hm 0 (by decide)) (mu_S0 hm) ⟨by decide, rfl⟩ rfl (Nat.le_of_ble_eq_true rfl) (Nat.le_of_ble_eq_true rfl) (t_X0_startVoice m hm M19 _ h) (fun v21 M22 h => ?_)
          show Ex true mX3_beginNext 78 78 0 0 90 [.ref 40, .int v1] [.int v21] M22 Q
          obtain ⟨b23, h⟩ := h
          exact ex_iret dX3_beginNext_90 rfl (nr01 b23) rfl h
        · replace h := h.2 c_61
          refine ex_iconst (v := 0) dX3_beginNext_64 (by decide) ?_
          exact ex_iret dX3_beginNext_65 rfl rfl rfl h
    · replace h := h.2 c_12
      exact t_X3_beginNext_15 r m hr hm  Q   v1 M2 h
def w_X3_run_99 (r m : Nat) (Q : Int32 → Mem → Prop) (l3 : Int32) (l4 : Int32) (M : Mem) : Prop := (((l3 = 0) → (True)) ∧ (¬ (l3 = 0) → ((¬ ((M 40 5) = 0) → (True)) ∧ (((M 40 5) = 0) → ((M 40 3 = nI m) ∧ (True)))))) ∧ (∀ z10 : Int32, z10 = (if l3 = 0 then ((-10) - (M 40 4)) else (if (M 40 5) = 0 then (M m 2) else ((-10) - (M 40 4)))) → Q z10 M)
theorem t_X3_run_99 (r m : Nat) (hr : RW r) (hm : MU m) (Q : Int32 → Mem → Prop) (l3 : Int32) (l4 : Int32) (M : Mem) (h : w_X3_run_99 r m Q  l3 l4 M) : Ex true mX3_run 78 78 0 0 99 [.ref 40, .ref r, .ref m, .int l3, .int l4] [] M Q := by
  unfold w_X3_run_99 at h
  refine ex_iload_n dX3_run_99 rfl ?_
  obtain ⟨khJ11, h⟩ := h
  have hJ11 : ∀ z10 : Int32, z10 = (if l3 = 0 then ((-10) - (M 40 4)) else (if (M 40 5) = 0 then (M m 2) else ((-10) - (M 40 4)))) → Ex true mX3_run 78 78 0 0 127 [.ref 40, .ref r, .ref m, .int l3, .int l4] [.int z10] M Q := by
    intro z10 ez10
    replace h := h z10 ez10
    exact ex_iret dX3_run_127 rfl rfl rfl h
  refine ex_if_eq (tgt := 120) dX3_run_100 (by decide) (fun c_100 => ?_) (fun c_100 => ?_)
  · replace h := khJ11.1 c_100
    refine ex_bipush (v := (-10)) dX3_run_120 (by decide) ?_
    refine ex_aload_n dX3_run_122 rfl ?_
    refine ex_getI (ci := 3) (j := 4) dX3_run_123 (by decide) rfl rfl lk_X3_30 ?_
    refine ex_isub dX3_run_126 ?_
    exact hJ11 _ (by rw [if_pos c_100])
  · replace h := khJ11.2 c_100
    refine ex_aload_n dX3_run_103 rfl ?_
    refine ex_getI (ci := 3) (j := 5) dX3_run_104 (by decide) rfl rfl lk_X3_34 ?_
    refine ex_if_ne (tgt := 120) dX3_run_107 (by decide) (fun c_107 => ?_) (fun c_107 => ?_)
    · replace h := h.1 c_107
      refine ex_bipush (v := (-10)) dX3_run_120 (by decide) ?_
      refine ex_aload_n dX3_run_122 rfl ?_
      refine ex_getI (ci := 3) (j := 4) dX3_run_123 (by decide) rfl rfl lk_X3_30 ?_
      refine ex_isub dX3_run_126 ?_
      exact hJ11 _ (by rw [if_neg c_100, if_neg c_107])
    · replace h := h.2 c_107
      refine ex_aload_n dX3_run_110 rfl ?_
      obtain ⟨g9, h⟩ := h
      refine ex_getD (ci := 3) (j := 3) (v := m) dX3_run_111 (by decide) rfl rfl lk_X3_26 rfl g9 (mu_100 hm) ?_
      refine ex_getI (ci := 0) (j := 2) dX3_run_114 (mu_l hm 0 (by decide)) (mu_S0 hm) rfl lk_X3_56 ?_
      refine ex_goto (tgt := 127) dX3_run_117 (by decide) ?_
      exact hJ11 _ (by rw [if_neg c_100, if_pos c_107])
def wb_X3_run_47 (r m : Nat) (Q : Int32 → Mem → Prop) (B47 : Int32 → Int32 → Mem → Prop) (l3 : Int32) (l4 : Int32) (M : Mem) : Prop := ((4000 ≤ l4) → (w_X3_run_99 r m Q  l3 l4 M)) ∧ (¬ (4000 ≤ l4) → (((l3 = 0) → (w_X3_run_99 r m Q  l3 l4 M)) ∧ (¬ (l3 = 0) → ((M 40 2 = nI r) ∧ ((((M r 1) ≤ (M 40 4)) → (w_X3_run_99 r m Q  l3 l4 M)) ∧ (¬ ((M r 1) ≤ (M 40 4)) → (w_X3_beginNext r m M (fun v13 M14 => ((v13 = 0) → (∀ x15 : Int32, x15 = l4 + 1 → B47 0 x15 M14)) ∧ (¬ (v13 = 0) → (w_X3_readVoice r m M14 (fun v16 M17 => ∀ z18 : Int32, z18 = (if v16 = 0 then 0 else 1) → ∀ x19 : Int32, x19 = l4 + 1 → B47 z18 x19 M17)))))))))))
def w_X3_run_47 (r m : Nat) (Q : Int32 → Mem → Prop) : Nat → Int32 → Int32 → Mem → Prop
  | 0 => fun _ _ _ => False
  | k + 1 => wb_X3_run_47 r m Q  (w_X3_run_47 r m Q  k)
theorem t_X3_run_47 (r m : Nat) (hr : RW r) (hm : MU m) (Q : Int32 → Mem → Prop) : ∀ (k : Nat) (l3 : Int32) (l4 : Int32) (M : Mem), w_X3_run_47 r m Q  k l3 l4 M → Ex true mX3_run 78 78 0 0 47 [.ref 40, .ref r, .ref m, .int l3, .int l4] [] M Q := by
  intro k
  induction k with
  | zero => intro l3 l4 M h; exact False.elim h
  | succ k hB47 =>
    intro l3 l4 M h
    replace h : wb_X3_run_47 r m Q  (w_X3_run_47 r m Q  k) l3 l4 M := h
    generalize w_X3_run_47 r m Q  k = B47 at hB47 h
    unfold wb_X3_run_47 at h
    refine ex_iload dX3_run_47 rfl ?_
    refine ex_sipush (v := 4000) dX3_run_49 (by decide) ?_
    refine ex_icmp_ge (tgt := 99) dX3_run_52 (by decide) (fun c_52 => ?_) (fun c_52 => ?_)
    · replace h := h.1 c_52
      exact t_X3_run_99 r m hr hm  Q   l3 l4 M h
    · replace h := h.2 c_52
      refine ex_iload_n dX3_run_55 rfl ?_
      refine ex_if_eq (tgt := 99) dX3_run_56 (by decide) (fun c_56 => ?_) (fun c_56 => ?_)
      · replace h := h.1 c_56
        exact t_X3_run_99 r m hr hm  Q   l3 l4 M h
      · replace h := h.2 c_56
        refine ex_aload_n dX3_run_59 rfl ?_
        refine ex_getI (ci := 3) (j := 4) dX3_run_60 (by decide) rfl rfl lk_X3_30 ?_
        refine ex_aload_n dX3_run_63 rfl ?_
        obtain ⟨g12, h⟩ := h
        refine ex_getD (ci := 3) (j := 2) (v := r) dX3_run_64 (by decide) rfl rfl lk_X3_22 rfl g12 (rw_100 hr) ?_
        refine ex_getI (ci := 2) (j := 1) dX3_run_67 (rw_l hr 0 (by decide)) (rw_S0 hr) rfl lk_X3_48 ?_
        refine ex_icmp_ge (tgt := 99) dX3_run_70 (by decide) (fun c_70 => ?_) (fun c_70 => ?_)
        · replace h := h.1 c_70
          exact t_X3_run_99 r m hr hm  Q   l3 l4 M h
        · replace h := h.2 c_70
          refine ex_aload_n dX3_run_73 rfl ?_
          refine ex_invV (k := 40) (ci := 3) (as := []) (L2 := [.ref 40, .null]) (st := []) 0 0 dX3_run_74 lk_X3_53 sl_X3_beginNext (rmK_of rfl) (by decide) rfl ⟨by decide, rfl⟩ rfl (Nat.le_of_ble_eq_true rfl) (Nat.le_of_ble_eq_true rfl) (t_X3_beginNext r m hr hm M _ h) (fun v13 M14 h => ?_)
          show Ex true mX3_run 78 78 0 0 77 [.ref 40, .ref r, .ref m, .int l3, .int l4] [.int v13] M14 Q
          refine ex_if_eq (tgt := 91) dX3_run_77 (by decide) (fun c_77 => ?_) (fun c_77 => ?_)
          · replace h := h.1 c_77
            refine ex_iconst (v := 0) dX3_run_91 (by decide) ?_
            refine ex_istore_n (L2 := [.ref 40, .ref r, .ref m, .int 0, .int l4]) dX3_run_92 (by decide) rfl rfl ?_
            refine ex_iinc (v := l4 + 1) (L2 := [.ref 40, .ref r, .ref m, .int 0, .int (l4 + 1)]) dX3_run_93 rfl rfl (by decide) rfl rfl ?_
            obtain ⟨x15, ex15⟩ : ∃ x15 : Int32, x15 = l4 + 1 := ⟨_, rfl⟩
            rw [← ex15]
            replace h := h x15 ex15
            refine ex_goto (tgt := 47) dX3_run_96 (by decide) ?_
            exact hB47 0 x15 M14 h
          · replace h := h.2 c_77
            refine ex_aload_n dX3_run_80 rfl ?_
            refine ex_invV (k := 40) (ci := 3) (as := []) (L2 := [.ref 40, .null, .null, .null]) (st := []) 0 0 dX3_run_81 lk_X3_45 sl_X3_readVoice (rmK_of rfl) (by decide) rfl ⟨by decide, rfl⟩ rfl (Nat.le_of_ble_eq_true rfl) (Nat.le_of_ble_eq_true rfl) (t_X3_readVoice r m hr hm M14 _ h) (fun v16 M17 h => ?_)
            show Ex true mX3_run 78 78 0 0 84 [.ref 40, .ref r, .ref m, .int l3, .int l4] [.int v16] M17 Q
            have hJ20 : ∀ z18 : Int32, z18 = (if v16 = 0 then 0 else 1) → Ex true mX3_run 78 78 0 0 92 [.ref 40, .ref r, .ref m, .int l3, .int l4] [.int z18] M17 Q := by
              intro z18 ez18
              replace h := h z18 ez18
              refine ex_istore_n (L2 := [.ref 40, .ref r, .ref m, .int z18, .int l4]) dX3_run_92 (by decide) rfl rfl ?_
              refine ex_iinc (v := l4 + 1) (L2 := [.ref 40, .ref r, .ref m, .int z18, .int (l4 + 1)]) dX3_run_93 rfl rfl (by decide) rfl rfl ?_
              obtain ⟨x19, ex19⟩ : ∃ x19 : Int32, x19 = l4 + 1 := ⟨_, rfl⟩
              rw [← ex19]
              replace h := h x19 ex19
              refine ex_goto (tgt := 47) dX3_run_96 (by decide) ?_
              exact hB47 z18 x19 M17 h
            refine ex_if_eq (tgt := 91) dX3_run_84 (by decide) (fun c_84 => ?_) (fun c_84 => ?_)
            ·
              refine ex_iconst (v := 0) dX3_run_91 (by decide) ?_
              exact hJ20 _ (by rw [if_pos c_84])
            ·
              refine ex_iconst (v := 1) dX3_run_87 (by decide) ?_
              refine ex_goto (tgt := 92) dX3_run_88 (by decide) ?_
              exact hJ20 _ (by rw [if_neg c_84])
def w_X3_run (r m : Nat) (M : Mem) (Q : Int32 → Mem → Prop) : Prop := ∀ M1 : Mem, M1 = (mset M 40 2 (nI r)) → ∀ M2 : Mem, M2 = (mset M1 40 3 (nI m)) → ∀ M3 : Mem, M3 = (mset M2 40 4 0) → ∀ M4 : Mem, M4 = (mset M3 40 5 0) → w_X3_readHand r m M4 (fun v5 M6 => w_X3_beginBar r m M6 (fun v7 M8 => ((v7 = 0) → (∃ k, w_X3_run_47 r m Q  k 0 0 M8)) ∧ (¬ (v7 = 0) → (w_X3_readVoice r m M8 (fun v21 M22 => ∀ z23 : Int32, z23 = (if v21 = 0 then 0 else 1) → ∃ k, w_X3_run_47 r m Q  k z23 0 M22)))))
theorem t_X3_run (r m : Nat) (hr : RW r) (hm : MU m) (M : Mem) (Q : Int32 → Mem → Prop) (h : w_X3_run r m  M Q) : Ex true mX3_run 78 78 0 0 0 [.ref 40, .ref r, .ref m, .null, .null] [] M Q := by
  unfold w_X3_run at h
  refine ex_aload_n dX3_run_0 rfl ?_
  refine ex_aload_n dX3_run_1 rfl ?_
  refine ex_putD (ci := 3) (j := 2) (v := r) dX3_run_2 (by decide) rfl rfl lk_X3_22 (Or.inl rfl) rfl (rw_78 hr) (rw_100 hr) (fun _ => ⟨rfl, rfl⟩) ?_
  refine ex_nmM (fun M1 eM1 => ?_)
  replace h := h M1 eM1
  refine ex_aload_n dX3_run_5 rfl ?_
  refine ex_aload_n dX3_run_6 rfl ?_
  refine ex_putD (ci := 3) (j := 3) (v := m) dX3_run_7 (by decide) rfl rfl lk_X3_26 (Or.inl rfl) rfl (mu_78 hm) (mu_100 hm) (fun _ => ⟨rfl, rfl⟩) ?_
  refine ex_nmM (fun M2 eM2 => ?_)
  replace h := h M2 eM2
  refine ex_aload_n dX3_run_10 rfl ?_
  refine ex_iconst (v := 0) dX3_run_11 (by decide) ?_
  refine ex_putI (ci := 3) (j := 4) dX3_run_12 (by decide) rfl rfl lk_X3_30 ⟨rfl, rfl⟩ ?_
  refine ex_nmM (fun M3 eM3 => ?_)
  replace h := h M3 eM3
  refine ex_aload_n dX3_run_15 rfl ?_
  refine ex_iconst (v := 0) dX3_run_16 (by decide) ?_
  refine ex_putI (ci := 3) (j := 5) dX3_run_17 (by decide) rfl rfl lk_X3_34 ⟨rfl, rfl⟩ ?_
  refine ex_nmM (fun M4 eM4 => ?_)
  replace h := h M4 eM4
  refine ex_aload_n dX3_run_20 rfl ?_
  refine ex_invV (k := 40) (ci := 3) (as := []) (L2 := [.ref 40]) (st := []) 0 0 dX3_run_21 lk_X3_38 sl_X3_readHand (rmK_of rfl) (by decide) rfl ⟨by decide, rfl⟩ rfl (Nat.le_of_ble_eq_true rfl) (Nat.le_of_ble_eq_true rfl) (t_X3_readHand r m hr hm M4 _ h) (fun v5 M6 h => ?_)
  show Ex true mX3_run 78 78 0 0 24 [.ref 40, .ref r, .ref m, .null, .null] [] M6 Q
  refine ex_aload_n dX3_run_24 rfl ?_
  refine ex_invV (k := 40) (ci := 3) (as := []) (L2 := [.ref 40, .null]) (st := []) 0 0 dX3_run_25 lk_X3_41 sl_X3_beginBar (rmK_of rfl) (by decide) rfl ⟨by decide, rfl⟩ rfl (Nat.le_of_ble_eq_true rfl) (Nat.le_of_ble_eq_true rfl) (t_X3_beginBar r m hr hm M6 _ h) (fun v7 M8 h => ?_)
  show Ex true mX3_run 78 78 0 0 28 [.ref 40, .ref r, .ref m, .null, .null] [.int v7] M8 Q
  refine ex_if_eq (tgt := 42) dX3_run_28 (by decide) (fun c_28 => ?_) (fun c_28 => ?_)
  · replace h := h.1 c_28
    refine ex_iconst (v := 0) dX3_run_42 (by decide) ?_
    refine ex_istore_n (L2 := [.ref 40, .ref r, .ref m, .int 0, .null]) dX3_run_43 (by decide) rfl rfl ?_
    refine ex_iconst (v := 0) dX3_run_44 (by decide) ?_
    refine ex_istore (L2 := [.ref 40, .ref r, .ref m, .int 0, .int 0]) dX3_run_45 (by decide) rfl rfl ?_
    obtain ⟨k_, h⟩ := h
    exact t_X3_run_47 r m hr hm  Q   k_ 0 0 M8 h
  · replace h := h.2 c_28
    refine ex_aload_n dX3_run_31 rfl ?_
    refine ex_invV (k := 40) (ci := 3) (as := []) (L2 := [.ref 40, .null, .null, .null]) (st := []) 0 0 dX3_run_32 lk_X3_45 sl_X3_readVoice (rmK_of rfl) (by decide) rfl ⟨by decide, rfl⟩ rfl (Nat.le_of_ble_eq_true rfl) (Nat.le_of_ble_eq_true rfl) (t_X3_readVoice r m hr hm M8 _ h) (fun v21 M22 h => ?_)
    show Ex true mX3_run 78 78 0 0 35 [.ref 40, .ref r, .ref m, .null, .null] [.int v21] M22 Q
    have hJ24 : ∀ z23 : Int32, z23 = (if v21 = 0 then 0 else 1) → Ex true mX3_run 78 78 0 0 43 [.ref 40, .ref r, .ref m, .null, .null] [.int z23] M22 Q := by
      intro z23 ez23
      replace h := h z23 ez23
      refine ex_istore_n (L2 := [.ref 40, .ref r, .ref m, .int z23, .null]) dX3_run_43 (by decide) rfl rfl ?_
      refine ex_iconst (v := 0) dX3_run_44 (by decide) ?_
      refine ex_istore (L2 := [.ref 40, .ref r, .ref m, .int z23, .int 0]) dX3_run_45 (by decide) rfl rfl ?_
      obtain ⟨k_, h⟩ := h
      exact t_X3_run_47 r m hr hm  Q   k_ z23 0 M22 h
    refine ex_if_eq (tgt := 42) dX3_run_35 (by decide) (fun c_35 => ?_) (fun c_35 => ?_)
    ·
      refine ex_iconst (v := 0) dX3_run_42 (by decide) ?_
      exact hJ24 _ (by rw [if_pos c_35])
    ·
      refine ex_iconst (v := 1) dX3_run_38 (by decide) ?_
      refine ex_goto (tgt := 43) dX3_run_39 (by decide) ?_
      exact hJ24 _ (by rw [if_neg c_35])
