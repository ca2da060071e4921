def w_X0_empty (m : Nat) (p1 : Int32) (M : Mem) (Q : Int32 → Mem → Prop) : Prop := ∀ M1 : Mem, M1 = (mset M m 0 p1) → ∀ M2 : Mem, M2 = (mset M1 m 1 0) → ∀ M3 : Mem, M3 = (mset M2 m 2 0) → ∀ M4 : Mem, M4 = (mset M3 m 3 0) → Q 0 M4
theorem t_X0_empty (m : Nat) (hm : MU m) (p1 : Int32) (M : Mem) (Q : Int32 → Mem → Prop) (h : w_X0_empty m p1 M Q) : Ex true mX0_empty 78 78 0 0 0 [.ref m, .int p1] [] M Q := by
  unfold w_X0_empty at h
  refine ex_aload_n dX0_empty_0 rfl ?_
  refine ex_iload_n dX0_empty_1 rfl ?_
  refine ex_putI (ci := 0) (j := 0) dX0_empty_2 (mu_l hm 0 (by decide)) (mu_S0 hm) rfl lk_X0_9 ⟨rfl, rfl⟩ ?_
  refine ex_nmM (fun M1 eM1 => ?_)
  replace h := h M1 eM1
  refine ex_aload_n dX0_empty_5 rfl ?_
  refine ex_iconst (v := 0) dX0_empty_6 (by decide) ?_
  refine ex_putI (ci := 0) (j := 1) dX0_empty_7 (mu_l hm 0 (by decide)) (mu_S0 hm) rfl lk_X0_58 ⟨rfl, rfl⟩ ?_
  refine ex_nmM (fun M2 eM2 => ?_)
  replace h := h M2 eM2
  refine ex_aload_n dX0_empty_10 rfl ?_
  refine ex_iconst (v := 0) dX0_empty_11 (by decide) ?_
  refine ex_putI (ci := 0) (j := 2) dX0_empty_12 (mu_l hm 0 (by decide)) (mu_S0 hm) rfl lk_X0_61 ⟨rfl, rfl⟩ ?_
  refine ex_nmM (fun M3 eM3 => ?_)
  replace h := h M3 eM3
  refine ex_aload_n dX0_empty_15 rfl ?_
  refine ex_iconst (v := 0) dX0_empty_16 (by decide) ?_
  refine ex_putI (ci := 0) (j := 3) dX0_empty_17 (mu_l hm 0 (by decide)) (mu_S0 hm) rfl lk_X0_64 ⟨rfl, rfl⟩ ?_
  refine ex_nmM (fun M4 eM4 => ?_)
  replace h := h M4 eM4
  exact ex_vret dX0_empty_20 rfl rfl h
def w_X0_startVoice (m : Nat) (M : Mem) (Q : Int32 → Mem → Prop) : Prop := ∀ x1 : Int32, x1 = ((M m 2) - 1) → ((x1 < 0) → (Q 0 M)) ∧ (¬ (x1 < 0) → ((vp_in x1 60) ∧ ((((M (m + 1) (Int32.toNatClampNeg x1)) < 3) → ((vp_in x1 60) ∧ (∀ x4 : Int32, x4 = ((x1 * 3) + (M (m + 1) (Int32.toNatClampNeg x1))) → (vp_in x4 180) ∧ (∀ M6 : Mem, M6 = (mset M (m + 2) (Int32.toNatClampNeg x4) (M m 3)) → (vp_in x4 180) ∧ (∀ M8 : Mem, M8 = (mset M6 (m + 3) (Int32.toNatClampNeg x4) 0) → (vp_in x1 60) ∧ ((vp_in x1 60) ∧ (∀ M11 : Mem, M11 = (mset M8 (m + 1) (Int32.toNatClampNeg x1) ((M8 (m + 1) (Int32.toNatClampNeg x1)) + 1)) → Q 1 M11))))))) ∧ (¬ ((M (m + 1) (Int32.toNatClampNeg x1)) < 3) → (Q 0 M)))))
theorem t_X0_startVoice (m : Nat) (hm : MU m) (M : Mem) (Q : Int32 → Mem → Prop) (h : w_X0_startVoice m  M Q) : Ex true mX0_startVoice 78 78 0 0 0 [.ref m, .null, .null] [] M Q := by
  unfold w_X0_startVoice at h
  refine ex_aload_n dX0_startVoice_0 rfl ?_
  refine ex_getI (ci := 0) (j := 2) dX0_startVoice_1 (mu_l hm 0 (by decide)) (mu_S0 hm) rfl lk_X0_61 ?_
  refine ex_iconst (v := 1) dX0_startVoice_4 (by decide) ?_
  refine ex_isub dX0_startVoice_5 ?_
  refine ex_top (fun x1 ex1 => ?_)
  replace h := h x1 ex1
  refine ex_istore_n (L2 := [.ref m, .int x1, .null]) dX0_startVoice_6 (by decide) rfl rfl ?_
  refine ex_iload_n dX0_startVoice_7 rfl ?_
  refine ex_if_lt (tgt := 21) dX0_startVoice_8 (by decide) (fun c_8 => ?_) (fun c_8 => ?_)
  · replace h := h.1 c_8
    refine ex_iconst (v := 0) dX0_startVoice_21 (by decide) ?_
    exact ex_iret dX0_startVoice_22 rfl rfl rfl h
  · replace h := h.2 c_8
    refine ex_aload_n dX0_startVoice_11 rfl ?_
    refine ex_getR (ci := 0) (j := 4) (v := m + 1) dX0_startVoice_12 (mu_l hm 0 (by decide)) (mu_S0 hm) rfl lk_X0_15 (mu_F4 hm) (by omega) ?_
    refine ex_iload_n dX0_startVoice_15 rfl ?_
    obtain ⟨b2, h⟩ := h
    refine ex_iald dX0_startVoice_16 (mu_l hm 1 (by decide)) (mu_S1 hm) b2 ?_
    refine ex_iconst (v := 3) dX0_startVoice_17 (by decide) ?_
    refine ex_icmp_lt (tgt := 23) dX0_startVoice_18 (by decide) (fun c_18 => ?_) (fun c_18 => ?_)
    · replace h := h.1 c_18
      refine ex_iload_n dX0_startVoice_23 rfl ?_
      refine ex_iconst (v := 3) dX0_startVoice_24 (by decide) ?_
      refine ex_imul dX0_startVoice_25 ?_
      refine ex_aload_n dX0_startVoice_26 rfl ?_
      refine ex_getR (ci := 0) (j := 4) (v := m + 1) dX0_startVoice_27 (mu_l hm 0 (by decide)) (mu_S0 hm) rfl lk_X0_15 (mu_F4 hm) (by omega) ?_
      refine ex_iload_n dX0_startVoice_30 rfl ?_
      obtain ⟨b3, h⟩ := h
      refine ex_iald dX0_startVoice_31 (mu_l hm 1 (by decide)) (mu_S1 hm) b3 ?_
      refine ex_iadd dX0_startVoice_32 ?_
      refine ex_top (fun x4 ex4 => ?_)
      replace h := h x4 ex4
      refine ex_istore_n (L2 := [.ref m, .int x1, .int x4]) dX0_startVoice_33 (by decide) rfl rfl ?_
      refine ex_aload_n dX0_startVoice_34 rfl ?_
      refine ex_getR (ci := 0) (j := 5) (v := m + 2) dX0_startVoice_35 (mu_l hm 0 (by decide)) (mu_S0 hm) rfl lk_X0_19 (mu_F5 hm) (by omega) ?_
      refine ex_iload_n dX0_startVoice_38 rfl ?_
      refine ex_aload_n dX0_startVoice_39 rfl ?_
      refine ex_getI (ci := 0) (j := 3) dX0_startVoice_40 (mu_l hm 0 (by decide)) (mu_S0 hm) rfl lk_X0_64 ?_
      obtain ⟨b5, h⟩ := h
      refine ex_iast dX0_startVoice_43 (mu_l hm 2 (by decide)) (mu_S2 hm) b5 ?_
      refine ex_nmM (fun M6 eM6 => ?_)
      replace h := h M6 eM6
      refine ex_aload_n dX0_startVoice_44 rfl ?_
      refine ex_getR (ci := 0) (j := 6) (v := m + 3) dX0_startVoice_45 (mu_l hm 0 (by decide)) (mu_S0 hm) rfl lk_X0_22 (mu_F6 hm) (by omega) ?_
      refine ex_iload_n dX0_startVoice_48 rfl ?_
      refine ex_iconst (v := 0) dX0_startVoice_49 (by decide) ?_
      obtain ⟨b7, h⟩ := h
      refine ex_iast dX0_startVoice_50 (mu_l hm 3 (by decide)) (mu_S3 hm) b7 ?_
      refine ex_nmM (fun M8 eM8 => ?_)
      replace h := h M8 eM8
      refine ex_aload_n dX0_startVoice_51 rfl ?_
      refine ex_getR (ci := 0) (j := 4) (v := m + 1) dX0_startVoice_52 (mu_l hm 0 (by decide)) (mu_S0 hm) rfl lk_X0_15 (mu_F4 hm) (by omega) ?_
      refine ex_iload_n dX0_startVoice_55 rfl ?_
      refine ex_dup2 dX0_startVoice_56 rfl rfl ?_
      obtain ⟨b9, h⟩ := h
      refine ex_iald dX0_startVoice_57 (mu_l hm 1 (by decide)) (mu_S1 hm) b9 ?_
      refine ex_iconst (v := 1) dX0_startVoice_58 (by decide) ?_
      refine ex_iadd dX0_startVoice_59 ?_
      obtain ⟨b10, h⟩ := h
      refine ex_iast dX0_startVoice_60 (mu_l hm 1 (by decide)) (mu_S1 hm) b10 ?_
      refine ex_nmM (fun M11 eM11 => ?_)
      replace h := h M11 eM11
      refine ex_iconst (v := 1) dX0_startVoice_61 (by decide) ?_
      exact ex_iret dX0_startVoice_62 rfl rfl rfl h
    · replace h := h.2 c_18
      refine ex_iconst (v := 0) dX0_startVoice_21 (by decide) ?_
      exact ex_iret dX0_startVoice_22 rfl rfl rfl h
def w_X0_startBar (m : Nat) (p1 : Int32) (M : Mem) (Q : Int32 → Mem → Prop) : Prop := (((M m 2) < 60) → ((vp_in (M m 2) 60) ∧ (∀ M2 : Mem, M2 = (mset M (m + 1) (Int32.toNatClampNeg (M m 2)) 0) → ∀ M3 : Mem, M3 = (mset M2 m 2 ((M2 m 2) + 1)) → (¬ (p1 = 0) → (Q 1 M3)) ∧ ((p1 = 0) → (w_X0_startVoice m M3 (fun v4 M5 => ∀ z6 : Int32, z6 = (if v4 = 0 then 0 else 1) → (z6 = 0 ∨ z6 = 1) ∧ (Q z6 M5))))))) ∧ (¬ ((M m 2) < 60) → (Q 0 M))
theorem t_X0_startBar (m : Nat) (hm : MU m) (p1 : Int32) (M : Mem) (Q : Int32 → Mem → Prop) (h : w_X0_startBar m p1 M Q) : Ex true mX0_startBar 78 78 0 0 0 [.ref m, .int p1] [] M Q := by
  unfold w_X0_startBar at h
  refine ex_aload_n dX0_startBar_0 rfl ?_
  refine ex_getI (ci := 0) (j := 2) dX0_startBar_1 (mu_l hm 0 (by decide)) (mu_S0 hm) rfl lk_X0_61 ?_
  refine ex_bipush (v := 60) dX0_startBar_4 (by decide) ?_
  refine ex_icmp_lt (tgt := 11) dX0_startBar_6 (by decide) (fun c_6 => ?_) (fun c_6 => ?_)
  · replace h := h.1 c_6
    refine ex_aload_n dX0_startBar_11 rfl ?_
    refine ex_getR (ci := 0) (j := 4) (v := m + 1) dX0_startBar_12 (mu_l hm 0 (by decide)) (mu_S0 hm) rfl lk_X0_15 (mu_F4 hm) (by omega) ?_
    refine ex_aload_n dX0_startBar_15 rfl ?_
    refine ex_getI (ci := 0) (j := 2) dX0_startBar_16 (mu_l hm 0 (by decide)) (mu_S0 hm) rfl lk_X0_61 ?_
    refine ex_iconst (v := 0) dX0_startBar_19 (by decide) ?_
    obtain ⟨b1, h⟩ := h
    refine ex_iast dX0_startBar_20 (mu_l hm 1 (by decide)) (mu_S1 hm) b1 ?_
    refine ex_nmM (fun M2 eM2 => ?_)
    replace h := h M2 eM2
    refine ex_aload_n dX0_startBar_21 rfl ?_
    refine ex_dup dX0_startBar_22 rfl ?_
    refine ex_getI (ci := 0) (j := 2) dX0_startBar_23 (mu_l hm 0 (by decide)) (mu_S0 hm) rfl lk_X0_61 ?_
    refine ex_iconst (v := 1) dX0_startBar_26 (by decide) ?_
    refine ex_iadd dX0_startBar_27 ?_
    refine ex_putI (ci := 0) (j := 2) dX0_startBar_28 (mu_l hm 0 (by decide)) (mu_S0 hm) rfl lk_X0_61 ⟨rfl, rfl⟩ ?_
    refine ex_nmM (fun M3 eM3 => ?_)
    replace h := h M3 eM3
    refine ex_iload_n dX0_startBar_31 rfl ?_
    refine ex_if_ne (tgt := 42) dX0_startBar_32 (by decide) (fun c_32 => ?_) (fun c_32 => ?_)
    · replace h := h.1 c_32
      refine ex_iconst (v := 1) dX0_startBar_42 (by decide) ?_
      refine ex_goto (tgt := 47) dX0_startBar_43 (by decide) ?_
      exact ex_iret dX0_startBar_47 rfl rfl rfl h
    · replace h := h.2 c_32
      refine ex_aload_n dX0_startBar_35 rfl ?_
      refine ex_invV (k := m) (ci := 0) (as := []) (L2 := [.ref m, .null, .null]) (st := []) 0 0 dX0_startBar_36 lk_X0_67 sl_X0_startVoice (rmK_of rfl) (mu_l hm 0 (by decide)) (mu_S0 hm) ⟨by decide, rfl⟩ rfl (Nat.le_of_ble_eq_true rfl) (Nat.le_of_ble_eq_true rfl) (t_X0_startVoice m hm M3 _ h) (fun v4 M5 h => ?_)
      show Ex true mX0_startBar 78 78 0 0 39 [.ref m, .int p1] [.int v4] M5 Q
      have hJ8 : ∀ z6 : Int32, z6 = (if v4 = 0 then 0 else 1) → Ex true mX0_startBar 78 78 0 0 47 [.ref m, .int p1] [.int z6] M5 Q := by
        intro z6 ez6
        replace h := h z6 ez6
        obtain ⟨b7, h⟩ := h
        exact ex_iret dX0_startBar_47 rfl (nr01 b7) rfl h
      refine ex_if_eq (tgt := 46) dX0_startBar_39 (by decide) (fun c_39 => ?_) (fun c_39 => ?_)
      ·
        refine ex_iconst (v := 0) dX0_startBar_46 (by decide) ?_
        exact hJ8 _ (by rw [if_pos c_39])
      ·
        refine ex_iconst (v := 1) dX0_startBar_42 (by decide) ?_
        refine ex_goto (tgt := 47) dX0_startBar_43 (by decide) ?_
        exact hJ8 _ (by rw [if_neg c_39])
  · replace h := h.2 c_6
    refine ex_iconst (v := 0) dX0_startBar_9 (by decide) ?_
    exact ex_iret dX0_startBar_10 rfl rfl rfl h
def w_X0_slotOf (m : Nat) (p1 : Int32) (p2 : Int32) (M : Mem) (Q : Int32 → Mem → Prop) : Prop := ((p1 < 0) → (Q (-1) M)) ∧ (¬ (p1 < 0) → ((((M m 2) ≤ p1) → (Q (-1) M)) ∧ (¬ ((M m 2) ≤ p1) → (((p2 < 0) → (Q (-1) M)) ∧ (¬ (p2 < 0) → ((vp_in p1 60) ∧ (((p2 < (M (m + 1) (Int32.toNatClampNeg p1))) → (Q ((p1 * 3) + p2) M)) ∧ (¬ (p2 < (M (m + 1) (Int32.toNatClampNeg p1))) → (Q (-1) M)))))))))
theorem t_X0_slotOf (m : Nat) (hm : MU m) (p1 : Int32) (p2 : Int32) (M : Mem) (Q : Int32 → Mem → Prop) (h : w_X0_slotOf m p1 p2 M Q) : Ex true mX0_slotOf 78 78 0 0 0 [.ref m, .int p1, .int p2] [] M Q := by
  unfold w_X0_slotOf at h
  refine ex_iload_n dX0_slotOf_0 rfl ?_
  refine ex_if_lt (tgt := 26) dX0_slotOf_1 (by decide) (fun c_1 => ?_) (fun c_1 => ?_)
  · replace h := h.1 c_1
    refine ex_iconst (v := (-1)) dX0_slotOf_26 (by decide) ?_
    exact ex_iret dX0_slotOf_27 rfl rfl rfl h
  · replace h := h.2 c_1
    refine ex_iload_n dX0_slotOf_4 rfl ?_
    refine ex_aload_n dX0_slotOf_5 rfl ?_
    refine ex_getI (ci := 0) (j := 2) dX0_slotOf_6 (mu_l hm 0 (by decide)) (mu_S0 hm) rfl lk_X0_61 ?_
    refine ex_icmp_ge (tgt := 26) dX0_slotOf_9 (by decide) (fun c_9 => ?_) (fun c_9 => ?_)
    · replace h := h.1 c_9
      refine ex_iconst (v := (-1)) dX0_slotOf_26 (by decide) ?_
      exact ex_iret dX0_slotOf_27 rfl rfl rfl h
    · replace h := h.2 c_9
      refine ex_iload_n dX0_slotOf_12 rfl ?_
      refine ex_if_lt (tgt := 26) dX0_slotOf_13 (by decide) (fun c_13 => ?_) (fun c_13 => ?_)
      · replace h := h.1 c_13
        refine ex_iconst (v := (-1)) dX0_slotOf_26 (by decide) ?_
        exact ex_iret dX0_slotOf_27 rfl rfl rfl h
      · replace h := h.2 c_13
        refine ex_iload_n dX0_slotOf_16 rfl ?_
        refine ex_aload_n dX0_slotOf_17 rfl ?_
        refine ex_getR (ci := 0) (j := 4) (v := m + 1) dX0_slotOf_18 (mu_l hm 0 (by decide)) (mu_S0 hm) rfl lk_X0_15 (mu_F4 hm) (by omega) ?_
        refine ex_iload_n dX0_slotOf_21 rfl ?_
        obtain ⟨b1, h⟩ := h
        refine ex_iald dX0_slotOf_22 (mu_l hm 1 (by decide)) (mu_S1 hm) b1 ?_
        refine ex_icmp_lt (tgt := 28) dX0_slotOf_23 (by decide) (fun c_23 => ?_) (fun c_23 => ?_)
        · replace h := h.1 c_23
          refine ex_iload_n dX0_slotOf_28 rfl ?_
          refine ex_iconst (v := 3) dX0_slotOf_29 (by decide) ?_
          refine ex_imul dX0_slotOf_30 ?_
          refine ex_iload_n dX0_slotOf_31 rfl ?_
          refine ex_iadd dX0_slotOf_32 ?_
          exact ex_iret dX0_slotOf_33 rfl rfl rfl h
        · replace h := h.2 c_23
          refine ex_iconst (v := (-1)) dX0_slotOf_26 (by decide) ?_
          exact ex_iret dX0_slotOf_27 rfl rfl rfl h
def w_X0_lastSlot (m : Nat) (M : Mem) (Q : Int32 → Mem → Prop) : Prop := ∀ x1 : Int32, x1 = ((M m 2) - 1) → (((x1 < 0) → (True)) ∧ (¬ (x1 < 0) → ((vp_in x1 60) ∧ ((¬ ((M (m + 1) (Int32.toNatClampNeg x1)) = 0) → ((vp_in x1 60) ∧ (True))) ∧ (((M (m + 1) (Int32.toNatClampNeg x1)) = 0) → (True)))))) ∧ (∀ z4 : Int32, z4 = (if x1 < 0 then (-1) else (if (M (m + 1) (Int32.toNatClampNeg x1)) = 0 then (-1) else (((x1 * 3) + (M (m + 1) (Int32.toNatClampNeg x1))) - 1))) → Q z4 M)
theorem t_X0_lastSlot (m : Nat) (hm : MU m) (M : Mem) (Q : Int32 → Mem → Prop) (h : w_X0_lastSlot m  M Q) : Ex true mX0_lastSlot 78 78 0 0 0 [.ref m, .null] [] M Q := by
  unfold w_X0_lastSlot at h
  refine ex_aload_n dX0_lastSlot_0 rfl ?_
  refine ex_getI (ci := 0) (j := 2) dX0_lastSlot_1 (mu_l hm 0 (by decide)) (mu_S0 hm) rfl lk_X0_61 ?_
  refine ex_iconst (v := 1) dX0_lastSlot_4 (by decide) ?_
  refine ex_isub dX0_lastSlot_5 ?_
  refine ex_top (fun x1 ex1 => ?_)
  replace h := h x1 ex1
  refine ex_istore_n (L2 := [.ref m, .int x1]) dX0_lastSlot_6 (by decide) rfl rfl ?_
  refine ex_iload_n dX0_lastSlot_7 rfl ?_
  obtain ⟨khJ5, h⟩ := h
  have hJ5 : ∀ z4 : Int32, z4 = (if x1 < 0 then (-1) else (if (M (m + 1) (Int32.toNatClampNeg x1)) = 0 then (-1) else (((x1 * 3) + (M (m + 1) (Int32.toNatClampNeg x1))) - 1))) → Ex true mX0_lastSlot 78 78 0 0 36 [.ref m, .int x1] [.int z4] M Q := by
    intro z4 ez4
    replace h := h z4 ez4
    exact ex_iret dX0_lastSlot_36 rfl rfl rfl h
  refine ex_if_lt (tgt := 20) dX0_lastSlot_8 (by decide) (fun c_8 => ?_) (fun c_8 => ?_)
  · replace h := khJ5.1 c_8
    refine ex_iconst (v := (-1)) dX0_lastSlot_20 (by decide) ?_
    refine ex_goto (tgt := 36) dX0_lastSlot_21 (by decide) ?_
    exact hJ5 _ (by rw [if_pos c_8])
  · replace h := khJ5.2 c_8
    refine ex_aload_n dX0_lastSlot_11 rfl ?_
    refine ex_getR (ci := 0) (j := 4) (v := m + 1) dX0_lastSlot_12 (mu_l hm 0 (by decide)) (mu_S0 hm) rfl lk_X0_15 (mu_F4 hm) (by omega) ?_
    refine ex_iload_n dX0_lastSlot_15 rfl ?_
    obtain ⟨b2, h⟩ := h
    refine ex_iald dX0_lastSlot_16 (mu_l hm 1 (by decide)) (mu_S1 hm) b2 ?_
    refine ex_if_ne (tgt := 24) dX0_lastSlot_17 (by decide) (fun c_17 => ?_) (fun c_17 => ?_)
    · replace h := h.1 c_17
      refine ex_iload_n dX0_lastSlot_24 rfl ?_
      refine ex_iconst (v := 3) dX0_lastSlot_25 (by decide) ?_
      refine ex_imul dX0_lastSlot_26 ?_
      refine ex_aload_n dX0_lastSlot_27 rfl ?_
      refine ex_getR (ci := 0) (j := 4) (v := m + 1) dX0_lastSlot_28 (mu_l hm 0 (by decide)) (mu_S0 hm) rfl lk_X0_15 (mu_F4 hm) (by omega) ?_
      refine ex_iload_n dX0_lastSlot_31 rfl ?_
      obtain ⟨b3, h⟩ := h
      refine ex_iald dX0_lastSlot_32 (mu_l hm 1 (by decide)) (mu_S1 hm) b3 ?_
      refine ex_iadd dX0_lastSlot_33 ?_
      refine ex_iconst (v := 1) dX0_lastSlot_34 (by decide) ?_
      refine ex_isub dX0_lastSlot_35 ?_
      exact hJ5 _ (by rw [if_neg c_8, if_neg c_17])
    · replace h := h.2 c_17
      refine ex_iconst (v := (-1)) dX0_lastSlot_20 (by decide) ?_
      refine ex_goto (tgt := 36) dX0_lastSlot_21 (by decide) ?_
      exact hJ5 _ (by rw [if_neg c_8, if_pos c_17])
def w_X0_addItem (m : Nat) (p1 : Int32) (p2 : Int32) (p3 : Int32) (p4 : Int32) (p5 : Int32) (M : Mem) (Q : Int32 → Mem → Prop) : Prop := w_X0_lastSlot m M (fun v1 M2 => ((v1 < 0) → (Q (-1) M2)) ∧ (¬ (v1 < 0) → ((((M2 m 3) < 600) → ((vp_in (M2 m 3) 600) ∧ (∀ M4 : Mem, M4 = (mset M2 (m + 4) (Int32.toNatClampNeg (M2 m 3)) ((M2 m 2) - 1)) → (vp_in ((M4 m 2) - 1) 60) ∧ ((vp_in (M4 m 3) 600) ∧ (∀ M7 : Mem, M7 = (mset M4 (m + 5) (Int32.toNatClampNeg (M4 m 3)) ((M4 (m + 1) (Int32.toNatClampNeg ((M4 m 2) - 1))) - 1)) → (vp_in (M7 m 3) 600) ∧ (∀ M9 : Mem, M9 = (mset M7 (m + 6) (Int32.toNatClampNeg (M7 m 3)) p1) → (vp_in (M9 m 3) 600) ∧ (∀ M11 : Mem, M11 = (mset M9 (m + 7) (Int32.toNatClampNeg (M9 m 3)) p2) → (vp_in (M11 m 3) 600) ∧ (∀ M13 : Mem, M13 = (mset M11 (m + 8) (Int32.toNatClampNeg (M11 m 3)) p3) → (vp_in (M13 m 3) 600) ∧ (∀ M15 : Mem, M15 = (mset M13 (m + 9) (Int32.toNatClampNeg (M13 m 3)) p4) → (vp_in (M15 m 3) 600) ∧ (∀ M17 : Mem, M17 = (mset M15 (m + 10) (Int32.toNatClampNeg (M15 m 3)) p5) → (vp_in (M17 m 3) 600) ∧ (∀ M19 : Mem, M19 = (mset M17 (m + 11) (Int32.toNatClampNeg (M17 m 3)) 0) → (vp_in (M19 m 3) 600) ∧ (∀ M21 : Mem, M21 = (mset M19 (m + 12) (Int32.toNatClampNeg (M19 m 3)) 0) → (vp_in (M21 m 3) 600) ∧ (∀ M23 : Mem, M23 = (mset M21 (m + 13) (Int32.toNatClampNeg (M21 m 3)) 0) → (vp_in v1 180) ∧ ((vp_in v1 180) ∧ (∀ M26 : Mem, M26 = (mset M23 (m + 3) (Int32.toNatClampNeg v1) ((M23 (m + 3) (Int32.toNatClampNeg v1)) + 1)) → ∀ M27 : Mem, M27 = (mset M26 m 3 ((M26 m 3) + 1)) → Q ((M27 m 3) - 1) M27))))))))))))))) ∧ (¬ ((M2 m 3) < 600) → (Q (-1) M2)))))
theorem t_X0_addItem (m : Nat) (hm : MU m) (p1 : Int32) (p2 : Int32) (p3 : Int32) (p4 : Int32) (p5 : Int32) (M : Mem) (Q : Int32 → Mem → Prop) (h : w_X0_addItem m p1 p2 p3 p4 p5 M Q) : Ex true mX0_addItem 78 78 0 0 0 [.ref m, .int p1, .int p2, .int p3, .int p4, .int p5, .null] [] M Q := by
  unfold w_X0_addItem at h
  refine ex_aload_n dX0_addItem_0 rfl ?_
  refine ex_invV (k := m) (ci := 0) (as := []) (L2 := [.ref m, .null]) (st := []) 0 0 dX0_addItem_1 lk_X0_71 sl_X0_lastSlot (rmK_of rfl) (mu_l hm 0 (by decide)) (mu_S0 hm) ⟨by decide, rfl⟩ rfl (Nat.le_of_ble_eq_true rfl) (Nat.le_of_ble_eq_true rfl) (t_X0_lastSlot m hm M _ h) (fun v1 M2 h => ?_)
  show Ex true mX0_addItem 78 78 0 0 4 [.ref m, .int p1, .int p2, .int p3, .int p4, .int p5, .null] [.int v1] M2 Q
  refine ex_istore (L2 := [.ref m, .int p1, .int p2, .int p3, .int p4, .int p5, .int v1]) dX0_addItem_4 (by decide) rfl rfl ?_
  refine ex_iload dX0_addItem_6 rfl ?_
  refine ex_if_lt (tgt := 21) dX0_addItem_8 (by decide) (fun c_8 => ?_) (fun c_8 => ?_)
  · replace h := h.1 c_8
    refine ex_iconst (v := (-1)) dX0_addItem_21 (by decide) ?_
    exact ex_iret dX0_addItem_22 rfl rfl rfl h
  · replace h := h.2 c_8
    refine ex_aload_n dX0_addItem_11 rfl ?_
    refine ex_getI (ci := 0) (j := 3) dX0_addItem_12 (mu_l hm 0 (by decide)) (mu_S0 hm) rfl lk_X0_64 ?_
    refine ex_sipush (v := 600) dX0_addItem_15 (by decide) ?_
    refine ex_icmp_lt (tgt := 23) dX0_addItem_18 (by decide) (fun c_18 => ?_) (fun c_18 => ?_)
    · replace h := h.1 c_18
      refine ex_aload_n dX0_addItem_23 rfl ?_
      refine ex_getR (ci := 0) (j := 7) (v := m + 4) dX0_addItem_24 (mu_l hm 0 (by decide)) (mu_S0 hm) rfl lk_X0_25 (mu_F7 hm) (by omega) ?_
      refine ex_aload_n dX0_addItem_27 rfl ?_
      refine ex_getI (ci := 0) (j := 3) dX0_addItem_28 (mu_l hm 0 (by decide)) (mu_S0 hm) rfl lk_X0_64 ?_
      refine ex_aload_n dX0_addItem_31 rfl ?_
      refine ex_getI (ci := 0) (j := 2) dX0_addItem_32 (mu_l hm 0 (by decide)) (mu_S0 hm) rfl lk_X0_61 ?_
      refine ex_iconst (v := 1) dX0_addItem_35 (by decide) ?_
      refine ex_isub dX0_addItem_36 ?_
      obtain ⟨b3, h⟩ := h
      refine ex_iast dX0_addItem_37 (mu_l hm 4 (by decide)) (mu_S4 hm) b3 ?_
      refine ex_nmM (fun M4 eM4 => ?_)
      replace h := h M4 eM4
      refine ex_aload_n dX0_addItem_38 rfl ?_
      refine ex_getR (ci := 0) (j := 8) (v := m + 5) dX0_addItem_39 (mu_l hm 0 (by decide)) (mu_S0 hm) rfl lk_X0_28 (mu_F8 hm) (by omega) ?_
      refine ex_aload_n dX0_addItem_42 rfl ?_
      refine ex_getI (ci := 0) (j := 3) dX0_addItem_43 (mu_l hm 0 (by decide)) (mu_S0 hm) rfl lk_X0_64 ?_
      refine ex_aload_n dX0_addItem_46 rfl ?_
      refine ex_getR (ci := 0) (j := 4) (v := m + 1) dX0_addItem_47 (mu_l hm 0 (by decide)) (mu_S0 hm) rfl lk_X0_15 (mu_F4 hm) (by omega) ?_
      refine ex_aload_n dX0_addItem_50 rfl ?_
      refine ex_getI (ci := 0) (j := 2) dX0_addItem_51 (mu_l hm 0 (by decide)) (mu_S0 hm) rfl lk_X0_61 ?_
      refine ex_iconst (v := 1) dX0_addItem_54 (by decide) ?_
      refine ex_isub dX0_addItem_55 ?_
      obtain ⟨b5, h⟩ := h
      refine ex_iald dX0_addItem_56 (mu_l hm 1 (by decide)) (mu_S1 hm) b5 ?_
      refine ex_iconst (v := 1) dX0_addItem_57 (by decide) ?_
      refine ex_isub dX0_addItem_58 ?_
      obtain ⟨b6, h⟩ := h
      refine ex_iast dX0_addItem_59 (mu_l hm 5 (by decide)) (mu_S5 hm) b6 ?_
      refine ex_nmM (fun M7 eM7 => ?_)
      replace h := h M7 eM7
      refine ex_aload_n dX0_addItem_60 rfl ?_
      refine ex_getR (ci := 0) (j := 9) (v := m + 6) dX0_addItem_61 (mu_l hm 0 (by decide)) (mu_S0 hm) rfl lk_X0_31 (mu_F9 hm) (by omega) ?_
      refine ex_aload_n dX0_addItem_64 rfl ?_
      refine ex_getI (ci := 0) (j := 3) dX0_addItem_65 (mu_l hm 0 (by decide)) (mu_S0 hm) rfl lk_X0_64 ?_
      refine ex_iload_n dX0_addItem_68 rfl ?_
      obtain ⟨b8, h⟩ := h
      refine ex_iast dX0_addItem_69 (mu_l hm 6 (by decide)) (mu_S6 hm) b8 ?_
      refine ex_nmM (fun M9 eM9 => ?_)
      replace h := h M9 eM9
      refine ex_aload_n dX0_addItem_70 rfl ?_
      refine ex_getR (ci := 0) (j := 10) (v := m + 7) dX0_addItem_71 (mu_l hm 0 (by decide)) (mu_S0 hm) rfl lk_X0_34 (mu_F10 hm) (by omega) ?_
      refine ex_aload_n dX0_addItem_74 rfl ?_
      refine ex_getI (ci := 0) (j := 3) dX0_addItem_75 (mu_l hm 0 (by decide)) (mu_S0 hm) rfl lk_X0_64 ?_
      refine ex_iload_n dX0_addItem_78 rfl ?_
      obtain ⟨b10, h⟩ := h
      refine ex_iast dX0_addItem_79 (mu_l hm 7 (by decide)) (mu_S7 hm) b10 ?_
      refine ex_nmM (fun M11 eM11 => ?_)
      replace h := h M11 eM11
      refine ex_aload_n dX0_addItem_80 rfl ?_
      refine ex_getR (ci := 0) (j := 11) (v := m + 8) dX0_addItem_81 (mu_l hm 0 (by decide)) (mu_S0 hm) rfl lk_X0_37 (mu_F11 hm) (by omega) ?_
      refine ex_aload_n dX0_addItem_84 rfl ?_
      refine ex_getI (ci := 0) (j := 3) dX0_addItem_85 (mu_l hm 0 (by decide)) (mu_S0 hm) rfl lk_X0_64 ?_
      refine ex_iload_n dX0_addItem_88 rfl ?_
      obtain ⟨b12, h⟩ := h
      refine ex_iast dX0_addItem_89 (mu_l hm 8 (by decide)) (mu_S8 hm) b12 ?_
      refine ex_nmM (fun M13 eM13 => ?_)
      replace h := h M13 eM13
      refine ex_aload_n dX0_addItem_90 rfl ?_
      refine ex_getR (ci := 0) (j := 12) (v := m + 9) dX0_addItem_91 (mu_l hm 0 (by decide)) (mu_S0 hm) rfl lk_X0_40 (mu_F12 hm) (by omega) ?_
      refine ex_aload_n dX0_addItem_94 rfl ?_
      refine ex_getI (ci := 0) (j := 3) dX0_addItem_95 (mu_l hm 0 (by decide)) (mu_S0 hm) rfl lk_X0_64 ?_
      refine ex_iload dX0_addItem_98 rfl ?_
      obtain ⟨b14, h⟩ := h
      refine ex_iast dX0_addItem_100 (mu_l hm 9 (by decide)) (mu_S9 hm) b14 ?_
      refine ex_nmM (fun M15 eM15 => ?_)
      replace h := h M15 eM15
      refine ex_aload_n dX0_addItem_101 rfl ?_
      refine ex_getR (ci := 0) (j := 13) (v := m + 10) dX0_addItem_102 (mu_l hm 0 (by decide)) (mu_S0 hm) rfl lk_X0_43 (mu_F13 hm) (by omega) ?_
      refine ex_aload_n dX0_addItem_105 rfl ?_
      refine ex_getI (ci := 0) (j := 3) dX0_addItem_106 (mu_l hm 0 (by decide)) (mu_S0 hm) rfl lk_X0_64 ?_
      refine ex_iload dX0_addItem_109 rfl ?_
      obtain ⟨b16, h⟩ := h
      refine ex_iast dX0_addItem_111 (mu_l hm 10 (by decide)) (mu_S10 hm) b16 ?_
      refine ex_nmM (fun M17 eM17 => ?_)
      replace h := h M17 eM17
      refine ex_aload_n dX0_addItem_112 rfl ?_
      refine ex_getR (ci := 0) (j := 14) (v := m + 11) dX0_addItem_113 (mu_l hm 0 (by decide)) (mu_S0 hm) rfl lk_X0_46 (mu_F14 hm) (by omega) ?_
      refine ex_aload_n dX0_addItem_116 rfl ?_
      refine ex_getI (ci := 0) (j := 3) dX0_addItem_117 (mu_l hm 0 (by decide)) (mu_S0 hm) rfl lk_X0_64 ?_
      refine ex_iconst (v := 0) dX0_addItem_120 (by decide) ?_
      obtain ⟨b18, h⟩ := h
      refine ex_iast dX0_addItem_121 (mu_l hm 11 (by decide)) (mu_S11 hm) b18 ?_
      refine ex_nmM (fun M19 eM19 => ?_)
      replace h := h M19 eM19
      refine ex_aload_n dX0_addItem_122 rfl ?_
      refine ex_getR (ci := 0) (j := 15) (v := m + 12) dX0_addItem_123 (mu_l hm 0 (by decide)) (mu_S0 hm) rfl lk_X0_49 (mu_F15 hm) (by omega) ?_
      refine ex_aload_n dX0_addItem_126 rfl ?_
      refine ex_getI (ci := 0) (j := 3) dX0_addItem_127 (mu_l hm 0 (by decide)) (mu_S0 hm) rfl lk_X0_64 ?_
      refine ex_iconst (v := 0) dX0_addItem_130 (by decide) ?_
      obtain ⟨b20, h⟩ := h
      refine ex_iast dX0_addItem_131 (mu_l hm 12 (by decide)) (mu_S12 hm) b20 ?_
      refine ex_nmM (fun M21 eM21 => ?_)
      replace h := h M21 eM21
      refine ex_aload_n dX0_addItem_132 rfl ?_
      refine ex_getR (ci := 0) (j := 16) (v := m + 13) dX0_addItem_133 (mu_l hm 0 (by decide)) (mu_S0 hm) rfl lk_X0_52 (mu_F16 hm) (by omega) ?_
      refine ex_aload_n dX0_addItem_136 rfl ?_
      refine ex_getI (ci := 0) (j := 3) dX0_addItem_137 (mu_l hm 0 (by decide)) (mu_S0 hm) rfl lk_X0_64 ?_
      refine ex_iconst (v := 0) dX0_addItem_140 (by decide) ?_
      obtain ⟨b22, h⟩ := h
      refine ex_iast dX0_addItem_141 (mu_l hm 13 (by decide)) (mu_S13 hm) b22 ?_
      refine ex_nmM (fun M23 eM23 => ?_)
      replace h := h M23 eM23
      refine ex_aload_n dX0_addItem_142 rfl ?_
      refine ex_getR (ci := 0) (j := 6) (v := m + 3) dX0_addItem_143 (mu_l hm 0 (by decide)) (mu_S0 hm) rfl lk_X0_22 (mu_F6 hm) (by omega) ?_
      refine ex_iload dX0_addItem_146 rfl ?_
      refine ex_dup2 dX0_addItem_148 rfl rfl ?_
      obtain ⟨b24, h⟩ := h
      refine ex_iald dX0_addItem_149 (mu_l hm 3 (by decide)) (mu_S3 hm) b24 ?_
      refine ex_iconst (v := 1) dX0_addItem_150 (by decide) ?_
      refine ex_iadd dX0_addItem_151 ?_
      obtain ⟨b25, h⟩ := h
      refine ex_iast dX0_addItem_152 (mu_l hm 3 (by decide)) (mu_S3 hm) b25 ?_
      refine ex_nmM (fun M26 eM26 => ?_)
      replace h := h M26 eM26
      refine ex_aload_n dX0_addItem_153 rfl ?_
      refine ex_dup dX0_addItem_154 rfl ?_
      refine ex_getI (ci := 0) (j := 3) dX0_addItem_155 (mu_l hm 0 (by decide)) (mu_S0 hm) rfl lk_X0_64 ?_
      refine ex_iconst (v := 1) dX0_addItem_158 (by decide) ?_
      refine ex_iadd dX0_addItem_159 ?_
      refine ex_putI (ci := 0) (j := 3) dX0_addItem_160 (mu_l hm 0 (by decide)) (mu_S0 hm) rfl lk_X0_64 ⟨rfl, rfl⟩ ?_
      refine ex_nmM (fun M27 eM27 => ?_)
      replace h := h M27 eM27
      refine ex_aload_n dX0_addItem_163 rfl ?_
      refine ex_getI (ci := 0) (j := 3) dX0_addItem_164 (mu_l hm 0 (by decide)) (mu_S0 hm) rfl lk_X0_64 ?_
      refine ex_iconst (v := 1) dX0_addItem_167 (by decide) ?_
      refine ex_isub dX0_addItem_168 ?_
      exact ex_iret dX0_addItem_169 rfl rfl rfl h
    · replace h := h.2 c_18
      refine ex_iconst (v := (-1)) dX0_addItem_21 (by decide) ?_
      exact ex_iret dX0_addItem_22 rfl rfl rfl h
def w_X0_addInterval (m : Nat) (p1 : Int32) (p2 : Int32) (M : Mem) (Q : Int32 → Mem → Prop) : Prop := ∀ x1 : Int32, x1 = ((M m 3) - 1) → ((x1 < 0) → (Q 0 M)) ∧ (¬ (x1 < 0) → ((vp_in x1 600) ∧ ((((M (m + 13) (Int32.toNatClampNeg x1)) < 4) → ((vp_in x1 600) ∧ ((vp_in ((x1 * 4) + (M (m + 13) (Int32.toNatClampNeg x1))) 2400) ∧ (∀ M5 : Mem, M5 = (mset M (m + 14) (Int32.toNatClampNeg ((x1 * 4) + (M (m + 13) (Int32.toNatClampNeg x1)))) (p1 + (16 * p2))) → (vp_in x1 600) ∧ ((vp_in x1 600) ∧ (∀ M8 : Mem, M8 = (mset M5 (m + 13) (Int32.toNatClampNeg x1) ((M5 (m + 13) (Int32.toNatClampNeg x1)) + 1)) → Q 0 M8)))))) ∧ (¬ ((M (m + 13) (Int32.toNatClampNeg x1)) < 4) → (Q 0 M)))))
theorem t_X0_addInterval (m : Nat) (hm : MU m) (p1 : Int32) (p2 : Int32) (M : Mem) (Q : Int32 → Mem → Prop) (h : w_X0_addInterval m p1 p2 M Q) : Ex true mX0_addInterval 78 78 0 0 0 [.ref m, .int p1, .int p2, .null] [] M Q := by
  unfold w_X0_addInterval at h
  refine ex_aload_n dX0_addInterval_0 rfl ?_
  refine ex_getI (ci := 0) (j := 3) dX0_addInterval_1 (mu_l hm 0 (by decide)) (mu_S0 hm) rfl lk_X0_64 ?_
  refine ex_iconst (v := 1) dX0_addInterval_4 (by decide) ?_
  refine ex_isub dX0_addInterval_5 ?_
  refine ex_top (fun x1 ex1 => ?_)
  replace h := h x1 ex1
  refine ex_istore_n (L2 := [.ref m, .int p1, .int p2, .int x1]) dX0_addInterval_6 (by decide) rfl rfl ?_
  refine ex_iload_n dX0_addInterval_7 rfl ?_
  refine ex_if_lt (tgt := 21) dX0_addInterval_8 (by decide) (fun c_8 => ?_) (fun c_8 => ?_)
  · replace h := h.1 c_8
    exact ex_vret dX0_addInterval_21 rfl rfl h
  · replace h := h.2 c_8
    refine ex_aload_n dX0_addInterval_11 rfl ?_
    refine ex_getR (ci := 0) (j := 16) (v := m + 13) dX0_addInterval_12 (mu_l hm 0 (by decide)) (mu_S0 hm) rfl lk_X0_52 (mu_F16 hm) (by omega) ?_
    refine ex_iload_n dX0_addInterval_15 rfl ?_
    obtain ⟨b2, h⟩ := h
    refine ex_iald dX0_addInterval_16 (mu_l hm 13 (by decide)) (mu_S13 hm) b2 ?_
    refine ex_iconst (v := 4) dX0_addInterval_17 (by decide) ?_
    refine ex_icmp_lt (tgt := 22) dX0_addInterval_18 (by decide) (fun c_18 => ?_) (fun c_18 => ?_)
    · replace h := h.1 c_18
      refine ex_aload_n dX0_addInterval_22 rfl ?_
      refine ex_getR (ci := 0) (j := 17) (v := m + 14) dX0_addInterval_23 (mu_l hm 0 (by decide)) (mu_S0 hm) rfl lk_X0_55 (mu_F17 hm) (by omega) ?_
      refine ex_iload_n dX0_addInterval_26 rfl ?_
      refine ex_iconst (v := 4) dX0_addInterval_27 (by decide) ?_
      refine ex_imul dX0_addInterval_28 ?_
      refine ex_aload_n dX0_addInterval_29 rfl ?_
      refine ex_getR (ci := 0) (j := 16) (v := m + 13) dX0_addInterval_30 (mu_l hm 0 (by decide)) (mu_S0 hm) rfl lk_X0_52 (mu_F16 hm) (by omega) ?_
      refine ex_iload_n dX0_addInterval_33 rfl ?_
      obtain ⟨b3, h⟩ := h
      refine ex_iald dX0_addInterval_34 (mu_l hm 13 (by decide)) (mu_S13 hm) b3 ?_
      refine ex_iadd dX0_addInterval_35 ?_
      refine ex_iload_n dX0_addInterval_36 rfl ?_
      refine ex_bipush (v := 16) dX0_addInterval_37 (by decide) ?_
      refine ex_iload_n dX0_addInterval_39 rfl ?_
      refine ex_imul dX0_addInterval_40 ?_
      refine ex_iadd dX0_addInterval_41 ?_
      obtain ⟨b4, h⟩ := h
      refine ex_iast dX0_addInterval_42 (mu_l hm 14 (by decide)) (mu_S14 hm) b4 ?_
      refine ex_nmM (fun M5 eM5 => ?_)
      replace h := h M5 eM5
      refine ex_aload_n dX0_addInterval_43 rfl ?_
      refine ex_getR (ci := 0) (j := 16) (v := m + 13) dX0_addInterval_44 (mu_l hm 0 (by decide)) (mu_S0 hm) rfl lk_X0_52 (mu_F16 hm) (by omega) ?_
      refine ex_iload_n dX0_addInterval_47 rfl ?_
      refine ex_dup2 dX0_addInterval_48 rfl rfl ?_
      obtain ⟨b6, h⟩ := h
      refine ex_iald dX0_addInterval_49 (mu_l hm 13 (by decide)) (mu_S13 hm) b6 ?_
      refine ex_iconst (v := 1) dX0_addInterval_50 (by decide) ?_
      refine ex_iadd dX0_addInterval_51 ?_
      obtain ⟨b7, h⟩ := h
      refine ex_iast dX0_addInterval_52 (mu_l hm 13 (by decide)) (mu_S13 hm) b7 ?_
      refine ex_nmM (fun M8 eM8 => ?_)
      replace h := h M8 eM8
      exact ex_vret dX0_addInterval_53 rfl rfl h
    · replace h := h.2 c_18
      exact ex_vret dX0_addInterval_21 rfl rfl h
def w_X0_intervalAt (m : Nat) (p1 : Int32) (p2 : Int32) (M : Mem) (Q : Int32 → Mem → Prop) : Prop := (((p2 < 0) → (True)) ∧ (¬ (p2 < 0) → ((vp_in p1 600) ∧ ((((M (m + 13) (Int32.toNatClampNeg p1)) ≤ p2) → (True)) ∧ (¬ ((M (m + 13) (Int32.toNatClampNeg p1)) ≤ p2) → ((vp_in ((p1 * 4) + p2) 2400) ∧ (True))))))) ∧ (∀ z3 : Int32, z3 = (if p2 < 0 then 0 else (if (M (m + 13) (Int32.toNatClampNeg p1)) ≤ p2 then 0 else (M (m + 14) (Int32.toNatClampNeg ((p1 * 4) + p2))))) → Q z3 M)
theorem t_X0_intervalAt (m : Nat) (hm : MU m) (p1 : Int32) (p2 : Int32) (M : Mem) (Q : Int32 → Mem → Prop) (h : w_X0_intervalAt m p1 p2 M Q) : Ex true mX0_intervalAt 78 78 0 0 0 [.ref m, .int p1, .int p2] [] M Q := by
  unfold w_X0_intervalAt at h
  refine ex_iload_n dX0_intervalAt_0 rfl ?_
  obtain ⟨khJ4, h⟩ := h
  have hJ4 : ∀ z3 : Int32, z3 = (if p2 < 0 then 0 else (if (M (m + 13) (Int32.toNatClampNeg p1)) ≤ p2 then 0 else (M (m + 14) (Int32.toNatClampNeg ((p1 * 4) + p2))))) → Ex true mX0_intervalAt 78 78 0 0 28 [.ref m, .int p1, .int p2] [.int z3] M Q := by
    intro z3 ez3
    replace h := h z3 ez3
    exact ex_iret dX0_intervalAt_28 rfl rfl rfl h
  refine ex_if_lt (tgt := 27) dX0_intervalAt_1 (by decide) (fun c_1 => ?_) (fun c_1 => ?_)
  · replace h := khJ4.1 c_1
    refine ex_iconst (v := 0) dX0_intervalAt_27 (by decide) ?_
    exact hJ4 _ (by rw [if_pos c_1])
  · replace h := khJ4.2 c_1
    refine ex_iload_n dX0_intervalAt_4 rfl ?_
    refine ex_aload_n dX0_intervalAt_5 rfl ?_
    refine ex_getR (ci := 0) (j := 16) (v := m + 13) dX0_intervalAt_6 (mu_l hm 0 (by decide)) (mu_S0 hm) rfl lk_X0_52 (mu_F16 hm) (by omega) ?_
    refine ex_iload_n dX0_intervalAt_9 rfl ?_
    obtain ⟨b1, h⟩ := h
    refine ex_iald dX0_intervalAt_10 (mu_l hm 13 (by decide)) (mu_S13 hm) b1 ?_
    refine ex_icmp_ge (tgt := 27) dX0_intervalAt_11 (by decide) (fun c_11 => ?_) (fun c_11 => ?_)
    · replace h := h.1 c_11
      refine ex_iconst (v := 0) dX0_intervalAt_27 (by decide) ?_
      exact hJ4 _ (by rw [if_neg c_1, if_pos c_11])
    · replace h := h.2 c_11
      refine ex_aload_n dX0_intervalAt_14 rfl ?_
      refine ex_getR (ci := 0) (j := 17) (v := m + 14) dX0_intervalAt_15 (mu_l hm 0 (by decide)) (mu_S0 hm) rfl lk_X0_55 (mu_F17 hm) (by omega) ?_
      refine ex_iload_n dX0_intervalAt_18 rfl ?_
      refine ex_iconst (v := 4) dX0_intervalAt_19 (by decide) ?_
      refine ex_imul dX0_intervalAt_20 ?_
      refine ex_iload_n dX0_intervalAt_21 rfl ?_
      refine ex_iadd dX0_intervalAt_22 ?_
      obtain ⟨b2, h⟩ := h
      refine ex_iald dX0_intervalAt_23 (mu_l hm 14 (by decide)) (mu_S14 hm) b2 ?_
      refine ex_goto (tgt := 28) dX0_intervalAt_24 (by decide) ?_
      exact hJ4 _ (by rw [if_neg c_1, if_neg c_11])
def w_X0_intervalPitch (m : Nat) (p1 : Int32) (p2 : Int32) (p3 : Int32) (M : Mem) (Q : Int32 → Mem → Prop) : Prop := ((¬ (p3 = 2) → ((vp_in p1 600) ∧ (True))) ∧ ((p3 = 2) → ((vp_in p1 600) ∧ (True)))) ∧ (∀ z3 : Int32, z3 = (if p3 = 2 then (((M (m + 6) (Int32.toNatClampNeg p1)) + p2) - 1) else (((M (m + 6) (Int32.toNatClampNeg p1)) - p2) + 1)) → Q z3 M)
theorem t_X0_intervalPitch (m : Nat) (hm : MU m) (p1 : Int32) (p2 : Int32) (p3 : Int32) (M : Mem) (Q : Int32 → Mem → Prop) (h : w_X0_intervalPitch m p1 p2 p3 M Q) : Ex true mX0_intervalPitch 78 78 0 0 0 [.ref m, .int p1, .int p2, .int p3] [] M Q := by
  unfold w_X0_intervalPitch at h
  refine ex_iload_n dX0_intervalPitch_0 rfl ?_
  refine ex_iconst (v := 2) dX0_intervalPitch_1 (by decide) ?_
  obtain ⟨khJ4, h⟩ := h
  have hJ4 : ∀ z3 : Int32, z3 = (if p3 = 2 then (((M (m + 6) (Int32.toNatClampNeg p1)) + p2) - 1) else (((M (m + 6) (Int32.toNatClampNeg p1)) - p2) + 1)) → Ex true mX0_intervalPitch 78 78 0 0 28 [.ref m, .int p1, .int p2, .int p3] [.int z3] M Q := by
    intro z3 ez3
    replace h := h z3 ez3
    exact ex_iret dX0_intervalPitch_28 rfl rfl rfl h
  refine ex_icmp_ne (tgt := 18) dX0_intervalPitch_2 (by decide) (fun c_2 => ?_) (fun c_2 => ?_)
  · replace h := khJ4.1 c_2
    refine ex_aload_n dX0_intervalPitch_18 rfl ?_
    refine ex_getR (ci := 0) (j := 9) (v := m + 6) dX0_intervalPitch_19 (mu_l hm 0 (by decide)) (mu_S0 hm) rfl lk_X0_31 (mu_F9 hm) (by omega) ?_
    refine ex_iload_n dX0_intervalPitch_22 rfl ?_
    obtain ⟨b1, h⟩ := h
    refine ex_iald dX0_intervalPitch_23 (mu_l hm 6 (by decide)) (mu_S6 hm) b1 ?_
    refine ex_iload_n dX0_intervalPitch_24 rfl ?_
    refine ex_isub dX0_intervalPitch_25 ?_
    refine ex_iconst (v := 1) dX0_intervalPitch_26 (by decide) ?_
    refine ex_iadd dX0_intervalPitch_27 ?_
    exact hJ4 _ (by rw [if_neg c_2])
  · replace h := khJ4.2 c_2
    refine ex_aload_n dX0_intervalPitch_5 rfl ?_
    refine ex_getR (ci := 0) (j := 9) (v := m + 6) dX0_intervalPitch_6 (mu_l hm 0 (by decide)) (mu_S0 hm) rfl lk_X0_31 (mu_F9 hm) (by omega) ?_
    refine ex_iload_n dX0_intervalPitch_9 rfl ?_
    obtain ⟨b2, h⟩ := h
    refine ex_iald dX0_intervalPitch_10 (mu_l hm 6 (by decide)) (mu_S6 hm) b2 ?_
    refine ex_iload_n dX0_intervalPitch_11 rfl ?_
    refine ex_iadd dX0_intervalPitch_12 ?_
    refine ex_iconst (v := 1) dX0_intervalPitch_13 (by decide) ?_
    refine ex_isub dX0_intervalPitch_14 ?_
    refine ex_goto (tgt := 28) dX0_intervalPitch_15 (by decide) ?_
    exact hJ4 _ (by rw [if_pos c_2])
def wb_X0_suitsHand_12 (m : Nat) (Q : Int32 → Mem → Prop) (B2 : Int32 → Int32 → Mem → Prop) (B12 : Int32 → Int32 → Int32 → Mem → Prop) (l1 : Int32) (l2 : Int32) (l3 : Int32) (M : Mem) : Prop := (vp_in l2 600) ∧ ((((M (m + 13) (Int32.toNatClampNeg l2)) ≤ l3) → (∀ x2 : Int32, x2 = l2 + 1 → B2 l1 x2 M)) ∧ (¬ ((M (m + 13) (Int32.toNatClampNeg l2)) ≤ l3) → (w_X0_intervalAt m l2 l3 M (fun v3 M4 => w_X0_intervalPitch m l2 (v3 &&& 15) l1 M4 (fun v5 M6 => w_X6_isPitch v5 M6 (fun v7 M8 => (¬ (v7 = 0) → (∀ x9 : Int32, x9 = l3 + 1 → B12 l1 l2 x9 M8)) ∧ ((v7 = 0) → (Q 0 M8))))))))
def w_X0_suitsHand_12 (m : Nat) (Q : Int32 → Mem → Prop) (B2 : Int32 → Int32 → Mem → Prop) : Nat → Int32 → Int32 → Int32 → Mem → Prop
  | 0 => fun _ _ _ _ => False
  | k + 1 => wb_X0_suitsHand_12 m Q B2 (w_X0_suitsHand_12 m Q B2 k)
theorem t_X0_suitsHand_12 (m : Nat) (hm : MU m) (Q : Int32 → Mem → Prop) (B2 : Int32 → Int32 → Mem → Prop) (hB2 : ∀ (l1 : Int32) (l2 : Int32) (M : Mem), B2 l1 l2 M → Ex true mX0_suitsHand 78 78 0 0 2 [.ref m, .int l1, .int l2, .null] [] M Q) : ∀ (k : Nat) (l1 : Int32) (l2 : Int32) (l3 : Int32) (M : Mem), w_X0_suitsHand_12 m Q B2 k l1 l2 l3 M → Ex true mX0_suitsHand 78 78 0 0 12 [.ref m, .int l1, .int l2, .int l3] [] M Q := by
  intro k
  induction k with
  | zero => intro l1 l2 l3 M h; exact False.elim h
  | succ k hB12 =>
    intro l1 l2 l3 M h
    replace h : wb_X0_suitsHand_12 m Q B2 (w_X0_suitsHand_12 m Q B2 k) l1 l2 l3 M := h
    generalize w_X0_suitsHand_12 m Q B2 k = B12 at hB12 h
    unfold wb_X0_suitsHand_12 at h
    refine ex_iload_n dX0_suitsHand_12 rfl ?_
    refine ex_aload_n dX0_suitsHand_13 rfl ?_
    refine ex_getR (ci := 0) (j := 16) (v := m + 13) dX0_suitsHand_14 (mu_l hm 0 (by decide)) (mu_S0 hm) rfl lk_X0_52 (mu_F16 hm) (by omega) ?_
    refine ex_iload_n dX0_suitsHand_17 rfl ?_
    obtain ⟨b1, h⟩ := h
    refine ex_iald dX0_suitsHand_18 (mu_l hm 13 (by decide)) (mu_S13 hm) b1 ?_
    refine ex_icmp_ge (tgt := 51) dX0_suitsHand_19 (by decide) (fun c_19 => ?_) (fun c_19 => ?_)
    · replace h := h.1 c_19
      refine ex_iinc (v := l2 + 1) (L2 := [.ref m, .int l1, .int (l2 + 1), .int l3]) dX0_suitsHand_51 rfl rfl (by decide) rfl rfl ?_
      obtain ⟨x2, ex2⟩ : ∃ x2 : Int32, x2 = l2 + 1 := ⟨_, rfl⟩
      rw [← ex2]
      replace h := h x2 ex2
      refine ex_goto (tgt := 2) dX0_suitsHand_54 (by decide) ?_
      refine ex_less (L2 := [.ref m, .int l1, .int x2, .null]) ?_ (by intro i v hi hn; match i, hi with | 0, hi => exact hi | 1, hi => exact hi | 2, hi => exact hi | 3, hi => (cases hi; cases hn) | k + 4, hi => (exact absurd hi (by simp)))
      exact hB2 l1 x2 M h
    · replace h := h.2 c_19
      refine ex_aload_n dX0_suitsHand_22 rfl ?_
      refine ex_iload_n dX0_suitsHand_23 rfl ?_
      refine ex_aload_n dX0_suitsHand_24 rfl ?_
      refine ex_iload_n dX0_suitsHand_25 rfl ?_
      refine ex_iload_n dX0_suitsHand_26 rfl ?_
      refine ex_invV (k := m) (ci := 0) (as := [.int l2, .int l3]) (L2 := [.ref m, .int l2, .int l3]) (st := [.int l2, .ref m]) 0 0 dX0_suitsHand_27 lk_X0_75 sl_X0_intervalAt (rmK_of rfl) (mu_l hm 0 (by decide)) (mu_S0 hm) ⟨by decide, rfl⟩ rfl (Nat.le_of_ble_eq_true rfl) (Nat.le_of_ble_eq_true rfl) (t_X0_intervalAt m hm l2 l3 M _ h) (fun v3 M4 h => ?_)
      show Ex true mX0_suitsHand 78 78 0 0 30 [.ref m, .int l1, .int l2, .int l3] [.int v3, .int l2, .ref m] M4 Q
      refine ex_bipush (v := 15) dX0_suitsHand_30 (by decide) ?_
      refine ex_iand dX0_suitsHand_32 ?_
      refine ex_iload_n dX0_suitsHand_33 rfl ?_
      refine ex_invV (k := m) (ci := 0) (as := [.int l2, .int (v3 &&& 15), .int l1]) (L2 := [.ref m, .int l2, .int (v3 &&& 15), .int l1]) (st := []) 0 0 dX0_suitsHand_34 lk_X0_79 sl_X0_intervalPitch (rmK_of rfl) (mu_l hm 0 (by decide)) (mu_S0 hm) ⟨by decide, rfl⟩ rfl (Nat.le_of_ble_eq_true rfl) (Nat.le_of_ble_eq_true rfl) (t_X0_intervalPitch m hm l2 (v3 &&& 15) l1 M4 _ h) (fun v5 M6 h => ?_)
      show Ex true mX0_suitsHand 78 78 0 0 37 [.ref m, .int l1, .int l2, .int l3] [.int v5] M6 Q
      refine ex_invS (as := [.int v5]) (L2 := [.int v5]) (st := []) 0 0 dX0_suitsHand_37 lk_X0_83 sl_X6_isPitch (rmK_of rfl) rfl (Nat.le_of_ble_eq_true rfl) (Nat.le_of_ble_eq_true rfl) (t_X6_isPitch   v5 M6 _ h) (fun v7 M8 h => ?_)
      show Ex true mX0_suitsHand 78 78 0 0 40 [.ref m, .int l1, .int l2, .int l3] [.int v7] M8 Q
      refine ex_if_ne (tgt := 45) dX0_suitsHand_40 (by decide) (fun c_40 => ?_) (fun c_40 => ?_)
      · replace h := h.1 c_40
        refine ex_iinc (v := l3 + 1) (L2 := [.ref m, .int l1, .int l2, .int (l3 + 1)]) dX0_suitsHand_45 rfl rfl (by decide) rfl rfl ?_
        obtain ⟨x9, ex9⟩ : ∃ x9 : Int32, x9 = l3 + 1 := ⟨_, rfl⟩
        rw [← ex9]
        replace h := h x9 ex9
        refine ex_goto (tgt := 12) dX0_suitsHand_48 (by decide) ?_
        exact hB12 l1 l2 x9 M8 h
      · replace h := h.2 c_40
        refine ex_iconst (v := 0) dX0_suitsHand_43 (by decide) ?_
        exact ex_iret dX0_suitsHand_44 rfl rfl rfl h
def wb_X0_suitsHand_2 (m : Nat) (Q : Int32 → Mem → Prop) (B2 : Int32 → Int32 → Mem → Prop) (l1 : Int32) (l2 : Int32) (M : Mem) : Prop := (((M m 3) ≤ l2) → (Q 1 M)) ∧ (¬ ((M m 3) ≤ l2) → (∃ k, w_X0_suitsHand_12 m Q B2 k l1 l2 0 M))
def w_X0_suitsHand_2 (m : Nat) (Q : Int32 → Mem → Prop) : Nat → Int32 → Int32 → Mem → Prop
  | 0 => fun _ _ _ => False
  | k + 1 => wb_X0_suitsHand_2 m Q  (w_X0_suitsHand_2 m Q  k)
theorem t_X0_suitsHand_2 (m : Nat) (hm : MU m) (Q : Int32 → Mem → Prop) : ∀ (k : Nat) (l1 : Int32) (l2 : Int32) (M : Mem), w_X0_suitsHand_2 m Q  k l1 l2 M → Ex true mX0_suitsHand 78 78 0 0 2 [.ref m, .int l1, .int l2, .null] [] M Q := by
  intro k
  induction k with
  | zero => intro l1 l2 M h; exact False.elim h
  | succ k hB2 =>
    intro l1 l2 M h
    replace h : wb_X0_suitsHand_2 m Q  (w_X0_suitsHand_2 m Q  k) l1 l2 M := h
    generalize w_X0_suitsHand_2 m Q  k = B2 at hB2 h
    unfold wb_X0_suitsHand_2 at h
    refine ex_iload_n dX0_suitsHand_2 rfl ?_
    refine ex_aload_n dX0_suitsHand_3 rfl ?_
    refine ex_getI (ci := 0) (j := 3) dX0_suitsHand_4 (mu_l hm 0 (by decide)) (mu_S0 hm) rfl lk_X0_64 ?_
    refine ex_icmp_ge (tgt := 57) dX0_suitsHand_7 (by decide) (fun c_7 => ?_) (fun c_7 => ?_)
    · replace h := h.1 c_7
      refine ex_iconst (v := 1) dX0_suitsHand_57 (by decide) ?_
      exact ex_iret dX0_suitsHand_58 rfl rfl rfl h
    · replace h := h.2 c_7
      refine ex_iconst (v := 0) dX0_suitsHand_10 (by decide) ?_
      refine ex_istore_n (L2 := [.ref m, .int l1, .int l2, .int 0]) dX0_suitsHand_11 (by decide) rfl rfl ?_
      obtain ⟨k_, h⟩ := h
      exact t_X0_suitsHand_12 m hm  Q B2 hB2 k_ l1 l2 0 M h
def w_X0_suitsHand (m : Nat) (p1 : Int32) (M : Mem) (Q : Int32 → Mem → Prop) : Prop := ∃ k, w_X0_suitsHand_2 m Q  k p1 0 M
theorem t_X0_suitsHand (m : Nat) (hm : MU m) (p1 : Int32) (M : Mem) (Q : Int32 → Mem → Prop) (h : w_X0_suitsHand m p1 M Q) : Ex true mX0_suitsHand 78 78 0 0 0 [.ref m, .int p1, .null, .null] [] M Q := by
  unfold w_X0_suitsHand at h
  refine ex_iconst (v := 0) dX0_suitsHand_0 (by decide) ?_
  refine ex_istore_n (L2 := [.ref m, .int p1, .int 0, .null]) dX0_suitsHand_1 (by decide) rfl rfl ?_
  obtain ⟨k_, h⟩ := h
  exact t_X0_suitsHand_2 m hm  Q   k_ p1 0 M h
def w_X0_isNote (m : Nat) (p1 : Int32) (M : Mem) (Q : Int32 → Mem → Prop) : Prop := (vp_in p1 600) ∧ (∀ z2 : Int32, z2 = (if (M (m + 6) (Int32.toNatClampNeg p1)) = 0 then 0 else 1) → (z2 = 0 ∨ z2 = 1) ∧ (Q z2 M))
theorem t_X0_isNote (m : Nat) (hm : MU m) (p1 : Int32) (M : Mem) (Q : Int32 → Mem → Prop) (h : w_X0_isNote m p1 M Q) : Ex true mX0_isNote 78 78 0 0 0 [.ref m, .int p1] [] M Q := by
  unfold w_X0_isNote at h
  refine ex_aload_n dX0_isNote_0 rfl ?_
  refine ex_getR (ci := 0) (j := 9) (v := m + 6) dX0_isNote_1 (mu_l hm 0 (by decide)) (mu_S0 hm) rfl lk_X0_31 (mu_F9 hm) (by omega) ?_
  refine ex_iload_n dX0_isNote_4 rfl ?_
  obtain ⟨b1, h⟩ := h
  refine ex_iald dX0_isNote_5 (mu_l hm 6 (by decide)) (mu_S6 hm) b1 ?_
  have hJ4 : ∀ z2 : Int32, z2 = (if (M (m + 6) (Int32.toNatClampNeg p1)) = 0 then 0 else 1) → Ex true mX0_isNote 78 78 0 0 14 [.ref m, .int p1] [.int z2] M Q := by
    intro z2 ez2
    replace h := h z2 ez2
    obtain ⟨b3, h⟩ := h
    exact ex_iret dX0_isNote_14 rfl (nr01 b3) rfl h
  refine ex_if_eq (tgt := 13) dX0_isNote_6 (by decide) (fun c_6 => ?_) (fun c_6 => ?_)
  ·
    refine ex_iconst (v := 0) dX0_isNote_13 (by decide) ?_
    exact hJ4 _ (by rw [if_pos c_6])
  ·
    refine ex_iconst (v := 1) dX0_isNote_9 (by decide) ?_
    refine ex_goto (tgt := 14) dX0_isNote_10 (by decide) ?_
    exact hJ4 _ (by rw [if_neg c_6])
def w_X0_lasts (m : Nat) (p1 : Int32) (M : Mem) (Q : Int32 → Mem → Prop) : Prop := (vp_in p1 600) ∧ ((¬ ((M (m + 9) (Int32.toNatClampNeg p1)) = 2) → ((vp_in p1 600) ∧ ((vp_in p1 600) ∧ ((vp_in p1 600) ∧ (w_X6_lengthOf (M (m + 8) (Int32.toNatClampNeg p1)) (M (m + 9) (Int32.toNatClampNeg p1)) (M (m + 10) (Int32.toNatClampNeg p1)) M (fun v5 M6 => Q v5 M6)))))) ∧ (((M (m + 9) (Int32.toNatClampNeg p1)) = 2) → (Q (M m 0) M)))
theorem t_X0_lasts (m : Nat) (hm : MU m) (p1 : Int32) (M : Mem) (Q : Int32 → Mem → Prop) (h : w_X0_lasts m p1 M Q) : Ex true mX0_lasts 78 78 0 0 0 [.ref m, .int p1] [] M Q := by
  unfold w_X0_lasts at h
  refine ex_aload_n dX0_lasts_0 rfl ?_
  refine ex_getR (ci := 0) (j := 12) (v := m + 9) dX0_lasts_1 (mu_l hm 0 (by decide)) (mu_S0 hm) rfl lk_X0_40 (mu_F12 hm) (by omega) ?_
  refine ex_iload_n dX0_lasts_4 rfl ?_
  obtain ⟨b1, h⟩ := h
  refine ex_iald dX0_lasts_5 (mu_l hm 9 (by decide)) (mu_S9 hm) b1 ?_
  refine ex_iconst (v := 2) dX0_lasts_6 (by decide) ?_
  refine ex_icmp_ne (tgt := 17) dX0_lasts_7 (by decide) (fun c_7 => ?_) (fun c_7 => ?_)
  · replace h := h.1 c_7
    refine ex_aload_n dX0_lasts_17 rfl ?_
    refine ex_getR (ci := 0) (j := 11) (v := m + 8) dX0_lasts_18 (mu_l hm 0 (by decide)) (mu_S0 hm) rfl lk_X0_37 (mu_F11 hm) (by omega) ?_
    refine ex_iload_n dX0_lasts_21 rfl ?_
    obtain ⟨b2, h⟩ := h
    refine ex_iald dX0_lasts_22 (mu_l hm 8 (by decide)) (mu_S8 hm) b2 ?_
    refine ex_aload_n dX0_lasts_23 rfl ?_
    refine ex_getR (ci := 0) (j := 12) (v := m + 9) dX0_lasts_24 (mu_l hm 0 (by decide)) (mu_S0 hm) rfl lk_X0_40 (mu_F12 hm) (by omega) ?_
    refine ex_iload_n dX0_lasts_27 rfl ?_
    obtain ⟨b3, h⟩ := h
    refine ex_iald dX0_lasts_28 (mu_l hm 9 (by decide)) (mu_S9 hm) b3 ?_
    refine ex_aload_n dX0_lasts_29 rfl ?_
    refine ex_getR (ci := 0) (j := 13) (v := m + 10) dX0_lasts_30 (mu_l hm 0 (by decide)) (mu_S0 hm) rfl lk_X0_43 (mu_F13 hm) (by omega) ?_
    refine ex_iload_n dX0_lasts_33 rfl ?_
    obtain ⟨b4, h⟩ := h
    refine ex_iald dX0_lasts_34 (mu_l hm 10 (by decide)) (mu_S10 hm) b4 ?_
    refine ex_invS (as := [.int (M (m + 8) (Int32.toNatClampNeg p1)), .int (M (m + 9) (Int32.toNatClampNeg p1)), .int (M (m + 10) (Int32.toNatClampNeg p1))]) (L2 := [.int (M (m + 8) (Int32.toNatClampNeg p1)), .int (M (m + 9) (Int32.toNatClampNeg p1)), .int (M (m + 10) (Int32.toNatClampNeg p1))]) (st := []) 0 0 dX0_lasts_35 lk_X0_87 sl_X6_lengthOf (rmK_of rfl) rfl (Nat.le_of_ble_eq_true rfl) (Nat.le_of_ble_eq_true rfl) (t_X6_lengthOf   (M (m + 8) (Int32.toNatClampNeg p1)) (M (m + 9) (Int32.toNatClampNeg p1)) (M (m + 10) (Int32.toNatClampNeg p1)) M _ h) (fun v5 M6 h => ?_)
    show Ex true mX0_lasts 78 78 0 0 38 [.ref m, .int p1] [.int v5] M6 Q
    exact ex_iret dX0_lasts_38 rfl rfl rfl h
  · replace h := h.2 c_7
    refine ex_aload_n dX0_lasts_10 rfl ?_
    refine ex_getI (ci := 0) (j := 0) dX0_lasts_11 (mu_l hm 0 (by decide)) (mu_S0 hm) rfl lk_X0_9 ?_
    refine ex_goto (tgt := 38) dX0_lasts_14 (by decide) ?_
    exact ex_iret dX0_lasts_38 rfl rfl rfl h
def wb_X0_voiceLasts_9 (m : Nat) (Q : Int32 → Mem → Prop) (B9 : Int32 → Int32 → Int32 → Mem → Prop) (l1 : Int32) (l2 : Int32) (l3 : Int32) (M : Mem) : Prop := (vp_in l1 180) ∧ ((vp_in l1 180) ∧ (((((M (m + 2) (Int32.toNatClampNeg l1)) + (M (m + 3) (Int32.toNatClampNeg l1))) ≤ l3) → (Q l2 M)) ∧ (¬ (((M (m + 2) (Int32.toNatClampNeg l1)) + (M (m + 3) (Int32.toNatClampNeg l1))) ≤ l3) → (w_X0_lasts m l3 M (fun v5 M6 => ∀ x7 : Int32, x7 = (l2 + v5) → ∀ x8 : Int32, x8 = l3 + 1 → B9 l1 x7 x8 M6)))))
def w_X0_voiceLasts_9 (m : Nat) (Q : Int32 → Mem → Prop) : Nat → Int32 → Int32 → Int32 → Mem → Prop
  | 0 => fun _ _ _ _ => False
  | k + 1 => wb_X0_voiceLasts_9 m Q  (w_X0_voiceLasts_9 m Q  k)
theorem t_X0_voiceLasts_9 (m : Nat) (hm : MU m) (Q : Int32 → Mem → Prop) : ∀ (k : Nat) (l1 : Int32) (l2 : Int32) (l3 : Int32) (M : Mem), w_X0_voiceLasts_9 m Q  k l1 l2 l3 M → Ex true mX0_voiceLasts 78 78 0 0 9 [.ref m, .int l1, .int l2, .int l3] [] M Q := by
  intro k
  induction k with
  | zero => intro l1 l2 l3 M h; exact False.elim h
  | succ k hB9 =>
    intro l1 l2 l3 M h
    replace h : wb_X0_voiceLasts_9 m Q  (w_X0_voiceLasts_9 m Q  k) l1 l2 l3 M := h
    generalize w_X0_voiceLasts_9 m Q  k = B9 at hB9 h
    unfold wb_X0_voiceLasts_9 at h
    refine ex_iload_n dX0_voiceLasts_9 rfl ?_
    refine ex_aload_n dX0_voiceLasts_10 rfl ?_
    refine ex_getR (ci := 0) (j := 5) (v := m + 2) dX0_voiceLasts_11 (mu_l hm 0 (by decide)) (mu_S0 hm) rfl lk_X0_19 (mu_F5 hm) (by omega) ?_
    refine ex_iload_n dX0_voiceLasts_14 rfl ?_
    obtain ⟨b3, h⟩ := h
    refine ex_iald dX0_voiceLasts_15 (mu_l hm 2 (by decide)) (mu_S2 hm) b3 ?_
    refine ex_aload_n dX0_voiceLasts_16 rfl ?_
    refine ex_getR (ci := 0) (j := 6) (v := m + 3) dX0_voiceLasts_17 (mu_l hm 0 (by decide)) (mu_S0 hm) rfl lk_X0_22 (mu_F6 hm) (by omega) ?_
    refine ex_iload_n dX0_voiceLasts_20 rfl ?_
    obtain ⟨b4, h⟩ := h
    refine ex_iald dX0_voiceLasts_21 (mu_l hm 3 (by decide)) (mu_S3 hm) b4 ?_
    refine ex_iadd dX0_voiceLasts_22 ?_
    refine ex_icmp_ge (tgt := 40) dX0_voiceLasts_23 (by decide) (fun c_23 => ?_) (fun c_23 => ?_)
    · replace h := h.1 c_23
      refine ex_iload_n dX0_voiceLasts_40 rfl ?_
      exact ex_iret dX0_voiceLasts_41 rfl rfl rfl h
    · replace h := h.2 c_23
      refine ex_iload_n dX0_voiceLasts_26 rfl ?_
      refine ex_aload_n dX0_voiceLasts_27 rfl ?_
      refine ex_iload_n dX0_voiceLasts_28 rfl ?_
      refine ex_invV (k := m) (ci := 0) (as := [.int l3]) (L2 := [.ref m, .int l3]) (st := [.int l2]) 0 0 dX0_voiceLasts_29 lk_X0_90 sl_X0_lasts (rmK_of rfl) (mu_l hm 0 (by decide)) (mu_S0 hm) ⟨by decide, rfl⟩ rfl (Nat.le_of_ble_eq_true rfl) (Nat.le_of_ble_eq_true rfl) (t_X0_lasts m hm l3 M _ h) (fun v5 M6 h => ?_)
      show Ex true mX0_voiceLasts 78 78 0 0 32 [.ref m, .int l1, .int l2, .int l3] [.int v5, .int l2] M6 Q
      refine ex_iadd dX0_voiceLasts_32 ?_
      refine ex_top (fun x7 ex7 => ?_)
      replace h := h x7 ex7
      refine ex_istore_n (L2 := [.ref m, .int l1, .int x7, .int l3]) dX0_voiceLasts_33 (by decide) rfl rfl ?_
      refine ex_iinc (v := l3 + 1) (L2 := [.ref m, .int l1, .int x7, .int (l3 + 1)]) dX0_voiceLasts_34 rfl rfl (by decide) rfl rfl ?_
      obtain ⟨x8, ex8⟩ : ∃ x8 : Int32, x8 = l3 + 1 := ⟨_, rfl⟩
      rw [← ex8]
      replace h := h x8 ex8
      refine ex_goto (tgt := 9) dX0_voiceLasts_37 (by decide) ?_
      exact hB9 l1 x7 x8 M6 h
def w_X0_voiceLasts (m : Nat) (p1 : Int32) (M : Mem) (Q : Int32 → Mem → Prop) : Prop := (vp_in p1 180) ∧ (∀ x2 : Int32, x2 = (M (m + 2) (Int32.toNatClampNeg p1)) → ∃ k, w_X0_voiceLasts_9 m Q  k p1 0 x2 M)
theorem t_X0_voiceLasts (m : Nat) (hm : MU m) (p1 : Int32) (M : Mem) (Q : Int32 → Mem → Prop) (h : w_X0_voiceLasts m p1 M Q) : Ex true mX0_voiceLasts 78 78 0 0 0 [.ref m, .int p1, .null, .null] [] M Q := by
  unfold w_X0_voiceLasts at h
  refine ex_iconst (v := 0) dX0_voiceLasts_0 (by decide) ?_
  refine ex_istore_n (L2 := [.ref m, .int p1, .int 0, .null]) dX0_voiceLasts_1 (by decide) rfl rfl ?_
  refine ex_aload_n dX0_voiceLasts_2 rfl ?_
  refine ex_getR (ci := 0) (j := 5) (v := m + 2) dX0_voiceLasts_3 (mu_l hm 0 (by decide)) (mu_S0 hm) rfl lk_X0_19 (mu_F5 hm) (by omega) ?_
  refine ex_iload_n dX0_voiceLasts_6 rfl ?_
  obtain ⟨b1, h⟩ := h
  refine ex_iald dX0_voiceLasts_7 (mu_l hm 2 (by decide)) (mu_S2 hm) b1 ?_
  refine ex_top (fun x2 ex2 => ?_)
  replace h := h x2 ex2
  refine ex_istore_n (L2 := [.ref m, .int p1, .int 0, .int x2]) dX0_voiceLasts_8 (by decide) rfl rfl ?_
  obtain ⟨k_, h⟩ := h
  exact t_X0_voiceLasts_9 m hm  Q   k_ p1 0 x2 M h
def w_X0_isWhole (m : Nat) (p1 : Int32) (M : Mem) (Q : Int32 → Mem → Prop) : Prop := w_X0_voiceLasts m p1 M (fun v1 M2 => ∀ z3 : Int32, z3 = (if v1 = (M2 m 0) then 1 else 0) → (z3 = 0 ∨ z3 = 1) ∧ (Q z3 M2))
theorem t_X0_isWhole (m : Nat) (hm : MU m) (p1 : Int32) (M : Mem) (Q : Int32 → Mem → Prop) (h : w_X0_isWhole m p1 M Q) : Ex true mX0_isWhole 78 78 0 0 0 [.ref m, .int p1] [] M Q := by
  unfold w_X0_isWhole at h
  refine ex_aload_n dX0_isWhole_0 rfl ?_
  refine ex_iload_n dX0_isWhole_1 rfl ?_
  refine ex_invV (k := m) (ci := 0) (as := [.int p1]) (L2 := [.ref m, .int p1, .null, .null]) (st := []) 0 0 dX0_isWhole_2 lk_X0_94 sl_X0_voiceLasts (rmK_of rfl) (mu_l hm 0 (by decide)) (mu_S0 hm) ⟨by decide, rfl⟩ rfl (Nat.le_of_ble_eq_true rfl) (Nat.le_of_ble_eq_true rfl) (t_X0_voiceLasts m hm p1 M _ h) (fun v1 M2 h => ?_)
  show Ex true mX0_isWhole 78 78 0 0 5 [.ref m, .int p1] [.int v1] M2 Q
  refine ex_aload_n dX0_isWhole_5 rfl ?_
  refine ex_getI (ci := 0) (j := 0) dX0_isWhole_6 (mu_l hm 0 (by decide)) (mu_S0 hm) rfl lk_X0_9 ?_
  have hJ5 : ∀ z3 : Int32, z3 = (if v1 = (M2 m 0) then 1 else 0) → Ex true mX0_isWhole 78 78 0 0 17 [.ref m, .int p1] [.int z3] M2 Q := by
    intro z3 ez3
    replace h := h z3 ez3
    obtain ⟨b4, h⟩ := h
    exact ex_iret dX0_isWhole_17 rfl (nr01 b4) rfl h
  refine ex_icmp_ne (tgt := 16) dX0_isWhole_9 (by decide) (fun c_9 => ?_) (fun c_9 => ?_)
  ·
    refine ex_iconst (v := 0) dX0_isWhole_16 (by decide) ?_
    exact hJ5 _ (by rw [if_neg c_9])
  ·
    refine ex_iconst (v := 1) dX0_isWhole_12 (by decide) ?_
    refine ex_goto (tgt := 17) dX0_isWhole_13 (by decide) ?_
    exact hJ5 _ (by rw [if_pos c_9])
def w_X0_endsWhole (m : Nat) (M : Mem) (Q : Int32 → Mem → Prop) : Prop := w_X0_lastSlot m M (fun v1 M2 => ((v1 < 0) → (Q 1 M2)) ∧ (¬ (v1 < 0) → (w_X0_isWhole m v1 M2 (fun v3 M4 => ∀ z5 : Int32, z5 = (if v3 = 0 then 0 else 1) → (z5 = 0 ∨ z5 = 1) ∧ (Q z5 M4)))))
theorem t_X0_endsWhole (m : Nat) (hm : MU m) (M : Mem) (Q : Int32 → Mem → Prop) (h : w_X0_endsWhole m  M Q) : Ex true mX0_endsWhole 78 78 0 0 0 [.ref m, .null] [] M Q := by
  unfold w_X0_endsWhole at h
  refine ex_aload_n dX0_endsWhole_0 rfl ?_
  refine ex_invV (k := m) (ci := 0) (as := []) (L2 := [.ref m, .null]) (st := []) 0 0 dX0_endsWhole_1 lk_X0_71 sl_X0_lastSlot (rmK_of rfl) (mu_l hm 0 (by decide)) (mu_S0 hm) ⟨by decide, rfl⟩ rfl (Nat.le_of_ble_eq_true rfl) (Nat.le_of_ble_eq_true rfl) (t_X0_lastSlot m hm M _ h) (fun v1 M2 h => ?_)
  show Ex true mX0_endsWhole 78 78 0 0 4 [.ref m, .null] [.int v1] M2 Q
  refine ex_istore_n (L2 := [.ref m, .int v1]) dX0_endsWhole_4 (by decide) rfl rfl ?_
  refine ex_iload_n dX0_endsWhole_5 rfl ?_
  refine ex_if_lt (tgt := 17) dX0_endsWhole_6 (by decide) (fun c_6 => ?_) (fun c_6 => ?_)
  · replace h := h.1 c_6
    refine ex_iconst (v := 1) dX0_endsWhole_17 (by decide) ?_
    refine ex_goto (tgt := 22) dX0_endsWhole_18 (by decide) ?_
    exact ex_iret dX0_endsWhole_22 rfl rfl rfl h
  · replace h := h.2 c_6
    refine ex_aload_n dX0_endsWhole_9 rfl ?_
    refine ex_iload_n dX0_endsWhole_10 rfl ?_
    refine ex_invV (k := m) (ci := 0) (as := [.int v1]) (L2 := [.ref m, .int v1]) (st := []) 0 0 dX0_endsWhole_11 lk_X0_97 sl_X0_isWhole (rmK_of rfl) (mu_l hm 0 (by decide)) (mu_S0 hm) ⟨by decide, rfl⟩ rfl (Nat.le_of_ble_eq_true rfl) (Nat.le_of_ble_eq_true rfl) (t_X0_isWhole m hm v1 M2 _ h) (fun v3 M4 h => ?_)
    show Ex true mX0_endsWhole 78 78 0 0 14 [.ref m, .int v1] [.int v3] M4 Q
    have hJ7 : ∀ z5 : Int32, z5 = (if v3 = 0 then 0 else 1) → Ex true mX0_endsWhole 78 78 0 0 22 [.ref m, .int v1] [.int z5] M4 Q := by
      intro z5 ez5
      replace h := h z5 ez5
      obtain ⟨b6, h⟩ := h
      exact ex_iret dX0_endsWhole_22 rfl (nr01 b6) rfl h
    refine ex_if_eq (tgt := 21) dX0_endsWhole_14 (by decide) (fun c_14 => ?_) (fun c_14 => ?_)
    ·
      refine ex_iconst (v := 0) dX0_endsWhole_21 (by decide) ?_
      exact hJ7 _ (by rw [if_pos c_14])
    ·
      refine ex_iconst (v := 1) dX0_endsWhole_17 (by decide) ?_
      refine ex_goto (tgt := 22) dX0_endsWhole_18 (by decide) ?_
      exact hJ7 _ (by rw [if_neg c_14])
def wb_X0_itemsOfBar_4 (m : Nat) (Q : Int32 → Mem → Prop) (B4 : Int32 → Int32 → Int32 → Mem → Prop) (l1 : Int32) (l2 : Int32) (l3 : Int32) (M : Mem) : Prop := (vp_in l1 60) ∧ ((((M (m + 1) (Int32.toNatClampNeg l1)) ≤ l3) → (Q l2 M)) ∧ (¬ ((M (m + 1) (Int32.toNatClampNeg l1)) ≤ l3) → ((vp_in ((l1 * 3) + l3) 180) ∧ (∀ x3 : Int32, x3 = (l2 + (M (m + 3) (Int32.toNatClampNeg ((l1 * 3) + l3)))) → ∀ x4 : Int32, x4 = l3 + 1 → B4 l1 x3 x4 M))))
def w_X0_itemsOfBar_4 (m : Nat) (Q : Int32 → Mem → Prop) : Nat → Int32 → Int32 → Int32 → Mem → Prop
  | 0 => fun _ _ _ _ => False
  | k + 1 => wb_X0_itemsOfBar_4 m Q  (w_X0_itemsOfBar_4 m Q  k)
theorem t_X0_itemsOfBar_4 (m : Nat) (hm : MU m) (Q : Int32 → Mem → Prop) : ∀ (k : Nat) (l1 : Int32) (l2 : Int32) (l3 : Int32) (M : Mem), w_X0_itemsOfBar_4 m Q  k l1 l2 l3 M → Ex true mX0_itemsOfBar 78 78 0 0 4 [.ref m, .int l1, .int l2, .int l3] [] M Q := by
  intro k
  induction k with
  | zero => intro l1 l2 l3 M h; exact False.elim h
  | succ k hB4 =>
    intro l1 l2 l3 M h
    replace h : wb_X0_itemsOfBar_4 m Q  (w_X0_itemsOfBar_4 m Q  k) l1 l2 l3 M := h
    generalize w_X0_itemsOfBar_4 m Q  k = B4 at hB4 h
    unfold wb_X0_itemsOfBar_4 at h
    refine ex_iload_n dX0_itemsOfBar_4 rfl ?_
    refine ex_aload_n dX0_itemsOfBar_5 rfl ?_
    refine ex_getR (ci := 0) (j := 4) (v := m + 1) dX0_itemsOfBar_6 (mu_l hm 0 (by decide)) (mu_S0 hm) rfl lk_X0_15 (mu_F4 hm) (by omega) ?_
    refine ex_iload_n dX0_itemsOfBar_9 rfl ?_
    obtain ⟨b1, h⟩ := h
    refine ex_iald dX0_itemsOfBar_10 (mu_l hm 1 (by decide)) (mu_S1 hm) b1 ?_
    refine ex_icmp_ge (tgt := 33) dX0_itemsOfBar_11 (by decide) (fun c_11 => ?_) (fun c_11 => ?_)
    · replace h := h.1 c_11
      refine ex_iload_n dX0_itemsOfBar_33 rfl ?_
      exact ex_iret dX0_itemsOfBar_34 rfl rfl rfl h
    · replace h := h.2 c_11
      refine ex_iload_n dX0_itemsOfBar_14 rfl ?_
      refine ex_aload_n dX0_itemsOfBar_15 rfl ?_
      refine ex_getR (ci := 0) (j := 6) (v := m + 3) dX0_itemsOfBar_16 (mu_l hm 0 (by decide)) (mu_S0 hm) rfl lk_X0_22 (mu_F6 hm) (by omega) ?_
      refine ex_iload_n dX0_itemsOfBar_19 rfl ?_
      refine ex_iconst (v := 3) dX0_itemsOfBar_20 (by decide) ?_
      refine ex_imul dX0_itemsOfBar_21 ?_
      refine ex_iload_n dX0_itemsOfBar_22 rfl ?_
      refine ex_iadd dX0_itemsOfBar_23 ?_
      obtain ⟨b2, h⟩ := h
      refine ex_iald dX0_itemsOfBar_24 (mu_l hm 3 (by decide)) (mu_S3 hm) b2 ?_
      refine ex_iadd dX0_itemsOfBar_25 ?_
      refine ex_top (fun x3 ex3 => ?_)
      replace h := h x3 ex3
      refine ex_istore_n (L2 := [.ref m, .int l1, .int x3, .int l3]) dX0_itemsOfBar_26 (by decide) rfl rfl ?_
      refine ex_iinc (v := l3 + 1) (L2 := [.ref m, .int l1, .int x3, .int (l3 + 1)]) dX0_itemsOfBar_27 rfl rfl (by decide) rfl rfl ?_
      obtain ⟨x4, ex4⟩ : ∃ x4 : Int32, x4 = l3 + 1 := ⟨_, rfl⟩
      rw [← ex4]
      replace h := h x4 ex4
      refine ex_goto (tgt := 4) dX0_itemsOfBar_30 (by decide) ?_
      exact hB4 l1 x3 x4 M h
def w_X0_itemsOfBar (m : Nat) (p1 : Int32) (M : Mem) (Q : Int32 → Mem → Prop) : Prop := ∃ k, w_X0_itemsOfBar_4 m Q  k p1 0 0 M
theorem t_X0_itemsOfBar (m : Nat) (hm : MU m) (p1 : Int32) (M : Mem) (Q : Int32 → Mem → Prop) (h : w_X0_itemsOfBar m p1 M Q) : Ex true mX0_itemsOfBar 78 78 0 0 0 [.ref m, .int p1, .null, .null] [] M Q := by
  unfold w_X0_itemsOfBar at h
  refine ex_iconst (v := 0) dX0_itemsOfBar_0 (by decide) ?_
  refine ex_istore_n (L2 := [.ref m, .int p1, .int 0, .null]) dX0_itemsOfBar_1 (by decide) rfl rfl ?_
  refine ex_iconst (v := 0) dX0_itemsOfBar_2 (by decide) ?_
  refine ex_istore_n (L2 := [.ref m, .int p1, .int 0, .int 0]) dX0_itemsOfBar_3 (by decide) rfl rfl ?_
  obtain ⟨k_, h⟩ := h
  exact t_X0_itemsOfBar_4 m hm  Q   k_ p1 0 0 M h
def w_X0_isLoneWholeRest (m : Nat) (p1 : Int32) (M : Mem) (Q : Int32 → Mem → Prop) : Prop := (vp_in p1 180) ∧ (∀ x2 : Int32, x2 = (M (m + 2) (Int32.toNatClampNeg p1)) → (vp_in p1 180) ∧ ((¬ ((M (m + 3) (Int32.toNatClampNeg p1)) = 1) → (Q 0 M)) ∧ (((M (m + 3) (Int32.toNatClampNeg p1)) = 1) → (w_X0_isNote m x2 M (fun v4 M5 => ((¬ (v4 = 0) → (True)) ∧ ((v4 = 0) → ((vp_in x2 600) ∧ ((¬ ((M5 (m + 8) (Int32.toNatClampNeg x2)) = 0) → (True)) ∧ (((M5 (m + 8) (Int32.toNatClampNeg x2)) = 0) → ((vp_in x2 600) ∧ ((¬ ((M5 (m + 10) (Int32.toNatClampNeg x2)) = 0) → (True)) ∧ (((M5 (m + 10) (Int32.toNatClampNeg x2)) = 0) → (True))))))))) ∧ (∀ z8 : Int32, z8 = (if v4 = 0 then (if (M5 (m + 8) (Int32.toNatClampNeg x2)) = 0 then (if (M5 (m + 10) (Int32.toNatClampNeg x2)) = 0 then 1 else 0) else 0) else 0) → (z8 = 0 ∨ z8 = 1) ∧ (Q z8 M5)))))))
theorem t_X0_isLoneWholeRest (m : Nat) (hm : MU m) (p1 : Int32) (M : Mem) (Q : Int32 → Mem → Prop) (h : w_X0_isLoneWholeRest m p1 M Q) : Ex true mX0_isLoneWholeRest 78 78 0 0 0 [.ref m, .int p1, .null] [] M Q := by
  unfold w_X0_isLoneWholeRest at h
  refine ex_aload_n dX0_isLoneWholeRest_0 rfl ?_
  refine ex_getR (ci := 0) (j := 5) (v := m + 2) dX0_isLoneWholeRest_1 (mu_l hm 0 (by decide)) (mu_S0 hm) rfl lk_X0_19 (mu_F5 hm) (by omega) ?_
  refine ex_iload_n dX0_isLoneWholeRest_4 rfl ?_
  obtain ⟨b1, h⟩ := h
  refine ex_iald dX0_isLoneWholeRest_5 (mu_l hm 2 (by decide)) (mu_S2 hm) b1 ?_
  refine ex_top (fun x2 ex2 => ?_)
  replace h := h x2 ex2
  refine ex_istore_n (L2 := [.ref m, .int p1, .int x2]) dX0_isLoneWholeRest_6 (by decide) rfl rfl ?_
  refine ex_aload_n dX0_isLoneWholeRest_7 rfl ?_
  refine ex_getR (ci := 0) (j := 6) (v := m + 3) dX0_isLoneWholeRest_8 (mu_l hm 0 (by decide)) (mu_S0 hm) rfl lk_X0_22 (mu_F6 hm) (by omega) ?_
  refine ex_iload_n dX0_isLoneWholeRest_11 rfl ?_
  obtain ⟨b3, h⟩ := h
  refine ex_iald dX0_isLoneWholeRest_12 (mu_l hm 3 (by decide)) (mu_S3 hm) b3 ?_
  refine ex_iconst (v := 1) dX0_isLoneWholeRest_13 (by decide) ?_
  refine ex_icmp_ne (tgt := 47) dX0_isLoneWholeRest_14 (by decide) (fun c_14 => ?_) (fun c_14 => ?_)
  · replace h := h.1 c_14
    refine ex_iconst (v := 0) dX0_isLoneWholeRest_47 (by decide) ?_
    exact ex_iret dX0_isLoneWholeRest_48 rfl rfl rfl h
  · replace h := h.2 c_14
    refine ex_aload_n dX0_isLoneWholeRest_17 rfl ?_
    refine ex_iload_n dX0_isLoneWholeRest_18 rfl ?_
    refine ex_invV (k := m) (ci := 0) (as := [.int x2]) (L2 := [.ref m, .int x2]) (st := []) 0 0 dX0_isLoneWholeRest_19 lk_X0_100 sl_X0_isNote (rmK_of rfl) (mu_l hm 0 (by decide)) (mu_S0 hm) ⟨by decide, rfl⟩ rfl (Nat.le_of_ble_eq_true rfl) (Nat.le_of_ble_eq_true rfl) (t_X0_isNote m hm x2 M _ h) (fun v4 M5 h => ?_)
    show Ex true mX0_isLoneWholeRest 78 78 0 0 22 [.ref m, .int p1, .int x2] [.int v4] M5 Q
    obtain ⟨khJ10, h⟩ := h
    have hJ10 : ∀ z8 : Int32, z8 = (if v4 = 0 then (if (M5 (m + 8) (Int32.toNatClampNeg x2)) = 0 then (if (M5 (m + 10) (Int32.toNatClampNeg x2)) = 0 then 1 else 0) else 0) else 0) → Ex true mX0_isLoneWholeRest 78 78 0 0 48 [.ref m, .int p1, .int x2] [.int z8] M5 Q := by
      intro z8 ez8
      replace h := h z8 ez8
      obtain ⟨b9, h⟩ := h
      exact ex_iret dX0_isLoneWholeRest_48 rfl (nr01 b9) rfl h
    refine ex_if_ne (tgt := 47) dX0_isLoneWholeRest_22 (by decide) (fun c_22 => ?_) (fun c_22 => ?_)
    · replace h := khJ10.1 c_22
      refine ex_iconst (v := 0) dX0_isLoneWholeRest_47 (by decide) ?_
      exact hJ10 _ (by rw [if_neg c_22])
    · replace h := khJ10.2 c_22
      refine ex_aload_n dX0_isLoneWholeRest_25 rfl ?_
      refine ex_getR (ci := 0) (j := 11) (v := m + 8) dX0_isLoneWholeRest_26 (mu_l hm 0 (by decide)) (mu_S0 hm) rfl lk_X0_37 (mu_F11 hm) (by omega) ?_
      refine ex_iload_n dX0_isLoneWholeRest_29 rfl ?_
      obtain ⟨b6, h⟩ := h
      refine ex_iald dX0_isLoneWholeRest_30 (mu_l hm 8 (by decide)) (mu_S8 hm) b6 ?_
      refine ex_if_ne (tgt := 47) dX0_isLoneWholeRest_31 (by decide) (fun c_31 => ?_) (fun c_31 => ?_)
      · replace h := h.1 c_31
        refine ex_iconst (v := 0) dX0_isLoneWholeRest_47 (by decide) ?_
        exact hJ10 _ (by rw [if_pos c_22, if_neg c_31])
      · replace h := h.2 c_31
        refine ex_aload_n dX0_isLoneWholeRest_34 rfl ?_
        refine ex_getR (ci := 0) (j := 13) (v := m + 10) dX0_isLoneWholeRest_35 (mu_l hm 0 (by decide)) (mu_S0 hm) rfl lk_X0_43 (mu_F13 hm) (by omega) ?_
        refine ex_iload_n dX0_isLoneWholeRest_38 rfl ?_
        obtain ⟨b7, h⟩ := h
        refine ex_iald dX0_isLoneWholeRest_39 (mu_l hm 10 (by decide)) (mu_S10 hm) b7 ?_
        refine ex_if_ne (tgt := 47) dX0_isLoneWholeRest_40 (by decide) (fun c_40 => ?_) (fun c_40 => ?_)
        · replace h := h.1 c_40
          refine ex_iconst (v := 0) dX0_isLoneWholeRest_47 (by decide) ?_
          exact hJ10 _ (by rw [if_pos c_22, if_pos c_31, if_neg c_40])
        · replace h := h.2 c_40
          refine ex_iconst (v := 1) dX0_isLoneWholeRest_43 (by decide) ?_
          refine ex_goto (tgt := 48) dX0_isLoneWholeRest_44 (by decide) ?_
          exact hJ10 _ (by rw [if_pos c_22, if_pos c_31, if_pos c_40])
