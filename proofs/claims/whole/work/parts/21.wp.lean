def w_X6_isPitch (p1 : Int32) (M : Mem) (Q : Int32 → Mem → Prop) : Prop := ∀ z1 : Int32, z1 = (if p1 < 7 then 0 else (if 55 < p1 then 0 else 1)) → (z1 = 0 ∨ z1 = 1) ∧ (Q z1 M)
theorem t_X6_isPitch (p1 : Int32) (M : Mem) (Q : Int32 → Mem → Prop) (h : w_X6_isPitch  p1 M Q) : Ex true mX6_isPitch 78 78 0 0 0 [.int p1] [] M Q := by
  unfold w_X6_isPitch at h
  refine ex_iload_n dX6_isPitch_0 rfl ?_
  refine ex_bipush (v := 7) dX6_isPitch_1 (by decide) ?_
  have hJ3 : ∀ z1 : Int32, z1 = (if p1 < 7 then 0 else (if 55 < p1 then 0 else 1)) → Ex true mX6_isPitch 78 78 0 0 17 [.int p1] [.int z1] M Q := by
    intro z1 ez1
    replace h := h z1 ez1
    obtain ⟨b2, h⟩ := h
    exact ex_iret dX6_isPitch_17 rfl (nr01 b2) rfl h
  refine ex_icmp_lt (tgt := 16) dX6_isPitch_3 (by decide) (fun c_3 => ?_) (fun c_3 => ?_)
  ·
    refine ex_iconst (v := 0) dX6_isPitch_16 (by decide) ?_
    exact hJ3 _ (by rw [if_pos c_3])
  ·
    refine ex_iload_n dX6_isPitch_6 rfl ?_
    refine ex_bipush (v := 55) dX6_isPitch_7 (by decide) ?_
    refine ex_icmp_gt (tgt := 16) dX6_isPitch_9 (by decide) (fun c_9 => ?_) (fun c_9 => ?_)
    ·
      refine ex_iconst (v := 0) dX6_isPitch_16 (by decide) ?_
      exact hJ3 _ (by rw [if_neg c_3, if_pos c_9])
    ·
      refine ex_iconst (v := 1) dX6_isPitch_12 (by decide) ?_
      refine ex_goto (tgt := 17) dX6_isPitch_13 (by decide) ?_
      exact hJ3 _ (by rw [if_neg c_3, if_neg c_9])
def w_X6_lengthOf (p1 : Int32) (p2 : Int32) (p3 : Int32) (M : Mem) (Q : Int32 → Mem → Prop) : Prop := ((p1 < 0) → (Q 0 M)) ∧ (¬ (p1 < 0) → ((((nI (M 110 6).toNatClampNeg) ≤ p1) → (Q 0 M)) ∧ (¬ ((nI (M 110 6).toNatClampNeg) ≤ p1) → (((p3 < 0) → (Q 0 M)) ∧ (¬ (p3 < 0) → (((p3 < (nI (M 110 7).toNatClampNeg)) → ((vp_in p1 (M 110 6).toNatClampNeg) ∧ ((vp_in p3 (M 110 7).toNatClampNeg) ∧ (∀ z3 : Int32, z3 = (if p2 = 0 then 16 else 1) → Q (((M (100 + 6) (Int32.toNatClampNeg p1)) * (M (100 + 7) (Int32.toNatClampNeg p3))) * z3) M)))) ∧ (¬ (p3 < (nI (M 110 7).toNatClampNeg)) → (Q 0 M))))))))
theorem t_X6_lengthOf (p1 : Int32) (p2 : Int32) (p3 : Int32) (M : Mem) (Q : Int32 → Mem → Prop) (h : w_X6_lengthOf  p1 p2 p3 M Q) : Ex true mX6_lengthOf 78 78 0 0 0 [.int p1, .int p2, .int p3] [] M Q := by
  unfold w_X6_lengthOf at h
  refine ex_iload_n dX6_lengthOf_0 rfl ?_
  refine ex_if_lt (tgt := 24) dX6_lengthOf_1 (by decide) (fun c_1 => ?_) (fun c_1 => ?_)
  · replace h := h.1 c_1
    refine ex_iconst (v := 0) dX6_lengthOf_24 (by decide) ?_
    exact ex_iret dX6_lengthOf_25 rfl rfl rfl h
  · replace h := h.2 c_1
    refine ex_iload_n dX6_lengthOf_4 rfl ?_
    refine ex_gets (i := 6) dX6_lengthOf_5 (by decide) lk_X6_223 ?_
    refine ex_tlen (i := 6) dX6_lengthOf_8 (by decide) ?_
    refine ex_icmp_ge (tgt := 24) dX6_lengthOf_9 (by decide) (fun c_9 => ?_) (fun c_9 => ?_)
    · replace h := h.1 c_9
      refine ex_iconst (v := 0) dX6_lengthOf_24 (by decide) ?_
      exact ex_iret dX6_lengthOf_25 rfl rfl rfl h
    · replace h := h.2 c_9
      refine ex_iload_n dX6_lengthOf_12 rfl ?_
      refine ex_if_lt (tgt := 24) dX6_lengthOf_13 (by decide) (fun c_13 => ?_) (fun c_13 => ?_)
      · replace h := h.1 c_13
        refine ex_iconst (v := 0) dX6_lengthOf_24 (by decide) ?_
        exact ex_iret dX6_lengthOf_25 rfl rfl rfl h
      · replace h := h.2 c_13
        refine ex_iload_n dX6_lengthOf_16 rfl ?_
        refine ex_gets (i := 7) dX6_lengthOf_17 (by decide) lk_X6_226 ?_
        refine ex_tlen (i := 7) dX6_lengthOf_20 (by decide) ?_
        refine ex_icmp_lt (tgt := 26) dX6_lengthOf_21 (by decide) (fun c_21 => ?_) (fun c_21 => ?_)
        · replace h := h.1 c_21
          refine ex_gets (i := 6) dX6_lengthOf_26 (by decide) lk_X6_223 ?_
          refine ex_iload_n dX6_lengthOf_29 rfl ?_
          obtain ⟨b1, h⟩ := h
          refine ex_tald (i := 6) dX6_lengthOf_30 (by decide) b1 ?_
          refine ex_gets (i := 7) dX6_lengthOf_31 (by decide) lk_X6_226 ?_
          refine ex_iload_n dX6_lengthOf_34 rfl ?_
          obtain ⟨b2, h⟩ := h
          refine ex_tald (i := 7) dX6_lengthOf_35 (by decide) b2 ?_
          refine ex_imul dX6_lengthOf_36 ?_
          refine ex_iload_n dX6_lengthOf_37 rfl ?_
          have hJ4 : ∀ z3 : Int32, z3 = (if p2 = 0 then 16 else 1) → Ex true mX6_lengthOf 78 78 0 0 47 [.int p1, .int p2, .int p3] [.int z3, .int ((M (100 + 6) (Int32.toNatClampNeg p1)) * (M (100 + 7) (Int32.toNatClampNeg p3)))] M Q := by
            intro z3 ez3
            replace h := h z3 ez3
            refine ex_imul dX6_lengthOf_47 ?_
            exact ex_iret dX6_lengthOf_48 rfl rfl rfl h
          refine ex_if_ne (tgt := 46) dX6_lengthOf_38 (by decide) (fun c_38 => ?_) (fun c_38 => ?_)
          ·
            refine ex_iconst (v := 1) dX6_lengthOf_46 (by decide) ?_
            exact hJ4 _ (by rw [if_neg c_38])
          ·
            refine ex_bipush (v := 16) dX6_lengthOf_41 (by decide) ?_
            refine ex_goto (tgt := 47) dX6_lengthOf_43 (by decide) ?_
            exact hJ4 _ (by rw [if_pos c_38])
        · replace h := h.2 c_21
          refine ex_iconst (v := 0) dX6_lengthOf_24 (by decide) ?_
          exact ex_iret dX6_lengthOf_25 rfl rfl rfl h
def w_X1_isLeap (p1 : Int32) (p2 : Int32) (M : Mem) (Q : Int32 → Mem → Prop) : Prop := ∀ x1 : Int32, x1 = (if 0 ≤ (p1 - p2) then (p1 - p2) else 0 - (p1 - p2)) → ((2 < x1) → (∀ z2 : Int32, z2 = (if 4 < x1 then 1 else (if (p1 / 7) = (p2 / 7) then 0 else 1)) → (z2 = 0 ∨ z2 = 1) ∧ (Q z2 M))) ∧ (¬ (2 < x1) → (Q 0 M))
theorem t_X1_isLeap (p1 : Int32) (p2 : Int32) (M : Mem) (Q : Int32 → Mem → Prop) (h : w_X1_isLeap  p1 p2 M Q) : Ex true mX1_isLeap 78 78 0 0 0 [.int p1, .int p2, .null] [] M Q := by
  unfold w_X1_isLeap at h
  refine ex_iload_n dX1_isLeap_0 rfl ?_
  refine ex_iload_n dX1_isLeap_1 rfl ?_
  refine ex_isub dX1_isLeap_2 ?_
  refine ex_abs dX1_isLeap_3 lk_X1_19 (by decide) (Nat.le_of_ble_eq_true rfl) ?_
  refine ex_top (fun x1 ex1 => ?_)
  replace h := h x1 ex1
  refine ex_istore_n (L2 := [.int p1, .int p2, .int x1]) dX1_isLeap_6 (by decide) rfl rfl ?_
  refine ex_iload_n dX1_isLeap_7 rfl ?_
  refine ex_iconst (v := 2) dX1_isLeap_8 (by decide) ?_
  refine ex_icmp_gt (tgt := 14) dX1_isLeap_9 (by decide) (fun c_9 => ?_) (fun c_9 => ?_)
  · replace h := h.1 c_9
    refine ex_iload_n dX1_isLeap_14 rfl ?_
    refine ex_iconst (v := 4) dX1_isLeap_15 (by decide) ?_
    have hJ4 : ∀ z2 : Int32, z2 = (if 4 < x1 then 1 else (if (p1 / 7) = (p2 / 7) then 0 else 1)) → Ex true mX1_isLeap 78 78 0 0 35 [.int p1, .int p2, .int x1] [.int z2] M Q := by
      intro z2 ez2
      replace h := h z2 ez2
      obtain ⟨b3, h⟩ := h
      exact ex_iret dX1_isLeap_35 rfl (nr01 b3) rfl h
    refine ex_icmp_gt (tgt := 30) dX1_isLeap_16 (by decide) (fun c_16 => ?_) (fun c_16 => ?_)
    ·
      refine ex_iconst (v := 1) dX1_isLeap_30 (by decide) ?_
      refine ex_goto (tgt := 35) dX1_isLeap_31 (by decide) ?_
      exact hJ4 _ (by rw [if_pos c_16])
    ·
      refine ex_iload_n dX1_isLeap_19 rfl ?_
      refine ex_bipush (v := 7) dX1_isLeap_20 (by decide) ?_
      refine ex_idiv dX1_isLeap_22 (by decide) ?_
      refine ex_iload_n dX1_isLeap_23 rfl ?_
      refine ex_bipush (v := 7) dX1_isLeap_24 (by decide) ?_
      refine ex_idiv dX1_isLeap_26 (by decide) ?_
      refine ex_icmp_eq (tgt := 34) dX1_isLeap_27 (by decide) (fun c_27 => ?_) (fun c_27 => ?_)
      ·
        refine ex_iconst (v := 0) dX1_isLeap_34 (by decide) ?_
        exact hJ4 _ (by rw [if_neg c_16, if_pos c_27])
      ·
        refine ex_iconst (v := 1) dX1_isLeap_30 (by decide) ?_
        refine ex_goto (tgt := 35) dX1_isLeap_31 (by decide) ?_
        exact hJ4 _ (by rw [if_neg c_16, if_neg c_27])
  · replace h := h.2 c_9
    refine ex_iconst (v := 0) dX1_isLeap_12 (by decide) ?_
    exact ex_iret dX1_isLeap_13 rfl rfl rfl h
def w_X1_forget (w : Nat) (M : Mem) (Q : Int32 → Mem → Prop) : Prop := ∀ M1 : Mem, M1 = (mset M w 1 1) → Q 0 M1
theorem t_X1_forget (w : Nat) (hw : OW w) (M : Mem) (Q : Int32 → Mem → Prop) (h : w_X1_forget w  M Q) : Ex true mX1_forget 78 78 0 0 0 [.ref w] [] M Q := by
  unfold w_X1_forget at h
  refine ex_aload_n dX1_forget_0 rfl ?_
  refine ex_iconst (v := 1) dX1_forget_1 (by decide) ?_
  refine ex_putI (ci := 1) (j := 1) dX1_forget_2 (ow_l hw) (ow_S0 hw) rfl lk_X1_15 ⟨rfl, rfl⟩ ?_
  refine ex_nmM (fun M1 eM1 => ?_)
  replace h := h M1 eM1
  exact ex_vret dX1_forget_5 rfl rfl h
def w_X1_heard (w : Nat) (p1 : Int32) (M : Mem) (Q : Int32 → Mem → Prop) : Prop := ∀ M1 : Mem, M1 = (mset M w 0 p1) → ∀ M2 : Mem, M2 = (mset M1 w 1 0) → Q 0 M2
theorem t_X1_heard (w : Nat) (hw : OW w) (p1 : Int32) (M : Mem) (Q : Int32 → Mem → Prop) (h : w_X1_heard w p1 M Q) : Ex true mX1_heard 78 78 0 0 0 [.ref w, .int p1] [] M Q := by
  unfold w_X1_heard at h
  refine ex_aload_n dX1_heard_0 rfl ?_
  refine ex_iload_n dX1_heard_1 rfl ?_
  refine ex_putI (ci := 1) (j := 0) dX1_heard_2 (ow_l hw) (ow_S0 hw) rfl lk_X1_9 ⟨rfl, rfl⟩ ?_
  refine ex_nmM (fun M1 eM1 => ?_)
  replace h := h M1 eM1
  refine ex_aload_n dX1_heard_5 rfl ?_
  refine ex_iconst (v := 0) dX1_heard_6 (by decide) ?_
  refine ex_putI (ci := 1) (j := 1) dX1_heard_7 (ow_l hw) (ow_S0 hw) rfl lk_X1_15 ⟨rfl, rfl⟩ ?_
  refine ex_nmM (fun M2 eM2 => ?_)
  replace h := h M2 eM2
  exact ex_vret dX1_heard_10 rfl rfl h
def w_X1_enterBar (w m : Nat) (p2 : Int32) (M : Mem) (Q : Int32 → Mem → Prop) : Prop := (((p2 ≤ 0) → (True)) ∧ (¬ (p2 ≤ 0) → ((((M m 2) < p2) → (True)) ∧ (¬ ((M m 2) < p2) → ((vp_in (p2 - 1) 60) ∧ ((¬ ((M (m + 1) (Int32.toNatClampNeg (p2 - 1))) = 1) → (True)) ∧ (((M (m + 1) (Int32.toNatClampNeg (p2 - 1))) = 1) → (True)))))))) ∧ (∀ z2 : Int32, z2 = (if p2 ≤ 0 then 0 else (if (M m 2) < p2 then 0 else (if (M (m + 1) (Int32.toNatClampNeg (p2 - 1))) = 1 then 1 else 0))) → (¬ (z2 = 0) → (Q 0 M)) ∧ ((z2 = 0) → (w_X1_forget w M (fun v3 M4 => Q 0 M4))))
theorem t_X1_enterBar (w m : Nat) (hw : OW w) (hm : MU m) (p2 : Int32) (M : Mem) (Q : Int32 → Mem → Prop) (h : w_X1_enterBar w m p2 M Q) : Ex true mX1_enterBar 78 78 0 0 0 [.ref w, .ref m, .int p2, .null] [] M Q := by
  unfold w_X1_enterBar at h
  refine ex_iload_n dX1_enterBar_0 rfl ?_
  obtain ⟨khJ5, h⟩ := h
  have hJ5 : ∀ z2 : Int32, z2 = (if p2 ≤ 0 then 0 else (if (M m 2) < p2 then 0 else (if (M (m + 1) (Int32.toNatClampNeg (p2 - 1))) = 1 then 1 else 0))) → Ex true mX1_enterBar 78 78 0 0 29 [.ref w, .ref m, .int p2, .null] [.int z2] M Q := by
    intro z2 ez2
    replace h := h z2 ez2
    refine ex_istore_n (L2 := [.ref w, .ref m, .int p2, .int z2]) dX1_enterBar_29 (by decide) rfl rfl ?_
    refine ex_iload_n dX1_enterBar_30 rfl ?_
    refine ex_if_ne (tgt := 38) dX1_enterBar_31 (by decide) (fun c_31 => ?_) (fun c_31 => ?_)
    · replace h := h.1 c_31
      exact ex_vret dX1_enterBar_38 rfl rfl h
    · replace h := h.2 c_31
      refine ex_aload_n dX1_enterBar_34 rfl ?_
      refine ex_invV (k := w) (ci := 1) (as := []) (L2 := [.ref w]) (st := []) 0 0 dX1_enterBar_35 lk_X1_34 sl_X1_forget (rmK_of rfl) (ow_l hw) (ow_S0 hw) ⟨by decide, rfl⟩ rfl (Nat.le_of_ble_eq_true rfl) (Nat.le_of_ble_eq_true rfl) (t_X1_forget w hw M _ h) (fun v3 M4 h => ?_)
      show Ex true mX1_enterBar 78 78 0 0 38 [.ref w, .ref m, .int p2, .int z2] [] M4 Q
      exact ex_vret dX1_enterBar_38 rfl rfl h
  refine ex_if_le (tgt := 28) dX1_enterBar_1 (by decide) (fun c_1 => ?_) (fun c_1 => ?_)
  · replace h := khJ5.1 c_1
    refine ex_iconst (v := 0) dX1_enterBar_28 (by decide) ?_
    exact hJ5 _ (by rw [if_pos c_1])
  · replace h := khJ5.2 c_1
    refine ex_iload_n dX1_enterBar_4 rfl ?_
    refine ex_aload_n dX1_enterBar_5 rfl ?_
    refine ex_getI (ci := 0) (j := 2) dX1_enterBar_6 (mu_l hm 0 (by decide)) (mu_S0 hm) rfl lk_X1_25 ?_
    refine ex_icmp_gt (tgt := 28) dX1_enterBar_9 (by decide) (fun c_9 => ?_) (fun c_9 => ?_)
    · replace h := h.1 c_9
      refine ex_iconst (v := 0) dX1_enterBar_28 (by decide) ?_
      exact hJ5 _ (by rw [if_neg c_1, if_pos c_9])
    · replace h := h.2 c_9
      refine ex_aload_n dX1_enterBar_12 rfl ?_
      refine ex_getR (ci := 0) (j := 4) (v := m + 1) dX1_enterBar_13 (mu_l hm 0 (by decide)) (mu_S0 hm) rfl lk_X1_30 (mu_F4 hm) (by omega) ?_
      refine ex_iload_n dX1_enterBar_16 rfl ?_
      refine ex_iconst (v := 1) dX1_enterBar_17 (by decide) ?_
      refine ex_isub dX1_enterBar_18 ?_
      obtain ⟨b1, h⟩ := h
      refine ex_iald dX1_enterBar_19 (mu_l hm 1 (by decide)) (mu_S1 hm) b1 ?_
      refine ex_iconst (v := 1) dX1_enterBar_20 (by decide) ?_
      refine ex_icmp_ne (tgt := 28) dX1_enterBar_21 (by decide) (fun c_21 => ?_) (fun c_21 => ?_)
      · replace h := h.1 c_21
        refine ex_iconst (v := 0) dX1_enterBar_28 (by decide) ?_
        exact hJ5 _ (by rw [if_neg c_1, if_neg c_9, if_neg c_21])
      · replace h := h.2 c_21
        refine ex_iconst (v := 1) dX1_enterBar_24 (by decide) ?_
        refine ex_goto (tgt := 29) dX1_enterBar_25 (by decide) ?_
        exact hJ5 _ (by rw [if_neg c_1, if_neg c_9, if_pos c_21])
def w_X1_needsSign (w : Nat) (p1 : Int32) (M : Mem) (Q : Int32 → Mem → Prop) : Prop := (¬ ((M w 1) = 0) → (Q 1 M)) ∧ (((M w 1) = 0) → (w_X1_isLeap (M w 0) p1 M (fun v1 M2 => ∀ z3 : Int32, z3 = (if v1 = 0 then 0 else 1) → (z3 = 0 ∨ z3 = 1) ∧ (Q z3 M2))))
theorem t_X1_needsSign (w : Nat) (hw : OW w) (p1 : Int32) (M : Mem) (Q : Int32 → Mem → Prop) (h : w_X1_needsSign w p1 M Q) : Ex true mX1_needsSign 78 78 0 0 0 [.ref w, .int p1] [] M Q := by
  unfold w_X1_needsSign at h
  refine ex_aload_n dX1_needsSign_0 rfl ?_
  refine ex_getI (ci := 1) (j := 1) dX1_needsSign_1 (ow_l hw) (ow_S0 hw) rfl lk_X1_15 ?_
  refine ex_if_ne (tgt := 18) dX1_needsSign_4 (by decide) (fun c_4 => ?_) (fun c_4 => ?_)
  · replace h := h.1 c_4
    refine ex_iconst (v := 1) dX1_needsSign_18 (by decide) ?_
    refine ex_goto (tgt := 23) dX1_needsSign_19 (by decide) ?_
    exact ex_iret dX1_needsSign_23 rfl rfl rfl h
  · replace h := h.2 c_4
    refine ex_aload_n dX1_needsSign_7 rfl ?_
    refine ex_getI (ci := 1) (j := 0) dX1_needsSign_8 (ow_l hw) (ow_S0 hw) rfl lk_X1_9 ?_
    refine ex_iload_n dX1_needsSign_11 rfl ?_
    refine ex_invS (as := [.int (M w 0), .int p1]) (L2 := [.int (M w 0), .int p1, .null]) (st := []) 0 0 dX1_needsSign_12 lk_X1_37 sl_X1_isLeap (rmK_of rfl) rfl (Nat.le_of_ble_eq_true rfl) (Nat.le_of_ble_eq_true rfl) (t_X1_isLeap   (M w 0) p1 M _ h) (fun v1 M2 h => ?_)
    show Ex true mX1_needsSign 78 78 0 0 15 [.ref w, .int p1] [.int v1] M2 Q
    have hJ5 : ∀ z3 : Int32, z3 = (if v1 = 0 then 0 else 1) → Ex true mX1_needsSign 78 78 0 0 23 [.ref w, .int p1] [.int z3] M2 Q := by
      intro z3 ez3
      replace h := h z3 ez3
      obtain ⟨b4, h⟩ := h
      exact ex_iret dX1_needsSign_23 rfl (nr01 b4) rfl h
    refine ex_if_eq (tgt := 22) dX1_needsSign_15 (by decide) (fun c_15 => ?_) (fun c_15 => ?_)
    ·
      refine ex_iconst (v := 0) dX1_needsSign_22 (by decide) ?_
      exact hJ5 _ (by rw [if_pos c_15])
    ·
      refine ex_iconst (v := 1) dX1_needsSign_18 (by decide) ?_
      refine ex_goto (tgt := 23) dX1_needsSign_19 (by decide) ?_
      exact hJ5 _ (by rw [if_neg c_15])
def w_X1_nearest (w : Nat) (p1 : Int32) (M : Mem) (Q : Int32 → Mem → Prop) : Prop := ∀ x1 : Int32, x1 = ((((M w 0) / 7) * 7) + p1) → w_X1_isLeap (M w 0) x1 M (fun v2 M3 => (¬ (v2 = 0) → (∀ z4 : Int32, z4 = (if x1 ≤ (M3 w 0) then (x1 + 7) else (x1 - 7)) → Q z4 M3)) ∧ ((v2 = 0) → (Q x1 M3)))
theorem t_X1_nearest (w : Nat) (hw : OW w) (p1 : Int32) (M : Mem) (Q : Int32 → Mem → Prop) (h : w_X1_nearest w p1 M Q) : Ex true mX1_nearest 78 78 0 0 0 [.ref w, .int p1, .null] [] M Q := by
  unfold w_X1_nearest at h
  refine ex_aload_n dX1_nearest_0 rfl ?_
  refine ex_getI (ci := 1) (j := 0) dX1_nearest_1 (ow_l hw) (ow_S0 hw) rfl lk_X1_9 ?_
  refine ex_bipush (v := 7) dX1_nearest_4 (by decide) ?_
  refine ex_idiv dX1_nearest_6 (by decide) ?_
  refine ex_bipush (v := 7) dX1_nearest_7 (by decide) ?_
  refine ex_imul dX1_nearest_9 ?_
  refine ex_iload_n dX1_nearest_10 rfl ?_
  refine ex_iadd dX1_nearest_11 ?_
  refine ex_top (fun x1 ex1 => ?_)
  replace h := h x1 ex1
  refine ex_istore_n (L2 := [.ref w, .int p1, .int x1]) dX1_nearest_12 (by decide) rfl rfl ?_
  refine ex_aload_n dX1_nearest_13 rfl ?_
  refine ex_getI (ci := 1) (j := 0) dX1_nearest_14 (ow_l hw) (ow_S0 hw) rfl lk_X1_9 ?_
  refine ex_iload_n dX1_nearest_17 rfl ?_
  refine ex_invS (as := [.int (M w 0), .int x1]) (L2 := [.int (M w 0), .int x1, .null]) (st := []) 0 0 dX1_nearest_18 lk_X1_37 sl_X1_isLeap (rmK_of rfl) rfl (Nat.le_of_ble_eq_true rfl) (Nat.le_of_ble_eq_true rfl) (t_X1_isLeap   (M w 0) x1 M _ h) (fun v2 M3 h => ?_)
  show Ex true mX1_nearest 78 78 0 0 21 [.ref w, .int p1, .int x1] [.int v2] M3 Q
  refine ex_if_ne (tgt := 26) dX1_nearest_21 (by decide) (fun c_21 => ?_) (fun c_21 => ?_)
  · replace h := h.1 c_21
    refine ex_iload_n dX1_nearest_26 rfl ?_
    refine ex_aload_n dX1_nearest_27 rfl ?_
    refine ex_getI (ci := 1) (j := 0) dX1_nearest_28 (ow_l hw) (ow_S0 hw) rfl lk_X1_9 ?_
    have hJ5 : ∀ z4 : Int32, z4 = (if x1 ≤ (M3 w 0) then (x1 + 7) else (x1 - 7)) → Ex true mX1_nearest 78 78 0 0 45 [.ref w, .int p1, .int x1] [.int z4] M3 Q := by
      intro z4 ez4
      replace h := h z4 ez4
      exact ex_iret dX1_nearest_45 rfl rfl rfl h
    refine ex_icmp_le (tgt := 41) dX1_nearest_31 (by decide) (fun c_31 => ?_) (fun c_31 => ?_)
    ·
      refine ex_iload_n dX1_nearest_41 rfl ?_
      refine ex_bipush (v := 7) dX1_nearest_42 (by decide) ?_
      refine ex_iadd dX1_nearest_44 ?_
      exact hJ5 _ (by rw [if_pos c_31])
    ·
      refine ex_iload_n dX1_nearest_34 rfl ?_
      refine ex_bipush (v := 7) dX1_nearest_35 (by decide) ?_
      refine ex_isub dX1_nearest_37 ?_
      refine ex_goto (tgt := 45) dX1_nearest_38 (by decide) ?_
      exact hJ5 _ (by rw [if_neg c_31])
  · replace h := h.2 c_21
    refine ex_iload_n dX1_nearest_24 rfl ?_
    exact ex_iret dX1_nearest_25 rfl rfl rfl h
def w_X2_put (r : Nat) (p1 : Int32) (M : Mem) (Q : Int32 → Mem → Prop) : Prop := ((4000 ≤ (M r 1)) → (∀ M1 : Mem, M1 = (mset M r 1 ((M r 1) + 1)) → Q 0 M1)) ∧ (¬ (4000 ≤ (M r 1)) → ((vp_in (M r 1) 4000) ∧ (∀ M3 : Mem, M3 = (mset M (r + 1) (Int32.toNatClampNeg (M r 1)) p1) → ∀ M4 : Mem, M4 = (mset M3 r 1 ((M3 r 1) + 1)) → Q 0 M4)))
theorem t_X2_put (r : Nat) (hr : RW r) (p1 : Int32) (M : Mem) (Q : Int32 → Mem → Prop) (h : w_X2_put r p1 M Q) : Ex true mX2_put 78 78 0 0 0 [.ref r, .int p1] [] M Q := by
  unfold w_X2_put at h
  refine ex_aload_n dX2_put_0 rfl ?_
  refine ex_getI (ci := 2) (j := 1) dX2_put_1 (rw_l hr 0 (by decide)) (rw_S0 hr) rfl lk_X2_15 ?_
  refine ex_sipush (v := 4000) dX2_put_4 (by decide) ?_
  refine ex_icmp_ge (tgt := 20) dX2_put_7 (by decide) (fun c_7 => ?_) (fun c_7 => ?_)
  · replace h := h.1 c_7
    refine ex_aload_n dX2_put_20 rfl ?_
    refine ex_dup dX2_put_21 rfl ?_
    refine ex_getI (ci := 2) (j := 1) dX2_put_22 (rw_l hr 0 (by decide)) (rw_S0 hr) rfl lk_X2_15 ?_
    refine ex_iconst (v := 1) dX2_put_25 (by decide) ?_
    refine ex_iadd dX2_put_26 ?_
    refine ex_putI (ci := 2) (j := 1) dX2_put_27 (rw_l hr 0 (by decide)) (rw_S0 hr) rfl lk_X2_15 ⟨rfl, rfl⟩ ?_
    refine ex_nmM (fun M1 eM1 => ?_)
    replace h := h M1 eM1
    exact ex_vret dX2_put_30 rfl rfl h
  · replace h := h.2 c_7
    refine ex_aload_n dX2_put_10 rfl ?_
    refine ex_getR (ci := 2) (j := 0) (v := r + 1) dX2_put_11 (rw_l hr 0 (by decide)) (rw_S0 hr) rfl lk_X2_9 (rw_F0 hr) (by omega) ?_
    refine ex_aload_n dX2_put_14 rfl ?_
    refine ex_getI (ci := 2) (j := 1) dX2_put_15 (rw_l hr 0 (by decide)) (rw_S0 hr) rfl lk_X2_15 ?_
    refine ex_iload_n dX2_put_18 rfl ?_
    obtain ⟨b2, h⟩ := h
    refine ex_iast dX2_put_19 (rw_l hr 1 (by decide)) (rw_S1 hr) b2 ?_
    refine ex_nmM (fun M3 eM3 => ?_)
    replace h := h M3 eM3
    refine ex_aload_n dX2_put_20 rfl ?_
    refine ex_dup dX2_put_21 rfl ?_
    refine ex_getI (ci := 2) (j := 1) dX2_put_22 (rw_l hr 0 (by decide)) (rw_S0 hr) rfl lk_X2_15 ?_
    refine ex_iconst (v := 1) dX2_put_25 (by decide) ?_
    refine ex_iadd dX2_put_26 ?_
    refine ex_putI (ci := 2) (j := 1) dX2_put_27 (rw_l hr 0 (by decide)) (rw_S0 hr) rfl lk_X2_15 ⟨rfl, rfl⟩ ?_
    refine ex_nmM (fun M4 eM4 => ?_)
    replace h := h M4 eM4
    exact ex_vret dX2_put_30 rfl rfl h
def w_X2_get (r : Nat) (p1 : Int32) (M : Mem) (Q : Int32 → Mem → Prop) : Prop := (((p1 < 0) → (True)) ∧ (¬ (p1 < 0) → ((((M r 1) ≤ p1) → (True)) ∧ (¬ ((M r 1) ≤ p1) → (((4000 ≤ p1) → (True)) ∧ (¬ (4000 ≤ p1) → ((vp_in p1 4000) ∧ (True)))))))) ∧ (∀ z2 : Int32, z2 = (if p1 < 0 then (-1) else (if (M r 1) ≤ p1 then (-1) else (if 4000 ≤ p1 then (-1) else (M (r + 1) (Int32.toNatClampNeg p1))))) → Q z2 M)
theorem t_X2_get (r : Nat) (hr : RW r) (p1 : Int32) (M : Mem) (Q : Int32 → Mem → Prop) (h : w_X2_get r p1 M Q) : Ex true mX2_get 78 78 0 0 0 [.ref r, .int p1] [] M Q := by
  unfold w_X2_get at h
  refine ex_iload_n dX2_get_0 rfl ?_
  obtain ⟨khJ3, h⟩ := h
  have hJ3 : ∀ z2 : Int32, z2 = (if p1 < 0 then (-1) else (if (M r 1) ≤ p1 then (-1) else (if 4000 ≤ p1 then (-1) else (M (r + 1) (Int32.toNatClampNeg p1))))) → Ex true mX2_get 78 78 0 0 29 [.ref r, .int p1] [.int z2] M Q := by
    intro z2 ez2
    replace h := h z2 ez2
    exact ex_iret dX2_get_29 rfl rfl rfl h
  refine ex_if_lt (tgt := 28) dX2_get_1 (by decide) (fun c_1 => ?_) (fun c_1 => ?_)
  · replace h := khJ3.1 c_1
    refine ex_iconst (v := (-1)) dX2_get_28 (by decide) ?_
    exact hJ3 _ (by rw [if_pos c_1])
  · replace h := khJ3.2 c_1
    refine ex_iload_n dX2_get_4 rfl ?_
    refine ex_aload_n dX2_get_5 rfl ?_
    refine ex_getI (ci := 2) (j := 1) dX2_get_6 (rw_l hr 0 (by decide)) (rw_S0 hr) rfl lk_X2_15 ?_
    refine ex_icmp_ge (tgt := 28) dX2_get_9 (by decide) (fun c_9 => ?_) (fun c_9 => ?_)
    · replace h := h.1 c_9
      refine ex_iconst (v := (-1)) dX2_get_28 (by decide) ?_
      exact hJ3 _ (by rw [if_neg c_1, if_pos c_9])
    · replace h := h.2 c_9
      refine ex_iload_n dX2_get_12 rfl ?_
      refine ex_sipush (v := 4000) dX2_get_13 (by decide) ?_
      refine ex_icmp_ge (tgt := 28) dX2_get_16 (by decide) (fun c_16 => ?_) (fun c_16 => ?_)
      · replace h := h.1 c_16
        refine ex_iconst (v := (-1)) dX2_get_28 (by decide) ?_
        exact hJ3 _ (by rw [if_neg c_1, if_neg c_9, if_pos c_16])
      · replace h := h.2 c_16
        refine ex_aload_n dX2_get_19 rfl ?_
        refine ex_getR (ci := 2) (j := 0) (v := r + 1) dX2_get_20 (rw_l hr 0 (by decide)) (rw_S0 hr) rfl lk_X2_9 (rw_F0 hr) (by omega) ?_
        refine ex_iload_n dX2_get_23 rfl ?_
        obtain ⟨b1, h⟩ := h
        refine ex_iald dX2_get_24 (rw_l hr 1 (by decide)) (rw_S1 hr) b1 ?_
        refine ex_goto (tgt := 29) dX2_get_25 (by decide) ?_
        exact hJ3 _ (by rw [if_neg c_1, if_neg c_9, if_neg c_16])
def wb_X6_indexIn_2 (i : Nat) (Q : Int32 → Mem → Prop) (B2 : Int32 → Int32 → Mem → Prop) (l1 : Int32) (l2 : Int32) (M : Mem) : Prop := (((nI (M 110 i).toNatClampNeg) ≤ l2) → (Q (-1) M)) ∧ (¬ ((nI (M 110 i).toNatClampNeg) ≤ l2) → ((vp_in l2 (M 110 i).toNatClampNeg) ∧ ((¬ ((M (100 + i) (Int32.toNatClampNeg l2)) = l1) → (∀ x2 : Int32, x2 = l2 + 1 → B2 l1 x2 M)) ∧ (((M (100 + i) (Int32.toNatClampNeg l2)) = l1) → (Q l2 M)))))
def w_X6_indexIn_2 (i : Nat) (Q : Int32 → Mem → Prop) : Nat → Int32 → Int32 → Mem → Prop
  | 0 => fun _ _ _ => False
  | k + 1 => wb_X6_indexIn_2 i Q  (w_X6_indexIn_2 i Q  k)
theorem t_X6_indexIn_2 (i : Nat) (hi : TI i) (Q : Int32 → Mem → Prop) : ∀ (k : Nat) (l1 : Int32) (l2 : Int32) (M : Mem), w_X6_indexIn_2 i Q  k l1 l2 M → Ex true mX6_indexIn 78 78 0 0 2 [.ref (100 + i), .int l1, .int l2] [] M Q := by
  intro k
  induction k with
  | zero => intro l1 l2 M h; exact False.elim h
  | succ k hB2 =>
    intro l1 l2 M h
    replace h : wb_X6_indexIn_2 i Q  (w_X6_indexIn_2 i Q  k) l1 l2 M := h
    generalize w_X6_indexIn_2 i Q  k = B2 at hB2 h
    unfold wb_X6_indexIn_2 at h
    refine ex_iload_n dX6_indexIn_2 rfl ?_
    refine ex_aload_n dX6_indexIn_3 rfl ?_
    refine ex_tlen (i := i) dX6_indexIn_4 (ti_9 hi) ?_
    refine ex_icmp_ge (tgt := 23) dX6_indexIn_5 (by decide) (fun c_5 => ?_) (fun c_5 => ?_)
    · replace h := h.1 c_5
      refine ex_iconst (v := (-1)) dX6_indexIn_23 (by decide) ?_
      exact ex_iret dX6_indexIn_24 rfl rfl rfl h
    · replace h := h.2 c_5
      refine ex_aload_n dX6_indexIn_8 rfl ?_
      refine ex_iload_n dX6_indexIn_9 rfl ?_
      obtain ⟨b1, h⟩ := h
      refine ex_tald (i := i) dX6_indexIn_10 (ti_9 hi) b1 ?_
      refine ex_iload_n dX6_indexIn_11 rfl ?_
      refine ex_icmp_ne (tgt := 17) dX6_indexIn_12 (by decide) (fun c_12 => ?_) (fun c_12 => ?_)
      · replace h := h.1 c_12
        refine ex_iinc (v := l2 + 1) (L2 := [.ref (100 + i), .int l1, .int (l2 + 1)]) dX6_indexIn_17 rfl rfl (by decide) rfl rfl ?_
        obtain ⟨x2, ex2⟩ : ∃ x2 : Int32, x2 = l2 + 1 := ⟨_, rfl⟩
        rw [← ex2]
        replace h := h x2 ex2
        refine ex_goto (tgt := 2) dX6_indexIn_20 (by decide) ?_
        exact hB2 l1 x2 M h
      · replace h := h.2 c_12
        refine ex_iload_n dX6_indexIn_15 rfl ?_
        exact ex_iret dX6_indexIn_16 rfl rfl rfl h
def w_X6_indexIn (i : Nat) (p2 : Int32) (M : Mem) (Q : Int32 → Mem → Prop) : Prop := ∃ k, w_X6_indexIn_2 i Q  k p2 0 M
theorem t_X6_indexIn (i : Nat) (hi : TI i) (p2 : Int32) (M : Mem) (Q : Int32 → Mem → Prop) (h : w_X6_indexIn i p2 M Q) : Ex true mX6_indexIn 78 78 0 0 0 [.ref (100 + i), .int p2, .null] [] M Q := by
  unfold w_X6_indexIn at h
  refine ex_iconst (v := 0) dX6_indexIn_0 (by decide) ?_
  refine ex_istore_n (L2 := [.ref (100 + i), .int p2, .int 0]) dX6_indexIn_1 (by decide) rfl rfl ?_
  obtain ⟨k_, h⟩ := h
  exact t_X6_indexIn_2 i hi  Q   k_ p2 0 M h
def w_X6_cellAt (i : Nat) (p2 : Int32) (M : Mem) (Q : Int32 → Mem → Prop) : Prop := (((p2 < 0) → (True)) ∧ (¬ (p2 < 0) → ((((nI (M 110 i).toNatClampNeg) ≤ p2) → (True)) ∧ (¬ ((nI (M 110 i).toNatClampNeg) ≤ p2) → ((vp_in p2 (M 110 i).toNatClampNeg) ∧ (True)))))) ∧ (∀ z2 : Int32, z2 = (if p2 < 0 then 0 else (if (nI (M 110 i).toNatClampNeg) ≤ p2 then 0 else (M (100 + i) (Int32.toNatClampNeg p2)))) → Q z2 M)
theorem t_X6_cellAt (i : Nat) (hi : TI i) (p2 : Int32) (M : Mem) (Q : Int32 → Mem → Prop) (h : w_X6_cellAt i p2 M Q) : Ex true mX6_cellAt 78 78 0 0 0 [.ref (100 + i), .int p2] [] M Q := by
  unfold w_X6_cellAt at h
  refine ex_iload_n dX6_cellAt_0 rfl ?_
  obtain ⟨khJ3, h⟩ := h
  have hJ3 : ∀ z2 : Int32, z2 = (if p2 < 0 then 0 else (if (nI (M 110 i).toNatClampNeg) ≤ p2 then 0 else (M (100 + i) (Int32.toNatClampNeg p2)))) → Ex true mX6_cellAt 78 78 0 0 17 [.ref (100 + i), .int p2] [.int z2] M Q := by
    intro z2 ez2
    replace h := h z2 ez2
    exact ex_iret dX6_cellAt_17 rfl rfl rfl h
  refine ex_if_lt (tgt := 16) dX6_cellAt_1 (by decide) (fun c_1 => ?_) (fun c_1 => ?_)
  · replace h := khJ3.1 c_1
    refine ex_iconst (v := 0) dX6_cellAt_16 (by decide) ?_
    exact hJ3 _ (by rw [if_pos c_1])
  · replace h := khJ3.2 c_1
    refine ex_iload_n dX6_cellAt_4 rfl ?_
    refine ex_aload_n dX6_cellAt_5 rfl ?_
    refine ex_tlen (i := i) dX6_cellAt_6 (ti_9 hi) ?_
    refine ex_icmp_ge (tgt := 16) dX6_cellAt_7 (by decide) (fun c_7 => ?_) (fun c_7 => ?_)
    · replace h := h.1 c_7
      refine ex_iconst (v := 0) dX6_cellAt_16 (by decide) ?_
      exact hJ3 _ (by rw [if_neg c_1, if_pos c_7])
    · replace h := h.2 c_7
      refine ex_aload_n dX6_cellAt_10 rfl ?_
      refine ex_iload_n dX6_cellAt_11 rfl ?_
      obtain ⟨b1, h⟩ := h
      refine ex_tald (i := i) dX6_cellAt_12 (ti_9 hi) b1 ?_
      refine ex_goto (tgt := 17) dX6_cellAt_13 (by decide) ?_
      exact hJ3 _ (by rw [if_neg c_1, if_neg c_7])
def w_X6_byteOf (p1 : Int64) (p2 : Int32) (M : Mem) (Q : Int32 → Mem → Prop) : Prop := Q (Int64.toInt32 (((Int64.toUInt64 p1 >>> ((Int32.toInt64 p2).toUInt64 &&& Int64.toUInt64 63)).toInt64) &&& 255)) M
theorem t_X6_byteOf (p1 : Int64) (p2 : Int32) (M : Mem) (Q : Int32 → Mem → Prop) (h : w_X6_byteOf  p1 p2 M Q) : Ex true mX6_byteOf 78 78 0 0 0 [.long p1, .null, .int p2] [] M Q := by
  unfold w_X6_byteOf at h
  refine ex_lload_n dX6_byteOf_0 rfl ?_
  refine ex_iload_n dX6_byteOf_1 rfl ?_
  refine ex_lushr dX6_byteOf_2 ?_
  refine ex_ldc2 (v := 255) dX6_byteOf_3 lk_X6_67 ?_
  refine ex_land dX6_byteOf_6 ?_
  refine ex_l2i dX6_byteOf_7 ?_
  exact ex_iret dX6_byteOf_8 rfl rfl rfl h
def w_X6_isSign (p1 : Int32) (M : Mem) (Q : Int32 → Mem → Prop) : Prop := ∀ z1 : Int32, z1 = (if p1 < 0 then 0 else (if (nI (M 110 4).toNatClampNeg) < p1 then 0 else 1)) → (z1 = 0 ∨ z1 = 1) ∧ (Q z1 M)
theorem t_X6_isSign (p1 : Int32) (M : Mem) (Q : Int32 → Mem → Prop) (h : w_X6_isSign  p1 M Q) : Ex true mX6_isSign 78 78 0 0 0 [.int p1] [] M Q := by
  unfold w_X6_isSign at h
  refine ex_iload_n dX6_isSign_0 rfl ?_
  have hJ3 : ∀ z1 : Int32, z1 = (if p1 < 0 then 0 else (if (nI (M 110 4).toNatClampNeg) < p1 then 0 else 1)) → Ex true mX6_isSign 78 78 0 0 17 [.int p1] [.int z1] M Q := by
    intro z1 ez1
    replace h := h z1 ez1
    obtain ⟨b2, h⟩ := h
    exact ex_iret dX6_isSign_17 rfl (nr01 b2) rfl h
  refine ex_if_lt (tgt := 16) dX6_isSign_1 (by decide) (fun c_1 => ?_) (fun c_1 => ?_)
  ·
    refine ex_iconst (v := 0) dX6_isSign_16 (by decide) ?_
    exact hJ3 _ (by rw [if_pos c_1])
  ·
    refine ex_iload_n dX6_isSign_4 rfl ?_
    refine ex_gets (i := 4) dX6_isSign_5 (by decide) lk_X6_217 ?_
    refine ex_tlen (i := 4) dX6_isSign_8 (by decide) ?_
    refine ex_icmp_gt (tgt := 16) dX6_isSign_9 (by decide) (fun c_9 => ?_) (fun c_9 => ?_)
    ·
      refine ex_iconst (v := 0) dX6_isSign_16 (by decide) ?_
      exact hJ3 _ (by rw [if_neg c_1, if_pos c_9])
    ·
      refine ex_iconst (v := 1) dX6_isSign_12 (by decide) ?_
      refine ex_goto (tgt := 17) dX6_isSign_13 (by decide) ?_
      exact hJ3 _ (by rw [if_neg c_1, if_neg c_9])
def w_X6_isKind (p1 : Int32) (M : Mem) (Q : Int32 → Mem → Prop) : Prop := ∀ z1 : Int32, z1 = (if p1 < 0 then 0 else (if (nI (M 110 1).toNatClampNeg) ≤ p1 then 0 else 1)) → (z1 = 0 ∨ z1 = 1) ∧ (Q z1 M)
theorem t_X6_isKind (p1 : Int32) (M : Mem) (Q : Int32 → Mem → Prop) (h : w_X6_isKind  p1 M Q) : Ex true mX6_isKind 78 78 0 0 0 [.int p1] [] M Q := by
  unfold w_X6_isKind at h
  refine ex_iload_n dX6_isKind_0 rfl ?_
  have hJ3 : ∀ z1 : Int32, z1 = (if p1 < 0 then 0 else (if (nI (M 110 1).toNatClampNeg) ≤ p1 then 0 else 1)) → Ex true mX6_isKind 78 78 0 0 17 [.int p1] [.int z1] M Q := by
    intro z1 ez1
    replace h := h z1 ez1
    obtain ⟨b2, h⟩ := h
    exact ex_iret dX6_isKind_17 rfl (nr01 b2) rfl h
  refine ex_if_lt (tgt := 16) dX6_isKind_1 (by decide) (fun c_1 => ?_) (fun c_1 => ?_)
  ·
    refine ex_iconst (v := 0) dX6_isKind_16 (by decide) ?_
    exact hJ3 _ (by rw [if_pos c_1])
  ·
    refine ex_iload_n dX6_isKind_4 rfl ?_
    refine ex_gets (i := 1) dX6_isKind_5 (by decide) lk_X6_220 ?_
    refine ex_tlen (i := 1) dX6_isKind_8 (by decide) ?_
    refine ex_icmp_ge (tgt := 16) dX6_isKind_9 (by decide) (fun c_9 => ?_) (fun c_9 => ?_)
    ·
      refine ex_iconst (v := 0) dX6_isKind_16 (by decide) ?_
      exact hJ3 _ (by rw [if_neg c_1, if_pos c_9])
    ·
      refine ex_iconst (v := 1) dX6_isKind_12 (by decide) ?_
      refine ex_goto (tgt := 17) dX6_isKind_13 (by decide) ?_
      exact hJ3 _ (by rw [if_neg c_1, if_neg c_9])
def w_X6_isDots (p1 : Int32) (M : Mem) (Q : Int32 → Mem → Prop) : Prop := ∀ z1 : Int32, z1 = (if p1 < 0 then 0 else (if 2 < p1 then 0 else 1)) → (z1 = 0 ∨ z1 = 1) ∧ (Q z1 M)
theorem t_X6_isDots (p1 : Int32) (M : Mem) (Q : Int32 → Mem → Prop) (h : w_X6_isDots  p1 M Q) : Ex true mX6_isDots 78 78 0 0 0 [.int p1] [] M Q := by
  unfold w_X6_isDots at h
  refine ex_iload_n dX6_isDots_0 rfl ?_
  have hJ3 : ∀ z1 : Int32, z1 = (if p1 < 0 then 0 else (if 2 < p1 then 0 else 1)) → Ex true mX6_isDots 78 78 0 0 14 [.int p1] [.int z1] M Q := by
    intro z1 ez1
    replace h := h z1 ez1
    obtain ⟨b2, h⟩ := h
    exact ex_iret dX6_isDots_14 rfl (nr01 b2) rfl h
  refine ex_if_lt (tgt := 13) dX6_isDots_1 (by decide) (fun c_1 => ?_) (fun c_1 => ?_)
  ·
    refine ex_iconst (v := 0) dX6_isDots_13 (by decide) ?_
    exact hJ3 _ (by rw [if_pos c_1])
  ·
    refine ex_iload_n dX6_isDots_4 rfl ?_
    refine ex_iconst (v := 2) dX6_isDots_5 (by decide) ?_
    refine ex_icmp_gt (tgt := 13) dX6_isDots_6 (by decide) (fun c_6 => ?_) (fun c_6 => ?_)
    ·
      refine ex_iconst (v := 0) dX6_isDots_13 (by decide) ?_
      exact hJ3 _ (by rw [if_neg c_1, if_pos c_6])
    ·
      refine ex_iconst (v := 1) dX6_isDots_9 (by decide) ?_
      refine ex_goto (tgt := 14) dX6_isDots_10 (by decide) ?_
      exact hJ3 _ (by rw [if_neg c_1, if_neg c_6])
