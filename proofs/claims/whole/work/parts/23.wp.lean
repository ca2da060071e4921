def wb_X5_load_17 (m : Nat) (Q : Int32 → Mem → Prop) (B17 : Int32 → Int32 → Int32 → Int32 → Int32 → Mem → Prop) (l2 : Int32) (l3 : Int32) (l4 : Int32) (l5 : Int32) (l6 : Int32) (M : Mem) : Prop := (((M 35 2) ≤ l6) → (∀ z2 : Int32, z2 = (if l5 < 0 then 0 else (if (l5 - l5 / 15 * 15) = 0 then (if 137 ≤ (l5 / 15) then 0 else 1) else 0)) → ∀ z3 : Int32, z3 = (if z2 = 0 then (-1) else (l5 / 15)) → Q z3 M)) ∧ (¬ ((M 35 2) ≤ l6) → ((vp_in (l2 + l6) 600) ∧ ((vp_in (l2 + l6) 600) ∧ (w_X6_lengthOf (M (m + 8) (Int32.toNatClampNeg (l2 + l6))) 1 (M (m + 10) (Int32.toNatClampNeg (l2 + l6))) M (fun v8 M9 => (vp_in l6 40) ∧ (∀ M11 : Mem, M11 = (mset M9 37 (Int32.toNatClampNeg l6) v8) → (vp_in l6 40) ∧ (∀ x13 : Int32, x13 = (l5 - (M11 37 (Int32.toNatClampNeg l6))) → ∀ x14 : Int32, x14 = l6 + 1 → B17 l2 l3 l4 x13 x14 M11)))))))
def w_X5_load_17 (m : Nat) (Q : Int32 → Mem → Prop) : Nat → Int32 → Int32 → Int32 → Int32 → Int32 → Mem → Prop
  | 0 => fun _ _ _ _ _ _ => False
  | k + 1 => wb_X5_load_17 m Q  (w_X5_load_17 m Q  k)
theorem t_X5_load_17 (m : Nat) (hm : MU m) (Q : Int32 → Mem → Prop) : ∀ (k : Nat) (l2 : Int32) (l3 : Int32) (l4 : Int32) (l5 : Int32) (l6 : Int32) (M : Mem), w_X5_load_17 m Q  k l2 l3 l4 l5 l6 M → Ex true mX5_load 78 78 0 0 17 [.ref 35, .ref m, .int l2, .int l3, .int l4, .int l5, .int l6] [] M Q := by
  intro k
  induction k with
  | zero => intro l2 l3 l4 l5 l6 M h; exact False.elim h
  | succ k hB17 =>
    intro l2 l3 l4 l5 l6 M h
    replace h : wb_X5_load_17 m Q  (w_X5_load_17 m Q  k) l2 l3 l4 l5 l6 M := h
    generalize w_X5_load_17 m Q  k = B17 at hB17 h
    unfold wb_X5_load_17 at h
    refine ex_iload dX5_load_17 rfl ?_
    refine ex_aload_n dX5_load_19 rfl ?_
    refine ex_getI (ci := 5) (j := 2) dX5_load_20 (by decide) rfl rfl lk_X5_51 ?_
    refine ex_icmp_ge (tgt := 73) dX5_load_23 (by decide) (fun c_23 => ?_) (fun c_23 => ?_)
    · replace h := h.1 c_23
      refine ex_iload dX5_load_73 rfl ?_
      have hJ5 : ∀ z2 : Int32, z2 = (if l5 < 0 then 0 else (if (l5 - l5 / 15 * 15) = 0 then (if 137 ≤ (l5 / 15) then 0 else 1) else 0)) → Ex true mX5_load 78 78 0 0 102 [.ref 35, .ref m, .int l2, .int l3, .int l4, .int l5, .int l6] [.int z2] M Q := by
        intro z2 ez2
        replace h := h z2 ez2
        refine ex_istore (L2 := [.ref 35, .ref m, .int l2, .int l3, .int l4, .int l5, .int z2]) dX5_load_102 (by decide) rfl rfl ?_
        refine ex_iload dX5_load_104 rfl ?_
        have hJ4 : ∀ z3 : Int32, z3 = (if z2 = 0 then (-1) else (l5 / 15)) → Ex true mX5_load 78 78 0 0 118 [.ref 35, .ref m, .int l2, .int l3, .int l4, .int l5, .int z2] [.int z3] M Q := by
          intro z3 ez3
          replace h := h z3 ez3
          exact ex_iret dX5_load_118 rfl rfl rfl h
        refine ex_if_eq (tgt := 117) dX5_load_106 (by decide) (fun c_106 => ?_) (fun c_106 => ?_)
        ·
          refine ex_iconst (v := (-1)) dX5_load_117 (by decide) ?_
          exact hJ4 _ (by rw [if_pos c_106])
        ·
          refine ex_iload dX5_load_109 rfl ?_
          refine ex_bipush (v := 15) dX5_load_111 (by decide) ?_
          refine ex_idiv dX5_load_113 (by decide) ?_
          refine ex_goto (tgt := 118) dX5_load_114 (by decide) ?_
          exact hJ4 _ (by rw [if_neg c_106])
      refine ex_if_lt (tgt := 101) dX5_load_75 (by decide) (fun c_75 => ?_) (fun c_75 => ?_)
      ·
        refine ex_iconst (v := 0) dX5_load_101 (by decide) ?_
        exact hJ5 _ (by rw [if_pos c_75])
      ·
        refine ex_iload dX5_load_78 rfl ?_
        refine ex_bipush (v := 15) dX5_load_80 (by decide) ?_
        refine ex_irem dX5_load_82 (by decide) ?_
        refine ex_if_ne (tgt := 101) dX5_load_83 (by decide) (fun c_83 => ?_) (fun c_83 => ?_)
        ·
          refine ex_iconst (v := 0) dX5_load_101 (by decide) ?_
          exact hJ5 _ (by rw [if_neg c_75, if_neg c_83])
        ·
          refine ex_iload dX5_load_86 rfl ?_
          refine ex_bipush (v := 15) dX5_load_88 (by decide) ?_
          refine ex_idiv dX5_load_90 (by decide) ?_
          refine ex_sipush (v := 137) dX5_load_91 (by decide) ?_
          refine ex_icmp_ge (tgt := 101) dX5_load_94 (by decide) (fun c_94 => ?_) (fun c_94 => ?_)
          ·
            refine ex_iconst (v := 0) dX5_load_101 (by decide) ?_
            exact hJ5 _ (by rw [if_neg c_75, if_pos c_83, if_pos c_94])
          ·
            refine ex_iconst (v := 1) dX5_load_97 (by decide) ?_
            refine ex_goto (tgt := 102) dX5_load_98 (by decide) ?_
            exact hJ5 _ (by rw [if_neg c_75, if_pos c_83, if_neg c_94])
    · replace h := h.2 c_23
      refine ex_aload_n dX5_load_26 rfl ?_
      refine ex_getR (ci := 5) (j := 1) (v := 37) dX5_load_27 (by decide) rfl rfl lk_X5_15 rfl (by decide) ?_
      refine ex_iload dX5_load_30 rfl ?_
      refine ex_aload_n dX5_load_32 rfl ?_
      refine ex_getR (ci := 0) (j := 11) (v := m + 8) dX5_load_33 (mu_l hm 0 (by decide)) (mu_S0 hm) rfl lk_X5_67 (mu_F11 hm) (by omega) ?_
      refine ex_iload_n dX5_load_36 rfl ?_
      refine ex_iload dX5_load_37 rfl ?_
      refine ex_iadd dX5_load_39 ?_
      obtain ⟨b6, h⟩ := h
      refine ex_iald dX5_load_40 (mu_l hm 8 (by decide)) (mu_S8 hm) b6 ?_
      refine ex_iconst (v := 1) dX5_load_41 (by decide) ?_
      refine ex_aload_n dX5_load_42 rfl ?_
      refine ex_getR (ci := 0) (j := 13) (v := m + 10) dX5_load_43 (mu_l hm 0 (by decide)) (mu_S0 hm) rfl lk_X5_70 (mu_F13 hm) (by omega) ?_
      refine ex_iload_n dX5_load_46 rfl ?_
      refine ex_iload dX5_load_47 rfl ?_
      refine ex_iadd dX5_load_49 ?_
      obtain ⟨b7, h⟩ := h
      refine ex_iald dX5_load_50 (mu_l hm 10 (by decide)) (mu_S10 hm) b7 ?_
      refine ex_invS (as := [.int (M (m + 8) (Int32.toNatClampNeg (l2 + l6))), .int 1, .int (M (m + 10) (Int32.toNatClampNeg (l2 + l6)))]) (L2 := [.int (M (m + 8) (Int32.toNatClampNeg (l2 + l6))), .int 1, .int (M (m + 10) (Int32.toNatClampNeg (l2 + l6)))]) (st := [.int l6, .ref 37]) 0 0 dX5_load_51 lk_X5_73 sl_X6_lengthOf (rmK_of rfl) rfl (Nat.le_of_ble_eq_true rfl) (Nat.le_of_ble_eq_true rfl) (t_X6_lengthOf   (M (m + 8) (Int32.toNatClampNeg (l2 + l6))) 1 (M (m + 10) (Int32.toNatClampNeg (l2 + l6))) M _ h) (fun v8 M9 h => ?_)
      show Ex true mX5_load 78 78 0 0 54 [.ref 35, .ref m, .int l2, .int l3, .int l4, .int l5, .int l6] [.int v8, .int l6, .ref 37] M9 Q
      obtain ⟨b10, h⟩ := h
      refine ex_iast dX5_load_54 (by decide) rfl b10 ?_
      refine ex_nmM (fun M11 eM11 => ?_)
      replace h := h M11 eM11
      refine ex_iload dX5_load_55 rfl ?_
      refine ex_aload_n dX5_load_57 rfl ?_
      refine ex_getR (ci := 5) (j := 1) (v := 37) dX5_load_58 (by decide) rfl rfl lk_X5_15 rfl (by decide) ?_
      refine ex_iload dX5_load_61 rfl ?_
      obtain ⟨b12, h⟩ := h
      refine ex_iald dX5_load_63 (by decide) rfl b12 ?_
      refine ex_isub dX5_load_64 ?_
      refine ex_top (fun x13 ex13 => ?_)
      replace h := h x13 ex13
      refine ex_istore (L2 := [.ref 35, .ref m, .int l2, .int l3, .int l4, .int x13, .int l6]) dX5_load_65 (by decide) rfl rfl ?_
      refine ex_iinc (v := l6 + 1) (L2 := [.ref 35, .ref m, .int l2, .int l3, .int l4, .int x13, .int (l6 + 1)]) dX5_load_67 rfl rfl (by decide) rfl rfl ?_
      obtain ⟨x14, ex14⟩ : ∃ x14 : Int32, x14 = l6 + 1 := ⟨_, rfl⟩
      rw [← ex14]
      replace h := h x14 ex14
      refine ex_goto (tgt := 17) dX5_load_70 (by decide) ?_
      exact hB17 l2 l3 l4 x13 x14 M11 h
def w_X5_load (m : Nat) (p2 : Int32) (p3 : Int32) (p4 : Int32) (M : Mem) (Q : Int32 → Mem → Prop) : Prop := ∀ M1 : Mem, M1 = (mset M 35 2 (if 40 < p3 then 40 else p3)) → ∃ k, w_X5_load_17 m Q  k p2 p3 p4 p4 0 M1
theorem t_X5_load (m : Nat) (hm : MU m) (p2 : Int32) (p3 : Int32) (p4 : Int32) (M : Mem) (Q : Int32 → Mem → Prop) (h : w_X5_load m p2 p3 p4 M Q) : Ex true mX5_load 78 78 0 0 0 [.ref 35, .ref m, .int p2, .int p3, .int p4, .null, .null] [] M Q := by
  unfold w_X5_load at h
  refine ex_aload_n dX5_load_0 rfl ?_
  refine ex_iload_n dX5_load_1 rfl ?_
  refine ex_bipush (v := 40) dX5_load_2 (by decide) ?_
  refine ex_min dX5_load_4 lk_X5_61 (by decide) (Nat.le_of_ble_eq_true rfl) ?_
  refine ex_putI (ci := 5) (j := 2) dX5_load_7 (by decide) rfl rfl lk_X5_51 ⟨rfl, rfl⟩ ?_
  refine ex_nmM (fun M1 eM1 => ?_)
  replace h := h M1 eM1
  refine ex_iload dX5_load_10 rfl ?_
  refine ex_istore (L2 := [.ref 35, .ref m, .int p2, .int p3, .int p4, .int p4, .null]) dX5_load_12 (by decide) rfl rfl ?_
  refine ex_iconst (v := 0) dX5_load_14 (by decide) ?_
  refine ex_istore (L2 := [.ref 35, .ref m, .int p2, .int p3, .int p4, .int p4, .int 0]) dX5_load_15 (by decide) rfl rfl ?_
  obtain ⟨k_, h⟩ := h
  exact t_X5_load_17 m hm  Q   k_ p2 p3 p4 p4 0 M1 h
def wb_X5_layEnd_10 (Q : Int32 → Mem → Prop) (B2 : Int32 → Int32 → Int32 → Mem → Prop) (B10 : Int32 → Int32 → Int32 → Int32 → Mem → Prop) (l1 : Int32) (l2 : Int32) (l3 : Int32) (l4 : Int32) (M : Mem) : Prop := ((1 < l4) → (∀ x1 : Int32, x1 = l3 + 1 → B2 l1 l2 x1 M)) ∧ (¬ (1 < l4) → (∀ z2 : Int32, z2 = (if l3 = 0 then (if l2 = (-1) then 1 else (if l2 = l4 then 1 else 0)) else 0) → ∀ z3 : Int32, z3 = (if z2 = 0 then 1000 else 0) → (vp_in ((((M 35 2) * 274) + (l3 * 2)) + l4) 11234) ∧ (∀ M5 : Mem, M5 = (mset M 38 (Int32.toNatClampNeg ((((M 35 2) * 274) + (l3 * 2)) + l4)) z3) → ∀ x6 : Int32, x6 = l4 + 1 → B10 l1 l2 l3 x6 M5)))
def w_X5_layEnd_10 (Q : Int32 → Mem → Prop) (B2 : Int32 → Int32 → Int32 → Mem → Prop) : Nat → Int32 → Int32 → Int32 → Int32 → Mem → Prop
  | 0 => fun _ _ _ _ _ => False
  | k + 1 => wb_X5_layEnd_10  Q B2 (w_X5_layEnd_10  Q B2 k)
theorem t_X5_layEnd_10 (Q : Int32 → Mem → Prop) (B2 : Int32 → Int32 → Int32 → Mem → Prop) (hB2 : ∀ (l1 : Int32) (l2 : Int32) (l3 : Int32) (M : Mem), B2 l1 l2 l3 M → Ex true mX5_layEnd 78 78 0 0 2 [.ref 35, .int l1, .int l2, .int l3, .null, .null] [] M Q) : ∀ (k : Nat) (l1 : Int32) (l2 : Int32) (l3 : Int32) (l4 : Int32) (M : Mem), w_X5_layEnd_10  Q B2 k l1 l2 l3 l4 M → Ex true mX5_layEnd 78 78 0 0 10 [.ref 35, .int l1, .int l2, .int l3, .int l4, .null] [] M Q := by
  intro k
  induction k with
  | zero => intro l1 l2 l3 l4 M h; exact False.elim h
  | succ k hB10 =>
    intro l1 l2 l3 l4 M h
    replace h : wb_X5_layEnd_10  Q B2 (w_X5_layEnd_10  Q B2 k) l1 l2 l3 l4 M := h
    generalize w_X5_layEnd_10  Q B2 k = B10 at hB10 h
    unfold wb_X5_layEnd_10 at h
    refine ex_iload dX5_layEnd_10 rfl ?_
    refine ex_iconst (v := 1) dX5_layEnd_12 (by decide) ?_
    refine ex_icmp_gt (tgt := 76) dX5_layEnd_13 (by decide) (fun c_13 => ?_) (fun c_13 => ?_)
    · replace h := h.1 c_13
      refine ex_iinc (v := l3 + 1) (L2 := [.ref 35, .int l1, .int l2, .int (l3 + 1), .int l4, .null]) dX5_layEnd_76 rfl rfl (by decide) rfl rfl ?_
      obtain ⟨x1, ex1⟩ : ∃ x1 : Int32, x1 = l3 + 1 := ⟨_, rfl⟩
      rw [← ex1]
      replace h := h x1 ex1
      refine ex_goto (tgt := 2) dX5_layEnd_79 (by decide) ?_
      refine ex_less (L2 := [.ref 35, .int l1, .int l2, .int x1, .null, .null]) ?_ (by intro i v hi hn; match i, hi with | 0, hi => exact hi | 1, hi => exact hi | 2, hi => exact hi | 3, hi => exact hi | 4, hi => (cases hi; cases hn) | 5, hi => exact hi | k + 6, hi => (exact absurd hi (by simp)))
      exact hB2 l1 l2 x1 M h
    · replace h := h.2 c_13
      refine ex_iload_n dX5_layEnd_16 rfl ?_
      have hJ8 : ∀ z2 : Int32, z2 = (if l3 = 0 then (if l2 = (-1) then 1 else (if l2 = l4 then 1 else 0)) else 0) → Ex true mX5_layEnd 78 78 0 0 36 [.ref 35, .int l1, .int l2, .int l3, .int l4, .null] [.int z2] M Q := by
        intro z2 ez2
        replace h := h z2 ez2
        refine ex_istore (L2 := [.ref 35, .int l1, .int l2, .int l3, .int l4, .int z2]) dX5_layEnd_36 (by decide) rfl rfl ?_
        refine ex_aload_n dX5_layEnd_38 rfl ?_
        refine ex_getR (ci := 5) (j := 3) (v := 38) dX5_layEnd_39 (by decide) rfl rfl lk_X5_18 rfl (by decide) ?_
        refine ex_aload_n dX5_layEnd_42 rfl ?_
        refine ex_getI (ci := 5) (j := 2) dX5_layEnd_43 (by decide) rfl rfl lk_X5_51 ?_
        refine ex_sipush (v := 274) dX5_layEnd_46 (by decide) ?_
        refine ex_imul dX5_layEnd_49 ?_
        refine ex_iload_n dX5_layEnd_50 rfl ?_
        refine ex_iconst (v := 2) dX5_layEnd_51 (by decide) ?_
        refine ex_imul dX5_layEnd_52 ?_
        refine ex_iadd dX5_layEnd_53 ?_
        refine ex_iload dX5_layEnd_54 rfl ?_
        refine ex_iadd dX5_layEnd_56 ?_
        refine ex_iload dX5_layEnd_57 rfl ?_
        have hJ7 : ∀ z3 : Int32, z3 = (if z2 = 0 then 1000 else 0) → Ex true mX5_layEnd 78 78 0 0 69 [.ref 35, .int l1, .int l2, .int l3, .int l4, .int z2] [.int z3, .int ((((M 35 2) * 274) + (l3 * 2)) + l4), .ref 38] M Q := by
          intro z3 ez3
          replace h := h z3 ez3
          obtain ⟨b4, h⟩ := h
          refine ex_iast dX5_layEnd_69 (by decide) rfl b4 ?_
          refine ex_nmM (fun M5 eM5 => ?_)
          replace h := h M5 eM5
          refine ex_iinc (v := l4 + 1) (L2 := [.ref 35, .int l1, .int l2, .int l3, .int (l4 + 1), .int z2]) dX5_layEnd_70 rfl rfl (by decide) rfl rfl ?_
          obtain ⟨x6, ex6⟩ : ∃ x6 : Int32, x6 = l4 + 1 := ⟨_, rfl⟩
          rw [← ex6]
          replace h := h x6 ex6
          refine ex_goto (tgt := 10) dX5_layEnd_73 (by decide) ?_
          refine ex_less (L2 := [.ref 35, .int l1, .int l2, .int l3, .int x6, .null]) ?_ (by intro i v hi hn; match i, hi with | 0, hi => exact hi | 1, hi => exact hi | 2, hi => exact hi | 3, hi => exact hi | 4, hi => exact hi | 5, hi => (cases hi; cases hn) | k + 6, hi => (exact absurd hi (by simp)))
          exact hB10 l1 l2 l3 x6 M5 h
        refine ex_if_eq (tgt := 66) dX5_layEnd_59 (by decide) (fun c_59 => ?_) (fun c_59 => ?_)
        ·
          refine ex_sipush (v := 1000) dX5_layEnd_66 (by decide) ?_
          exact hJ7 _ (by rw [if_pos c_59])
        ·
          refine ex_iconst (v := 0) dX5_layEnd_62 (by decide) ?_
          refine ex_goto (tgt := 69) dX5_layEnd_63 (by decide) ?_
          exact hJ7 _ (by rw [if_neg c_59])
      refine ex_if_ne (tgt := 35) dX5_layEnd_17 (by decide) (fun c_17 => ?_) (fun c_17 => ?_)
      ·
        refine ex_iconst (v := 0) dX5_layEnd_35 (by decide) ?_
        exact hJ8 _ (by rw [if_neg c_17])
      ·
        refine ex_iload_n dX5_layEnd_20 rfl ?_
        refine ex_iconst (v := (-1)) dX5_layEnd_21 (by decide) ?_
        refine ex_icmp_eq (tgt := 31) dX5_layEnd_22 (by decide) (fun c_22 => ?_) (fun c_22 => ?_)
        ·
          refine ex_iconst (v := 1) dX5_layEnd_31 (by decide) ?_
          refine ex_goto (tgt := 36) dX5_layEnd_32 (by decide) ?_
          exact hJ8 _ (by rw [if_pos c_17, if_pos c_22])
        ·
          refine ex_iload_n dX5_layEnd_25 rfl ?_
          refine ex_iload dX5_layEnd_26 rfl ?_
          refine ex_icmp_ne (tgt := 35) dX5_layEnd_28 (by decide) (fun c_28 => ?_) (fun c_28 => ?_)
          ·
            refine ex_iconst (v := 0) dX5_layEnd_35 (by decide) ?_
            exact hJ8 _ (by rw [if_pos c_17, if_neg c_22, if_neg c_28])
          ·
            refine ex_iconst (v := 1) dX5_layEnd_31 (by decide) ?_
            refine ex_goto (tgt := 36) dX5_layEnd_32 (by decide) ?_
            exact hJ8 _ (by rw [if_pos c_17, if_neg c_22, if_pos c_28])
def wb_X5_layEnd_2 (Q : Int32 → Mem → Prop) (B2 : Int32 → Int32 → Int32 → Mem → Prop) (l1 : Int32) (l2 : Int32) (l3 : Int32) (M : Mem) : Prop := ((l1 < l3) → (Q 0 M)) ∧ (¬ (l1 < l3) → (∃ k, w_X5_layEnd_10  Q B2 k l1 l2 l3 0 M))
def w_X5_layEnd_2 (Q : Int32 → Mem → Prop) : Nat → Int32 → Int32 → Int32 → Mem → Prop
  | 0 => fun _ _ _ _ => False
  | k + 1 => wb_X5_layEnd_2  Q  (w_X5_layEnd_2  Q  k)
theorem t_X5_layEnd_2 (Q : Int32 → Mem → Prop) : ∀ (k : Nat) (l1 : Int32) (l2 : Int32) (l3 : Int32) (M : Mem), w_X5_layEnd_2  Q  k l1 l2 l3 M → Ex true mX5_layEnd 78 78 0 0 2 [.ref 35, .int l1, .int l2, .int l3, .null, .null] [] M Q := by
  intro k
  induction k with
  | zero => intro l1 l2 l3 M h; exact False.elim h
  | succ k hB2 =>
    intro l1 l2 l3 M h
    replace h : wb_X5_layEnd_2  Q  (w_X5_layEnd_2  Q  k) l1 l2 l3 M := h
    generalize w_X5_layEnd_2  Q  k = B2 at hB2 h
    unfold wb_X5_layEnd_2 at h
    refine ex_iload_n dX5_layEnd_2 rfl ?_
    refine ex_iload_n dX5_layEnd_3 rfl ?_
    refine ex_icmp_gt (tgt := 82) dX5_layEnd_4 (by decide) (fun c_4 => ?_) (fun c_4 => ?_)
    · replace h := h.1 c_4
      exact ex_vret dX5_layEnd_82 rfl rfl h
    · replace h := h.2 c_4
      refine ex_iconst (v := 0) dX5_layEnd_7 (by decide) ?_
      refine ex_istore (L2 := [.ref 35, .int l1, .int l2, .int l3, .int 0, .null]) dX5_layEnd_8 (by decide) rfl rfl ?_
      obtain ⟨k_, h⟩ := h
      exact t_X5_layEnd_10   Q B2 hB2 k_ l1 l2 l3 0 M h
def w_X5_layEnd (p1 : Int32) (p2 : Int32) (M : Mem) (Q : Int32 → Mem → Prop) : Prop := ∃ k, w_X5_layEnd_2  Q  k p1 p2 0 M
theorem t_X5_layEnd (p1 : Int32) (p2 : Int32) (M : Mem) (Q : Int32 → Mem → Prop) (h : w_X5_layEnd  p1 p2 M Q) : Ex true mX5_layEnd 78 78 0 0 0 [.ref 35, .int p1, .int p2, .null, .null, .null] [] M Q := by
  unfold w_X5_layEnd at h
  refine ex_iconst (v := 0) dX5_layEnd_0 (by decide) ?_
  refine ex_istore_n (L2 := [.ref 35, .int p1, .int p2, .int 0, .null, .null]) dX5_layEnd_1 (by decide) rfl rfl ?_
  obtain ⟨k_, h⟩ := h
  exact t_X5_layEnd_2   Q   k_ p1 p2 0 M h
def w_X5_leastBehind (p1 : Int32) (p2 : Int32) (p3 : Int32) (M : Mem) (Q : Int32 → Mem → Prop) : Prop := ∀ x1 : Int32, x1 = ((p1 * 274) + (p2 * 2)) → (vp_in (x1 + p3) 11234) ∧ (∀ x3 : Int32, x3 = (M 38 (Int32.toNatClampNeg (x1 + p3))) → (vp_in ((x1 + 1) - p3) 11234) ∧ (∀ x5 : Int32, x5 = ((M 38 (Int32.toNatClampNeg ((x1 + 1) - p3))) + 1) → ∀ z6 : Int32, z6 = (if x5 ≤ x3 then x5 else x3) → Q z6 M))
theorem t_X5_leastBehind (p1 : Int32) (p2 : Int32) (p3 : Int32) (M : Mem) (Q : Int32 → Mem → Prop) (h : w_X5_leastBehind  p1 p2 p3 M Q) : Ex true mX5_leastBehind 78 78 0 0 0 [.ref 35, .int p1, .int p2, .int p3, .null, .null, .null] [] M Q := by
  unfold w_X5_leastBehind at h
  refine ex_iload_n dX5_leastBehind_0 rfl ?_
  refine ex_sipush (v := 274) dX5_leastBehind_1 (by decide) ?_
  refine ex_imul dX5_leastBehind_4 ?_
  refine ex_iload_n dX5_leastBehind_5 rfl ?_
  refine ex_iconst (v := 2) dX5_leastBehind_6 (by decide) ?_
  refine ex_imul dX5_leastBehind_7 ?_
  refine ex_iadd dX5_leastBehind_8 ?_
  refine ex_top (fun x1 ex1 => ?_)
  replace h := h x1 ex1
  refine ex_istore (L2 := [.ref 35, .int p1, .int p2, .int p3, .int x1, .null, .null]) dX5_leastBehind_9 (by decide) rfl rfl ?_
  refine ex_aload_n dX5_leastBehind_11 rfl ?_
  refine ex_getR (ci := 5) (j := 3) (v := 38) dX5_leastBehind_12 (by decide) rfl rfl lk_X5_18 rfl (by decide) ?_
  refine ex_iload dX5_leastBehind_15 rfl ?_
  refine ex_iload_n dX5_leastBehind_17 rfl ?_
  refine ex_iadd dX5_leastBehind_18 ?_
  obtain ⟨b2, h⟩ := h
  refine ex_iald dX5_leastBehind_19 (by decide) rfl b2 ?_
  refine ex_top (fun x3 ex3 => ?_)
  replace h := h x3 ex3
  refine ex_istore (L2 := [.ref 35, .int p1, .int p2, .int p3, .int x1, .int x3, .null]) dX5_leastBehind_20 (by decide) rfl rfl ?_
  refine ex_aload_n dX5_leastBehind_22 rfl ?_
  refine ex_getR (ci := 5) (j := 3) (v := 38) dX5_leastBehind_23 (by decide) rfl rfl lk_X5_18 rfl (by decide) ?_
  refine ex_iload dX5_leastBehind_26 rfl ?_
  refine ex_iconst (v := 1) dX5_leastBehind_28 (by decide) ?_
  refine ex_iadd dX5_leastBehind_29 ?_
  refine ex_iload_n dX5_leastBehind_30 rfl ?_
  refine ex_isub dX5_leastBehind_31 ?_
  obtain ⟨b4, h⟩ := h
  refine ex_iald dX5_leastBehind_32 (by decide) rfl b4 ?_
  refine ex_iconst (v := 1) dX5_leastBehind_33 (by decide) ?_
  refine ex_iadd dX5_leastBehind_34 ?_
  refine ex_top (fun x5 ex5 => ?_)
  replace h := h x5 ex5
  refine ex_istore (L2 := [.ref 35, .int p1, .int p2, .int p3, .int x1, .int x3, .int x5]) dX5_leastBehind_35 (by decide) rfl rfl ?_
  refine ex_iload dX5_leastBehind_37 rfl ?_
  refine ex_iload dX5_leastBehind_39 rfl ?_
  have hJ7 : ∀ z6 : Int32, z6 = (if x5 ≤ x3 then x5 else x3) → Ex true mX5_leastBehind 78 78 0 0 51 [.ref 35, .int p1, .int p2, .int p3, .int x1, .int x3, .int x5] [.int z6] M Q := by
    intro z6 ez6
    replace h := h z6 ez6
    exact ex_iret dX5_leastBehind_51 rfl rfl rfl h
  refine ex_icmp_ge (tgt := 49) dX5_leastBehind_41 (by decide) (fun c_41 => ?_) (fun c_41 => ?_)
  ·
    refine ex_iload dX5_leastBehind_49 rfl ?_
    exact hJ7 _ (by rw [if_pos c_41])
  ·
    refine ex_iload dX5_leastBehind_44 rfl ?_
    refine ex_goto (tgt := 51) dX5_leastBehind_46 (by decide) ?_
    exact hJ7 _ (by rw [if_neg c_41])
def w_X5_layItem_58 (Q : Int32 → Mem → Prop) (B2 : Int32 → Int32 → Int32 → Mem → Prop) (l1 : Int32) (l2 : Int32) (l3 : Int32) (l4 : Int32) (t0 : Int32) (t1 : Int32) (M : Mem) : Prop := (vp_in t1 11234) ∧ (∀ M7 : Mem, M7 = (mset M 38 (Int32.toNatClampNeg t1) t0) → w_X5_leastBehind (l1 + 1) l3 1 M7 (fun v8 M9 => (vp_in (l4 + 1) 11234) ∧ (∀ M11 : Mem, M11 = (mset M9 38 (Int32.toNatClampNeg (l4 + 1)) v8) → ∀ x12 : Int32, x12 = l3 + 1 → B2 l1 l2 x12 M11)))
theorem t_X5_layItem_58 (Q : Int32 → Mem → Prop) (B2 : Int32 → Int32 → Int32 → Mem → Prop) (hB2 : ∀ (l1 : Int32) (l2 : Int32) (l3 : Int32) (M : Mem), B2 l1 l2 l3 M → Ex true mX5_layItem 78 78 0 0 2 [.ref 35, .int l1, .int l2, .int l3, .null] [] M Q) (l1 : Int32) (l2 : Int32) (l3 : Int32) (l4 : Int32) (t0 : Int32) (t1 : Int32) (M : Mem) (h : w_X5_layItem_58  Q B2 l1 l2 l3 l4 t0 t1 M) : Ex true mX5_layItem 78 78 0 0 58 [.ref 35, .int l1, .int l2, .int l3, .int l4] [.int t0, .int t1, .ref 38] M Q := by
  unfold w_X5_layItem_58 at h
  obtain ⟨b6, h⟩ := h
  refine ex_iast dX5_layItem_58 (by decide) rfl b6 ?_
  refine ex_nmM (fun M7 eM7 => ?_)
  replace h := h M7 eM7
  refine ex_aload_n dX5_layItem_59 rfl ?_
  refine ex_getR (ci := 5) (j := 3) (v := 38) dX5_layItem_60 (by decide) rfl rfl lk_X5_18 rfl (by decide) ?_
  refine ex_iload dX5_layItem_63 rfl ?_
  refine ex_iconst (v := 1) dX5_layItem_65 (by decide) ?_
  refine ex_iadd dX5_layItem_66 ?_
  refine ex_aload_n dX5_layItem_67 rfl ?_
  refine ex_iload_n dX5_layItem_68 rfl ?_
  refine ex_iconst (v := 1) dX5_layItem_69 (by decide) ?_
  refine ex_iadd dX5_layItem_70 ?_
  refine ex_iload_n dX5_layItem_71 rfl ?_
  refine ex_iconst (v := 1) dX5_layItem_72 (by decide) ?_
  refine ex_invV (k := 35) (ci := 5) (as := [.int (l1 + 1), .int l3, .int 1]) (L2 := [.ref 35, .int (l1 + 1), .int l3, .int 1, .null, .null, .null]) (st := [.int (l4 + 1), .ref 38]) 0 0 dX5_layItem_73 lk_X5_77 sl_X5_leastBehind (rmK_of rfl) (by decide) rfl ⟨by decide, rfl⟩ rfl (Nat.le_of_ble_eq_true rfl) (Nat.le_of_ble_eq_true rfl) (t_X5_leastBehind   (l1 + 1) l3 1 M7 _ h) (fun v8 M9 h => ?_)
  show Ex true mX5_layItem 78 78 0 0 76 [.ref 35, .int l1, .int l2, .int l3, .int l4] [.int v8, .int (l4 + 1), .ref 38] M9 Q
  obtain ⟨b10, h⟩ := h
  refine ex_iast dX5_layItem_76 (by decide) rfl b10 ?_
  refine ex_nmM (fun M11 eM11 => ?_)
  replace h := h M11 eM11
  refine ex_iinc (v := l3 + 1) (L2 := [.ref 35, .int l1, .int l2, .int (l3 + 1), .int l4]) dX5_layItem_77 rfl rfl (by decide) rfl rfl ?_
  obtain ⟨x12, ex12⟩ : ∃ x12 : Int32, x12 = l3 + 1 := ⟨_, rfl⟩
  rw [← ex12]
  replace h := h x12 ex12
  refine ex_goto (tgt := 2) dX5_layItem_80 (by decide) ?_
  refine ex_less (L2 := [.ref 35, .int l1, .int l2, .int x12, .null]) ?_ (by intro i v hi hn; match i, hi with | 0, hi => exact hi | 1, hi => exact hi | 2, hi => exact hi | 3, hi => exact hi | 4, hi => (cases hi; cases hn) | k + 5, hi => (exact absurd hi (by simp)))
  exact hB2 l1 l2 x12 M11 h
def wb_X5_layItem_2 (Q : Int32 → Mem → Prop) (B2 : Int32 → Int32 → Int32 → Mem → Prop) (l1 : Int32) (l2 : Int32) (l3 : Int32) (M : Mem) : Prop := ((l2 < l3) → (Q 0 M)) ∧ (¬ (l2 < l3) → (∀ x1 : Int32, x1 = ((l1 * 274) + (l3 * 2)) → (vp_in l1 40) ∧ ((((M 37 (Int32.toNatClampNeg l1)) ≤ l3) → ((vp_in l1 40) ∧ (w_X5_leastBehind (l1 + 1) (l3 - (M 37 (Int32.toNatClampNeg l1))) 0 M (fun v4 M5 => w_X5_layItem_58  Q B2 l1 l2 l3 x1 v4 (x1 + 0) M5)))) ∧ (¬ ((M 37 (Int32.toNatClampNeg l1)) ≤ l3) → (w_X5_layItem_58  Q B2 l1 l2 l3 x1 1000 (x1 + 0) M)))))
def w_X5_layItem_2 (Q : Int32 → Mem → Prop) : Nat → Int32 → Int32 → Int32 → Mem → Prop
  | 0 => fun _ _ _ _ => False
  | k + 1 => wb_X5_layItem_2  Q  (w_X5_layItem_2  Q  k)
theorem t_X5_layItem_2 (Q : Int32 → Mem → Prop) : ∀ (k : Nat) (l1 : Int32) (l2 : Int32) (l3 : Int32) (M : Mem), w_X5_layItem_2  Q  k l1 l2 l3 M → Ex true mX5_layItem 78 78 0 0 2 [.ref 35, .int l1, .int l2, .int l3, .null] [] M Q := by
  intro k
  induction k with
  | zero => intro l1 l2 l3 M h; exact False.elim h
  | succ k hB2 =>
    intro l1 l2 l3 M h
    replace h : wb_X5_layItem_2  Q  (w_X5_layItem_2  Q  k) l1 l2 l3 M := h
    generalize w_X5_layItem_2  Q  k = B2 at hB2 h
    unfold wb_X5_layItem_2 at h
    refine ex_iload_n dX5_layItem_2 rfl ?_
    refine ex_iload_n dX5_layItem_3 rfl ?_
    refine ex_icmp_gt (tgt := 83) dX5_layItem_4 (by decide) (fun c_4 => ?_) (fun c_4 => ?_)
    · replace h := h.1 c_4
      exact ex_vret dX5_layItem_83 rfl rfl h
    · replace h := h.2 c_4
      refine ex_iload_n dX5_layItem_7 rfl ?_
      refine ex_sipush (v := 274) dX5_layItem_8 (by decide) ?_
      refine ex_imul dX5_layItem_11 ?_
      refine ex_iload_n dX5_layItem_12 rfl ?_
      refine ex_iconst (v := 2) dX5_layItem_13 (by decide) ?_
      refine ex_imul dX5_layItem_14 ?_
      refine ex_iadd dX5_layItem_15 ?_
      refine ex_top (fun x1 ex1 => ?_)
      replace h := h x1 ex1
      refine ex_istore (L2 := [.ref 35, .int l1, .int l2, .int l3, .int x1]) dX5_layItem_16 (by decide) rfl rfl ?_
      refine ex_aload_n dX5_layItem_18 rfl ?_
      refine ex_getR (ci := 5) (j := 3) (v := 38) dX5_layItem_19 (by decide) rfl rfl lk_X5_18 rfl (by decide) ?_
      refine ex_iload dX5_layItem_22 rfl ?_
      refine ex_iconst (v := 0) dX5_layItem_24 (by decide) ?_
      refine ex_iadd dX5_layItem_25 ?_
      refine ex_iload_n dX5_layItem_26 rfl ?_
      refine ex_aload_n dX5_layItem_27 rfl ?_
      refine ex_getR (ci := 5) (j := 1) (v := 37) dX5_layItem_28 (by decide) rfl rfl lk_X5_15 rfl (by decide) ?_
      refine ex_iload_n dX5_layItem_31 rfl ?_
      obtain ⟨b2, h⟩ := h
      refine ex_iald dX5_layItem_32 (by decide) rfl b2 ?_
      refine ex_icmp_ge (tgt := 42) dX5_layItem_33 (by decide) (fun c_33 => ?_) (fun c_33 => ?_)
      · replace h := h.1 c_33
        refine ex_aload_n dX5_layItem_42 rfl ?_
        refine ex_iload_n dX5_layItem_43 rfl ?_
        refine ex_iconst (v := 1) dX5_layItem_44 (by decide) ?_
        refine ex_iadd dX5_layItem_45 ?_
        refine ex_iload_n dX5_layItem_46 rfl ?_
        refine ex_aload_n dX5_layItem_47 rfl ?_
        refine ex_getR (ci := 5) (j := 1) (v := 37) dX5_layItem_48 (by decide) rfl rfl lk_X5_15 rfl (by decide) ?_
        refine ex_iload_n dX5_layItem_51 rfl ?_
        obtain ⟨b3, h⟩ := h
        refine ex_iald dX5_layItem_52 (by decide) rfl b3 ?_
        refine ex_isub dX5_layItem_53 ?_
        refine ex_iconst (v := 0) dX5_layItem_54 (by decide) ?_
        refine ex_invV (k := 35) (ci := 5) (as := [.int (l1 + 1), .int (l3 - (M 37 (Int32.toNatClampNeg l1))), .int 0]) (L2 := [.ref 35, .int (l1 + 1), .int (l3 - (M 37 (Int32.toNatClampNeg l1))), .int 0, .null, .null, .null]) (st := [.int (x1 + 0), .ref 38]) 0 0 dX5_layItem_55 lk_X5_77 sl_X5_leastBehind (rmK_of rfl) (by decide) rfl ⟨by decide, rfl⟩ rfl (Nat.le_of_ble_eq_true rfl) (Nat.le_of_ble_eq_true rfl) (t_X5_leastBehind   (l1 + 1) (l3 - (M 37 (Int32.toNatClampNeg l1))) 0 M _ h) (fun v4 M5 h => ?_)
        show Ex true mX5_layItem 78 78 0 0 58 [.ref 35, .int l1, .int l2, .int l3, .int x1] [.int v4, .int (x1 + 0), .ref 38] M5 Q
        exact t_X5_layItem_58   Q B2 hB2 l1 l2 l3 x1 v4 (x1 + 0) M5 h
      · replace h := h.2 c_33
        refine ex_sipush (v := 1000) dX5_layItem_36 (by decide) ?_
        refine ex_goto (tgt := 58) dX5_layItem_39 (by decide) ?_
        exact t_X5_layItem_58   Q B2 hB2 l1 l2 l3 x1 1000 (x1 + 0) M h
def w_X5_layItem (p1 : Int32) (p2 : Int32) (M : Mem) (Q : Int32 → Mem → Prop) : Prop := ∃ k, w_X5_layItem_2  Q  k p1 p2 0 M
theorem t_X5_layItem (p1 : Int32) (p2 : Int32) (M : Mem) (Q : Int32 → Mem → Prop) (h : w_X5_layItem  p1 p2 M Q) : Ex true mX5_layItem 78 78 0 0 0 [.ref 35, .int p1, .int p2, .null, .null] [] M Q := by
  unfold w_X5_layItem at h
  refine ex_iconst (v := 0) dX5_layItem_0 (by decide) ?_
  refine ex_istore_n (L2 := [.ref 35, .int p1, .int p2, .int 0, .null]) dX5_layItem_1 (by decide) rfl rfl ?_
  obtain ⟨k_, h⟩ := h
  exact t_X5_layItem_2   Q   k_ p1 p2 0 M h
def wb_X5_choose_38 (Q : Int32 → Mem → Prop) (B38 : Int32 → Int32 → Int32 → Int32 → Mem → Prop) (l1 : Int32) (l2 : Int32) (l3 : Int32) (l4 : Int32) (M : Mem) : Prop := (((M 35 2) ≤ l4) → (Q 1 M)) ∧ (¬ ((M 35 2) ≤ l4) → (∀ x3 : Int32, x3 = ((l4 * 274) + (l2 * 2)) → (vp_in (x3 + 0) 11234) ∧ (∀ z5 : Int32, z5 = (if l3 = 1 then 1 else 0) → ∀ x6 : Int32, x6 = ((M 38 (Int32.toNatClampNeg (x3 + 0))) + z5) → (vp_in (x3 + 1) 11234) ∧ (∀ z8 : Int32, z8 = (if l3 = 0 then 1 else 0) → ∀ x9 : Int32, x9 = ((M 38 (Int32.toNatClampNeg (x3 + 1))) + z8) → ∀ z10 : Int32, z10 = (if x9 < x6 then 1 else 0) → (vp_in l4 40) ∧ (∀ M12 : Mem, M12 = (mset M 36 (Int32.toNatClampNeg l4) z10) → (¬ (z10 = 0) → (∀ x13 : Int32, x13 = l4 + 1 → B38 l1 l2 z10 x13 M12)) ∧ ((z10 = 0) → ((vp_in l4 40) ∧ (∀ x15 : Int32, x15 = (if (l2 - (M12 37 (Int32.toNatClampNeg l4))) < 0 then 0 else (l2 - (M12 37 (Int32.toNatClampNeg l4)))) → ∀ x16 : Int32, x16 = l4 + 1 → B38 l1 x15 z10 x16 M12))))))))
def w_X5_choose_38 (Q : Int32 → Mem → Prop) : Nat → Int32 → Int32 → Int32 → Int32 → Mem → Prop
  | 0 => fun _ _ _ _ _ => False
  | k + 1 => wb_X5_choose_38  Q  (w_X5_choose_38  Q  k)
theorem t_X5_choose_38 (Q : Int32 → Mem → Prop) : ∀ (k : Nat) (l1 : Int32) (l2 : Int32) (l3 : Int32) (l4 : Int32) (M : Mem), w_X5_choose_38  Q  k l1 l2 l3 l4 M → Ex true mX5_choose 78 78 0 0 38 [.ref 35, .int l1, .int l2, .int l3, .int l4, .null, .null, .null] [] M Q := by
  intro k
  induction k with
  | zero => intro l1 l2 l3 l4 M h; exact False.elim h
  | succ k hB38 =>
    intro l1 l2 l3 l4 M h
    replace h : wb_X5_choose_38  Q  (w_X5_choose_38  Q  k) l1 l2 l3 l4 M := h
    generalize w_X5_choose_38  Q  k = B38 at hB38 h
    unfold wb_X5_choose_38 at h
    refine ex_iload dX5_choose_38 rfl ?_
    refine ex_aload_n dX5_choose_40 rfl ?_
    refine ex_getI (ci := 5) (j := 2) dX5_choose_41 (by decide) rfl rfl lk_X5_51 ?_
    refine ex_icmp_ge (tgt := 151) dX5_choose_44 (by decide) (fun c_44 => ?_) (fun c_44 => ?_)
    · replace h := h.1 c_44
      refine ex_iconst (v := 1) dX5_choose_151 (by decide) ?_
      exact ex_iret dX5_choose_152 rfl rfl rfl h
    · replace h := h.2 c_44
      refine ex_iload dX5_choose_47 rfl ?_
      refine ex_sipush (v := 274) dX5_choose_49 (by decide) ?_
      refine ex_imul dX5_choose_52 ?_
      refine ex_iload_n dX5_choose_53 rfl ?_
      refine ex_iconst (v := 2) dX5_choose_54 (by decide) ?_
      refine ex_imul dX5_choose_55 ?_
      refine ex_iadd dX5_choose_56 ?_
      refine ex_top (fun x3 ex3 => ?_)
      replace h := h x3 ex3
      refine ex_istore (L2 := [.ref 35, .int l1, .int l2, .int l3, .int l4, .int x3, .null, .null]) dX5_choose_57 (by decide) rfl rfl ?_
      refine ex_aload_n dX5_choose_59 rfl ?_
      refine ex_getR (ci := 5) (j := 3) (v := 38) dX5_choose_60 (by decide) rfl rfl lk_X5_18 rfl (by decide) ?_
      refine ex_iload dX5_choose_63 rfl ?_
      refine ex_iconst (v := 0) dX5_choose_65 (by decide) ?_
      refine ex_iadd dX5_choose_66 ?_
      obtain ⟨b4, h⟩ := h
      refine ex_iald dX5_choose_67 (by decide) rfl b4 ?_
      refine ex_iload_n dX5_choose_68 rfl ?_
      refine ex_iconst (v := 1) dX5_choose_69 (by decide) ?_
      have hJ19 : ∀ z5 : Int32, z5 = (if l3 = 1 then 1 else 0) → Ex true mX5_choose 78 78 0 0 78 [.ref 35, .int l1, .int l2, .int l3, .int l4, .int x3, .null, .null] [.int z5, .int (M 38 (Int32.toNatClampNeg (x3 + 0)))] M Q := by
        intro z5 ez5
        replace h := h z5 ez5
        refine ex_iadd dX5_choose_78 ?_
        refine ex_top (fun x6 ex6 => ?_)
        replace h := h x6 ex6
        refine ex_istore (L2 := [.ref 35, .int l1, .int l2, .int l3, .int l4, .int x3, .int x6, .null]) dX5_choose_79 (by decide) rfl rfl ?_
        refine ex_aload_n dX5_choose_81 rfl ?_
        refine ex_getR (ci := 5) (j := 3) (v := 38) dX5_choose_82 (by decide) rfl rfl lk_X5_18 rfl (by decide) ?_
        refine ex_iload dX5_choose_85 rfl ?_
        refine ex_iconst (v := 1) dX5_choose_87 (by decide) ?_
        refine ex_iadd dX5_choose_88 ?_
        obtain ⟨b7, h⟩ := h
        refine ex_iald dX5_choose_89 (by decide) rfl b7 ?_
        refine ex_iload_n dX5_choose_90 rfl ?_
        have hJ18 : ∀ z8 : Int32, z8 = (if l3 = 0 then 1 else 0) → Ex true mX5_choose 78 78 0 0 99 [.ref 35, .int l1, .int l2, .int l3, .int l4, .int x3, .int x6, .null] [.int z8, .int (M 38 (Int32.toNatClampNeg (x3 + 1)))] M Q := by
          intro z8 ez8
          replace h := h z8 ez8
          refine ex_iadd dX5_choose_99 ?_
          refine ex_top (fun x9 ex9 => ?_)
          replace h := h x9 ex9
          refine ex_istore (L2 := [.ref 35, .int l1, .int l2, .int l3, .int l4, .int x3, .int x6, .int x9]) dX5_choose_100 (by decide) rfl rfl ?_
          refine ex_iload dX5_choose_102 rfl ?_
          refine ex_iload dX5_choose_104 rfl ?_
          have hJ17 : ∀ z10 : Int32, z10 = (if x9 < x6 then 1 else 0) → Ex true mX5_choose 78 78 0 0 114 [.ref 35, .int l1, .int l2, .int l3, .int l4, .int x3, .int x6, .int x9] [.int z10] M Q := by
            intro z10 ez10
            replace h := h z10 ez10
            refine ex_istore_n (L2 := [.ref 35, .int l1, .int l2, .int z10, .int l4, .int x3, .int x6, .int x9]) dX5_choose_114 (by decide) rfl rfl ?_
            refine ex_aload_n dX5_choose_115 rfl ?_
            refine ex_getR (ci := 5) (j := 0) (v := 36) dX5_choose_116 (by decide) rfl rfl lk_X5_11 rfl (by decide) ?_
            refine ex_iload dX5_choose_119 rfl ?_
            refine ex_iload_n dX5_choose_121 rfl ?_
            obtain ⟨b11, h⟩ := h
            refine ex_iast dX5_choose_122 (by decide) rfl b11 ?_
            refine ex_nmM (fun M12 eM12 => ?_)
            replace h := h M12 eM12
            refine ex_iload_n dX5_choose_123 rfl ?_
            refine ex_if_ne (tgt := 143) dX5_choose_124 (by decide) (fun c_124 => ?_) (fun c_124 => ?_)
            · replace h := h.1 c_124
              refine ex_iload_n dX5_choose_143 rfl ?_
              refine ex_istore_n (L2 := [.ref 35, .int l1, .int l2, .int z10, .int l4, .int x3, .int x6, .int x9]) dX5_choose_144 (by decide) rfl rfl ?_
              refine ex_iinc (v := l4 + 1) (L2 := [.ref 35, .int l1, .int l2, .int z10, .int (l4 + 1), .int x3, .int x6, .int x9]) dX5_choose_145 rfl rfl (by decide) rfl rfl ?_
              obtain ⟨x13, ex13⟩ : ∃ x13 : Int32, x13 = l4 + 1 := ⟨_, rfl⟩
              rw [← ex13]
              replace h := h x13 ex13
              refine ex_goto (tgt := 38) dX5_choose_148 (by decide) ?_
              refine ex_less (L2 := [.ref 35, .int l1, .int l2, .int z10, .int x13, .null, .null, .null]) ?_ (by intro i v hi hn; match i, hi with | 0, hi => exact hi | 1, hi => exact hi | 2, hi => exact hi | 3, hi => exact hi | 4, hi => exact hi | 5, hi => (cases hi; cases hn) | 6, hi => (cases hi; cases hn) | 7, hi => (cases hi; cases hn) | k + 8, hi => (exact absurd hi (by simp)))
              exact hB38 l1 l2 z10 x13 M12 h
            · replace h := h.2 c_124
              refine ex_iload_n dX5_choose_127 rfl ?_
              refine ex_aload_n dX5_choose_128 rfl ?_
              refine ex_getR (ci := 5) (j := 1) (v := 37) dX5_choose_129 (by decide) rfl rfl lk_X5_15 rfl (by decide) ?_
              refine ex_iload dX5_choose_132 rfl ?_
              obtain ⟨b14, h⟩ := h
              refine ex_iald dX5_choose_134 (by decide) rfl b14 ?_
              refine ex_isub dX5_choose_135 ?_
              refine ex_iconst (v := 0) dX5_choose_136 (by decide) ?_
              refine ex_max dX5_choose_137 lk_X5_80 (by decide) (Nat.le_of_ble_eq_true rfl) ?_
              refine ex_goto (tgt := 144) dX5_choose_140 (by decide) ?_
              refine ex_top (fun x15 ex15 => ?_)
              replace h := h x15 ex15
              refine ex_istore_n (L2 := [.ref 35, .int l1, .int x15, .int z10, .int l4, .int x3, .int x6, .int x9]) dX5_choose_144 (by decide) rfl rfl ?_
              refine ex_iinc (v := l4 + 1) (L2 := [.ref 35, .int l1, .int x15, .int z10, .int (l4 + 1), .int x3, .int x6, .int x9]) dX5_choose_145 rfl rfl (by decide) rfl rfl ?_
              obtain ⟨x16, ex16⟩ : ∃ x16 : Int32, x16 = l4 + 1 := ⟨_, rfl⟩
              rw [← ex16]
              replace h := h x16 ex16
              refine ex_goto (tgt := 38) dX5_choose_148 (by decide) ?_
              refine ex_less (L2 := [.ref 35, .int l1, .int x15, .int z10, .int x16, .null, .null, .null]) ?_ (by intro i v hi hn; match i, hi with | 0, hi => exact hi | 1, hi => exact hi | 2, hi => exact hi | 3, hi => exact hi | 4, hi => exact hi | 5, hi => (cases hi; cases hn) | 6, hi => (cases hi; cases hn) | 7, hi => (cases hi; cases hn) | k + 8, hi => (exact absurd hi (by simp)))
              exact hB38 l1 x15 z10 x16 M12 h
          refine ex_icmp_gt (tgt := 113) dX5_choose_106 (by decide) (fun c_106 => ?_) (fun c_106 => ?_)
          ·
            refine ex_iconst (v := 1) dX5_choose_113 (by decide) ?_
            exact hJ17 _ (by rw [if_pos c_106])
          ·
            refine ex_iconst (v := 0) dX5_choose_109 (by decide) ?_
            refine ex_goto (tgt := 114) dX5_choose_110 (by decide) ?_
            exact hJ17 _ (by rw [if_neg c_106])
        refine ex_if_ne (tgt := 98) dX5_choose_91 (by decide) (fun c_91 => ?_) (fun c_91 => ?_)
        ·
          refine ex_iconst (v := 0) dX5_choose_98 (by decide) ?_
          exact hJ18 _ (by rw [if_neg c_91])
        ·
          refine ex_iconst (v := 1) dX5_choose_94 (by decide) ?_
          refine ex_goto (tgt := 99) dX5_choose_95 (by decide) ?_
          exact hJ18 _ (by rw [if_pos c_91])
      refine ex_icmp_ne (tgt := 77) dX5_choose_70 (by decide) (fun c_70 => ?_) (fun c_70 => ?_)
      ·
        refine ex_iconst (v := 0) dX5_choose_77 (by decide) ?_
        exact hJ19 _ (by rw [if_neg c_70])
      ·
        refine ex_iconst (v := 1) dX5_choose_73 (by decide) ?_
        refine ex_goto (tgt := 78) dX5_choose_74 (by decide) ?_
        exact hJ19 _ (by rw [if_pos c_70])
def w_X5_choose (p1 : Int32) (M : Mem) (Q : Int32 → Mem → Prop) : Prop := (vp_in ((p1 * 2) + 0) 11234) ∧ ((vp_in ((p1 * 2) + 1) 11234) ∧ ((((if (M 38 (Int32.toNatClampNeg ((p1 * 2) + 1))) < (M 38 (Int32.toNatClampNeg ((p1 * 2) + 0))) then (M 38 (Int32.toNatClampNeg ((p1 * 2) + 1))) else (M 38 (Int32.toNatClampNeg ((p1 * 2) + 0)))) < 1000) → (∃ k, w_X5_choose_38  Q  k p1 p1 (-1) 0 M)) ∧ (¬ ((if (M 38 (Int32.toNatClampNeg ((p1 * 2) + 1))) < (M 38 (Int32.toNatClampNeg ((p1 * 2) + 0))) then (M 38 (Int32.toNatClampNeg ((p1 * 2) + 1))) else (M 38 (Int32.toNatClampNeg ((p1 * 2) + 0)))) < 1000) → (Q 0 M))))
theorem t_X5_choose (p1 : Int32) (M : Mem) (Q : Int32 → Mem → Prop) (h : w_X5_choose  p1 M Q) : Ex true mX5_choose 78 78 0 0 0 [.ref 35, .int p1, .null, .null, .null, .null, .null, .null] [] M Q := by
  unfold w_X5_choose at h
  refine ex_aload_n dX5_choose_0 rfl ?_
  refine ex_getR (ci := 5) (j := 3) (v := 38) dX5_choose_1 (by decide) rfl rfl lk_X5_18 rfl (by decide) ?_
  refine ex_iload_n dX5_choose_4 rfl ?_
  refine ex_iconst (v := 2) dX5_choose_5 (by decide) ?_
  refine ex_imul dX5_choose_6 ?_
  refine ex_iconst (v := 0) dX5_choose_7 (by decide) ?_
  refine ex_iadd dX5_choose_8 ?_
  obtain ⟨b1, h⟩ := h
  refine ex_iald dX5_choose_9 (by decide) rfl b1 ?_
  refine ex_aload_n dX5_choose_10 rfl ?_
  refine ex_getR (ci := 5) (j := 3) (v := 38) dX5_choose_11 (by decide) rfl rfl lk_X5_18 rfl (by decide) ?_
  refine ex_iload_n dX5_choose_14 rfl ?_
  refine ex_iconst (v := 2) dX5_choose_15 (by decide) ?_
  refine ex_imul dX5_choose_16 ?_
  refine ex_iconst (v := 1) dX5_choose_17 (by decide) ?_
  refine ex_iadd dX5_choose_18 ?_
  obtain ⟨b2, h⟩ := h
  refine ex_iald dX5_choose_19 (by decide) rfl b2 ?_
  refine ex_min dX5_choose_20 lk_X5_61 (by decide) (Nat.le_of_ble_eq_true rfl) ?_
  refine ex_sipush (v := 1000) dX5_choose_23 (by decide) ?_
  refine ex_icmp_lt (tgt := 31) dX5_choose_26 (by decide) (fun c_26 => ?_) (fun c_26 => ?_)
  · replace h := h.1 c_26
    refine ex_iload_n dX5_choose_31 rfl ?_
    refine ex_istore_n (L2 := [.ref 35, .int p1, .int p1, .null, .null, .null, .null, .null]) dX5_choose_32 (by decide) rfl rfl ?_
    refine ex_iconst (v := (-1)) dX5_choose_33 (by decide) ?_
    refine ex_istore_n (L2 := [.ref 35, .int p1, .int p1, .int (-1), .null, .null, .null, .null]) dX5_choose_34 (by decide) rfl rfl ?_
    refine ex_iconst (v := 0) dX5_choose_35 (by decide) ?_
    refine ex_istore (L2 := [.ref 35, .int p1, .int p1, .int (-1), .int 0, .null, .null, .null]) dX5_choose_36 (by decide) rfl rfl ?_
    obtain ⟨k_, h⟩ := h
    exact t_X5_choose_38   Q   k_ p1 p1 (-1) 0 M h
  · replace h := h.2 c_26
    refine ex_iconst (v := 0) dX5_choose_29 (by decide) ?_
    exact ex_iret dX5_choose_30 rfl rfl rfl h
def wb_X5_settle_108 (m : Nat) (Q : Int32 → Mem → Prop) (B108 : Int32 → Int32 → Int32 → Int32 → Int32 → Int32 → Int32 → Mem → Prop) (l2 : Int32) (l3 : Int32) (l4 : Int32) (l5 : Int32) (l6 : Int32) (l7 : Int32) (l8 : Int32) (M : Mem) : Prop := ((l8 < 0) → (w_X5_choose l6 M (fun v13 M14 => (v13 = 0 ∨ v13 = 1) ∧ (Q v13 M14)))) ∧ (¬ (l8 < 0) → (w_X5_layItem l8 l6 M (fun v16 M17 => ∀ x18 : Int32, x18 = l8 + (-1) → B108 l2 l3 l4 l5 l6 l7 x18 M17)))
def w_X5_settle_108 (m : Nat) (Q : Int32 → Mem → Prop) : Nat → Int32 → Int32 → Int32 → Int32 → Int32 → Int32 → Int32 → Mem → Prop
  | 0 => fun _ _ _ _ _ _ _ _ => False
  | k + 1 => wb_X5_settle_108 m Q  (w_X5_settle_108 m Q  k)
theorem t_X5_settle_108 (m : Nat) (hm : MU m) (Q : Int32 → Mem → Prop) : ∀ (k : Nat) (l2 : Int32) (l3 : Int32) (l4 : Int32) (l5 : Int32) (l6 : Int32) (l7 : Int32) (l8 : Int32) (M : Mem), w_X5_settle_108 m Q  k l2 l3 l4 l5 l6 l7 l8 M → Ex true mX5_settle 78 78 0 0 108 [.ref 35, .ref m, .int l2, .int l3, .int l4, .int l5, .int l6, .int l7, .int l8] [] M Q := by
  intro k
  induction k with
  | zero => intro l2 l3 l4 l5 l6 l7 l8 M h; exact False.elim h
  | succ k hB108 =>
    intro l2 l3 l4 l5 l6 l7 l8 M h
    replace h : wb_X5_settle_108 m Q  (w_X5_settle_108 m Q  k) l2 l3 l4 l5 l6 l7 l8 M := h
    generalize w_X5_settle_108 m Q  k = B108 at hB108 h
    unfold wb_X5_settle_108 at h
    refine ex_iload dX5_settle_108 rfl ?_
    refine ex_if_lt (tgt := 127) dX5_settle_110 (by decide) (fun c_110 => ?_) (fun c_110 => ?_)
    · replace h := h.1 c_110
      refine ex_aload_n dX5_settle_127 rfl ?_
      refine ex_iload dX5_settle_128 rfl ?_
      refine ex_invV (k := 35) (ci := 5) (as := [.int l6]) (L2 := [.ref 35, .int l6, .null, .null, .null, .null, .null, .null]) (st := []) 0 0 dX5_settle_130 lk_X5_57 sl_X5_choose (rmK_of rfl) (by decide) rfl ⟨by decide, rfl⟩ rfl (Nat.le_of_ble_eq_true rfl) (Nat.le_of_ble_eq_true rfl) (t_X5_choose   l6 M _ h) (fun v13 M14 h => ?_)
      show Ex true mX5_settle 78 78 0 0 133 [.ref 35, .ref m, .int l2, .int l3, .int l4, .int l5, .int l6, .int l7, .int l8] [.int v13] M14 Q
      obtain ⟨b15, h⟩ := h
      exact ex_iret dX5_settle_133 rfl (nr01 b15) rfl h
    · replace h := h.2 c_110
      refine ex_aload_n dX5_settle_113 rfl ?_
      refine ex_iload dX5_settle_114 rfl ?_
      refine ex_iload dX5_settle_116 rfl ?_
      refine ex_invV (k := 35) (ci := 5) (as := [.int l8, .int l6]) (L2 := [.ref 35, .int l8, .int l6, .null, .null]) (st := []) 0 0 dX5_settle_118 lk_X5_54 sl_X5_layItem (rmK_of rfl) (by decide) rfl ⟨by decide, rfl⟩ rfl (Nat.le_of_ble_eq_true rfl) (Nat.le_of_ble_eq_true rfl) (t_X5_layItem   l8 l6 M _ h) (fun v16 M17 h => ?_)
      show Ex true mX5_settle 78 78 0 0 121 [.ref 35, .ref m, .int l2, .int l3, .int l4, .int l5, .int l6, .int l7, .int l8] [] M17 Q
      refine ex_iinc (v := l8 + (-1)) (L2 := [.ref 35, .ref m, .int l2, .int l3, .int l4, .int l5, .int l6, .int l7, .int (l8 + (-1))]) dX5_settle_121 rfl rfl (by decide) rfl rfl ?_
      obtain ⟨x18, ex18⟩ : ∃ x18 : Int32, x18 = l8 + (-1) := ⟨_, rfl⟩
      rw [← ex18]
      replace h := h x18 ex18
      refine ex_goto (tgt := 108) dX5_settle_124 (by decide) ?_
      exact hB108 l2 l3 l4 l5 l6 l7 x18 M17 h
def wb_X5_settle_17 (m : Nat) (Q : Int32 → Mem → Prop) (B17 : Int32 → Int32 → Int32 → Int32 → Int32 → Mem → Prop) (l2 : Int32) (l3 : Int32) (l4 : Int32) (l5 : Int32) (l6 : Int32) (M : Mem) : Prop := (vp_in l2 180) ∧ ((((M (m + 3) (Int32.toNatClampNeg l2)) ≤ l6) → (w_X5_load m l4 l3 l5 M (fun v5 M6 => ((0 ≤ v5) → ((vp_in l2 180) ∧ (((((M6 (m + 3) (Int32.toNatClampNeg l2)) ≤ l3) → (True)) ∧ (¬ ((M6 (m + 3) (Int32.toNatClampNeg l2)) ≤ l3) → ((vp_in (l4 + l3) 600) ∧ (True)))) ∧ (∀ z9 : Int32, z9 = (if (M6 (m + 3) (Int32.toNatClampNeg l2)) ≤ l3 then (-1) else (M6 (m + 9) (Int32.toNatClampNeg (l4 + l3)))) → w_X5_layEnd v5 z9 M6 (fun v10 M11 => ∀ x12 : Int32, x12 = ((M11 35 2) - 1) → ∃ k, w_X5_settle_108 m Q  k l2 l3 l4 l5 v5 z9 x12 M11))))) ∧ (¬ (0 ≤ v5) → (Q 0 M6))))) ∧ (¬ ((M (m + 3) (Int32.toNatClampNeg l2)) ≤ l6) → (w_X0_lasts m (l4 + l6) M (fun v20 M21 => ∀ x22 : Int32, x22 = (l5 - v20) → ∀ x23 : Int32, x23 = l6 + 1 → B17 l2 l3 l4 x22 x23 M21))))
def w_X5_settle_17 (m : Nat) (Q : Int32 → Mem → Prop) : Nat → Int32 → Int32 → Int32 → Int32 → Int32 → Mem → Prop
  | 0 => fun _ _ _ _ _ _ => False
  | k + 1 => wb_X5_settle_17 m Q  (w_X5_settle_17 m Q  k)
theorem t_X5_settle_17 (m : Nat) (hm : MU m) (Q : Int32 → Mem → Prop) : ∀ (k : Nat) (l2 : Int32) (l3 : Int32) (l4 : Int32) (l5 : Int32) (l6 : Int32) (M : Mem), w_X5_settle_17 m Q  k l2 l3 l4 l5 l6 M → Ex true mX5_settle 78 78 0 0 17 [.ref 35, .ref m, .int l2, .int l3, .int l4, .int l5, .int l6, .null, .null] [] M Q := by
  intro k
  induction k with
  | zero => intro l2 l3 l4 l5 l6 M h; exact False.elim h
  | succ k hB17 =>
    intro l2 l3 l4 l5 l6 M h
    replace h : wb_X5_settle_17 m Q  (w_X5_settle_17 m Q  k) l2 l3 l4 l5 l6 M := h
    generalize w_X5_settle_17 m Q  k = B17 at hB17 h
    unfold wb_X5_settle_17 at h
    refine ex_iload dX5_settle_17 rfl ?_
    refine ex_aload_n dX5_settle_19 rfl ?_
    refine ex_getR (ci := 0) (j := 6) (v := m + 3) dX5_settle_20 (mu_l hm 0 (by decide)) (mu_S0 hm) rfl lk_X5_33 (mu_F6 hm) (by omega) ?_
    refine ex_iload_n dX5_settle_23 rfl ?_
    obtain ⟨b4, h⟩ := h
    refine ex_iald dX5_settle_24 (mu_l hm 3 (by decide)) (mu_S3 hm) b4 ?_
    refine ex_icmp_ge (tgt := 48) dX5_settle_25 (by decide) (fun c_25 => ?_) (fun c_25 => ?_)
    · replace h := h.1 c_25
      refine ex_aload_n dX5_settle_48 rfl ?_
      refine ex_aload_n dX5_settle_49 rfl ?_
      refine ex_iload dX5_settle_50 rfl ?_
      refine ex_iload_n dX5_settle_52 rfl ?_
      refine ex_iload dX5_settle_53 rfl ?_
      refine ex_invV (k := 35) (ci := 5) (as := [.ref m, .int l4, .int l3, .int l5]) (L2 := [.ref 35, .ref m, .int l4, .int l3, .int l5, .null, .null]) (st := []) 0 0 dX5_settle_55 lk_X5_40 sl_X5_load (rmK_of rfl) (by decide) rfl ⟨by decide, rfl⟩ rfl (Nat.le_of_ble_eq_true rfl) (Nat.le_of_ble_eq_true rfl) (t_X5_load m hm l4 l3 l5 M _ h) (fun v5 M6 h => ?_)
      show Ex true mX5_settle 78 78 0 0 58 [.ref 35, .ref m, .int l2, .int l3, .int l4, .int l5, .int l6, .null, .null] [.int v5] M6 Q
      refine ex_istore (L2 := [.ref 35, .ref m, .int l2, .int l3, .int l4, .int l5, .int v5, .null, .null]) dX5_settle_58 (by decide) rfl rfl ?_
      refine ex_iload dX5_settle_60 rfl ?_
      refine ex_if_ge (tgt := 67) dX5_settle_62 (by decide) (fun c_62 => ?_) (fun c_62 => ?_)
      · replace h := h.1 c_62
        refine ex_iload_n dX5_settle_67 rfl ?_
        refine ex_aload_n dX5_settle_68 rfl ?_
        refine ex_getR (ci := 0) (j := 6) (v := m + 3) dX5_settle_69 (mu_l hm 0 (by decide)) (mu_S0 hm) rfl lk_X5_33 (mu_F6 hm) (by omega) ?_
        refine ex_iload_n dX5_settle_72 rfl ?_
        obtain ⟨b7, h⟩ := h
        refine ex_iald dX5_settle_73 (mu_l hm 3 (by decide)) (mu_S3 hm) b7 ?_
        obtain ⟨khJ19, h⟩ := h
        have hJ19 : ∀ z9 : Int32, z9 = (if (M6 (m + 3) (Int32.toNatClampNeg l2)) ≤ l3 then (-1) else (M6 (m + 9) (Int32.toNatClampNeg (l4 + l3)))) → Ex true mX5_settle 78 78 0 0 90 [.ref 35, .ref m, .int l2, .int l3, .int l4, .int l5, .int v5, .null, .null] [.int z9] M6 Q := by
          intro z9 ez9
          replace h := h z9 ez9
          refine ex_istore (L2 := [.ref 35, .ref m, .int l2, .int l3, .int l4, .int l5, .int v5, .int z9, .null]) dX5_settle_90 (by decide) rfl rfl ?_
          refine ex_aload_n dX5_settle_92 rfl ?_
          refine ex_iload dX5_settle_93 rfl ?_
          refine ex_iload dX5_settle_95 rfl ?_
          refine ex_invV (k := 35) (ci := 5) (as := [.int v5, .int z9]) (L2 := [.ref 35, .int v5, .int z9, .null, .null, .null]) (st := []) 0 0 dX5_settle_97 lk_X5_47 sl_X5_layEnd (rmK_of rfl) (by decide) rfl ⟨by decide, rfl⟩ rfl (Nat.le_of_ble_eq_true rfl) (Nat.le_of_ble_eq_true rfl) (t_X5_layEnd   v5 z9 M6 _ h) (fun v10 M11 h => ?_)
          show Ex true mX5_settle 78 78 0 0 100 [.ref 35, .ref m, .int l2, .int l3, .int l4, .int l5, .int v5, .int z9, .null] [] M11 Q
          refine ex_aload_n dX5_settle_100 rfl ?_
          refine ex_getI (ci := 5) (j := 2) dX5_settle_101 (by decide) rfl rfl lk_X5_51 ?_
          refine ex_iconst (v := 1) dX5_settle_104 (by decide) ?_
          refine ex_isub dX5_settle_105 ?_
          refine ex_top (fun x12 ex12 => ?_)
          replace h := h x12 ex12
          refine ex_istore (L2 := [.ref 35, .ref m, .int l2, .int l3, .int l4, .int l5, .int v5, .int z9, .int x12]) dX5_settle_106 (by decide) rfl rfl ?_
          obtain ⟨k_, h⟩ := h
          exact t_X5_settle_108 m hm  Q   k_ l2 l3 l4 l5 v5 z9 x12 M11 h
        refine ex_icmp_ge (tgt := 89) dX5_settle_74 (by decide) (fun c_74 => ?_) (fun c_74 => ?_)
        · replace h := khJ19.1 c_74
          refine ex_iconst (v := (-1)) dX5_settle_89 (by decide) ?_
          exact hJ19 _ (by rw [if_pos c_74])
        · replace h := khJ19.2 c_74
          refine ex_aload_n dX5_settle_77 rfl ?_
          refine ex_getR (ci := 0) (j := 12) (v := m + 9) dX5_settle_78 (mu_l hm 0 (by decide)) (mu_S0 hm) rfl lk_X5_44 (mu_F12 hm) (by omega) ?_
          refine ex_iload dX5_settle_81 rfl ?_
          refine ex_iload_n dX5_settle_83 rfl ?_
          refine ex_iadd dX5_settle_84 ?_
          obtain ⟨b8, h⟩ := h
          refine ex_iald dX5_settle_85 (mu_l hm 9 (by decide)) (mu_S9 hm) b8 ?_
          refine ex_goto (tgt := 90) dX5_settle_86 (by decide) ?_
          exact hJ19 _ (by rw [if_neg c_74])
      · replace h := h.2 c_62
        refine ex_iconst (v := 0) dX5_settle_65 (by decide) ?_
        exact ex_iret dX5_settle_66 rfl rfl rfl h
    · replace h := h.2 c_25
      refine ex_iload dX5_settle_28 rfl ?_
      refine ex_aload_n dX5_settle_30 rfl ?_
      refine ex_iload dX5_settle_31 rfl ?_
      refine ex_iload dX5_settle_33 rfl ?_
      refine ex_iadd dX5_settle_35 ?_
      refine ex_invV (k := m) (ci := 0) (as := [.int (l4 + l6)]) (L2 := [.ref m, .int (l4 + l6)]) (st := [.int l5]) 0 0 dX5_settle_36 lk_X5_36 sl_X0_lasts (rmK_of rfl) (mu_l hm 0 (by decide)) (mu_S0 hm) ⟨by decide, rfl⟩ rfl (Nat.le_of_ble_eq_true rfl) (Nat.le_of_ble_eq_true rfl) (t_X0_lasts m hm (l4 + l6) M _ h) (fun v20 M21 h => ?_)
      show Ex true mX5_settle 78 78 0 0 39 [.ref 35, .ref m, .int l2, .int l3, .int l4, .int l5, .int l6, .null, .null] [.int v20, .int l5] M21 Q
      refine ex_isub dX5_settle_39 ?_
      refine ex_top (fun x22 ex22 => ?_)
      replace h := h x22 ex22
      refine ex_istore (L2 := [.ref 35, .ref m, .int l2, .int l3, .int l4, .int x22, .int l6, .null, .null]) dX5_settle_40 (by decide) rfl rfl ?_
      refine ex_iinc (v := l6 + 1) (L2 := [.ref 35, .ref m, .int l2, .int l3, .int l4, .int x22, .int (l6 + 1), .null, .null]) dX5_settle_42 rfl rfl (by decide) rfl rfl ?_
      obtain ⟨x23, ex23⟩ : ∃ x23 : Int32, x23 = l6 + 1 := ⟨_, rfl⟩
      rw [← ex23]
      replace h := h x23 ex23
      refine ex_goto (tgt := 17) dX5_settle_45 (by decide) ?_
      exact hB17 l2 l3 l4 x22 x23 M21 h
def w_X5_settle (m : Nat) (p2 : Int32) (p3 : Int32) (M : Mem) (Q : Int32 → Mem → Prop) : Prop := (vp_in p2 180) ∧ (∀ x2 : Int32, x2 = (M (m + 2) (Int32.toNatClampNeg p2)) → ∀ x3 : Int32, x3 = (M m 0) → ∃ k, w_X5_settle_17 m Q  k p2 p3 x2 x3 p3 M)
theorem t_X5_settle (m : Nat) (hm : MU m) (p2 : Int32) (p3 : Int32) (M : Mem) (Q : Int32 → Mem → Prop) (h : w_X5_settle m p2 p3 M Q) : Ex true mX5_settle 78 78 0 0 0 [.ref 35, .ref m, .int p2, .int p3, .null, .null, .null, .null, .null] [] M Q := by
  unfold w_X5_settle at h
  refine ex_aload_n dX5_settle_0 rfl ?_
  refine ex_getR (ci := 0) (j := 5) (v := m + 2) dX5_settle_1 (mu_l hm 0 (by decide)) (mu_S0 hm) rfl lk_X5_24 (mu_F5 hm) (by omega) ?_
  refine ex_iload_n dX5_settle_4 rfl ?_
  obtain ⟨b1, h⟩ := h
  refine ex_iald dX5_settle_5 (mu_l hm 2 (by decide)) (mu_S2 hm) b1 ?_
  refine ex_top (fun x2 ex2 => ?_)
  replace h := h x2 ex2
  refine ex_istore (L2 := [.ref 35, .ref m, .int p2, .int p3, .int x2, .null, .null, .null, .null]) dX5_settle_6 (by decide) rfl rfl ?_
  refine ex_aload_n dX5_settle_8 rfl ?_
  refine ex_getI (ci := 0) (j := 0) dX5_settle_9 (mu_l hm 0 (by decide)) (mu_S0 hm) rfl lk_X5_29 ?_
  refine ex_top (fun x3 ex3 => ?_)
  replace h := h x3 ex3
  refine ex_istore (L2 := [.ref 35, .ref m, .int p2, .int p3, .int x2, .int x3, .null, .null, .null]) dX5_settle_12 (by decide) rfl rfl ?_
  refine ex_iload_n dX5_settle_14 rfl ?_
  refine ex_istore (L2 := [.ref 35, .ref m, .int p2, .int p3, .int x2, .int x3, .int p3, .null, .null]) dX5_settle_15 (by decide) rfl rfl ?_
  obtain ⟨k_, h⟩ := h
  exact t_X5_settle_17 m hm  Q   k_ p2 p3 x2 x3 p3 M h
def wb_X5_needsSigns_51 (m : Nat) (Q : Int32 → Mem → Prop) (B51 : Int32 → Int32 → Int32 → Mem → Prop) (l2 : Int32) (l3 : Int32) (l4 : Int32) (M : Mem) : Prop := (((M 35 2) ≤ l4) → (Q 0 M)) ∧ (¬ ((M 35 2) ≤ l4) → ((vp_in l4 40) ∧ ((vp_in (l3 + l4) 600) ∧ ((((M 36 (Int32.toNatClampNeg l4)) = (M (m + 9) (Int32.toNatClampNeg (l3 + l4)))) → (∀ x10 : Int32, x10 = l4 + 1 → B51 l2 l3 x10 M)) ∧ (¬ ((M 36 (Int32.toNatClampNeg l4)) = (M (m + 9) (Int32.toNatClampNeg (l3 + l4)))) → (Q 1 M))))))
def w_X5_needsSigns_51 (m : Nat) (Q : Int32 → Mem → Prop) : Nat → Int32 → Int32 → Int32 → Mem → Prop
  | 0 => fun _ _ _ _ => False
  | k + 1 => wb_X5_needsSigns_51 m Q  (w_X5_needsSigns_51 m Q  k)
theorem t_X5_needsSigns_51 (m : Nat) (hm : MU m) (Q : Int32 → Mem → Prop) : ∀ (k : Nat) (l2 : Int32) (l3 : Int32) (l4 : Int32) (M : Mem), w_X5_needsSigns_51 m Q  k l2 l3 l4 M → Ex true mX5_needsSigns 78 78 0 0 51 [.ref 35, .ref m, .int l2, .int l3, .int l4] [] M Q := by
  intro k
  induction k with
  | zero => intro l2 l3 l4 M h; exact False.elim h
  | succ k hB51 =>
    intro l2 l3 l4 M h
    replace h : wb_X5_needsSigns_51 m Q  (w_X5_needsSigns_51 m Q  k) l2 l3 l4 M := h
    generalize w_X5_needsSigns_51 m Q  k = B51 at hB51 h
    unfold wb_X5_needsSigns_51 at h
    refine ex_iload dX5_needsSigns_51 rfl ?_
    refine ex_aload_n dX5_needsSigns_53 rfl ?_
    refine ex_getI (ci := 5) (j := 2) dX5_needsSigns_54 (by decide) rfl rfl lk_X5_51 ?_
    refine ex_icmp_ge (tgt := 87) dX5_needsSigns_57 (by decide) (fun c_57 => ?_) (fun c_57 => ?_)
    · replace h := h.1 c_57
      refine ex_iconst (v := 0) dX5_needsSigns_87 (by decide) ?_
      exact ex_iret dX5_needsSigns_88 rfl rfl rfl h
    · replace h := h.2 c_57
      refine ex_aload_n dX5_needsSigns_60 rfl ?_
      refine ex_getR (ci := 5) (j := 0) (v := 36) dX5_needsSigns_61 (by decide) rfl rfl lk_X5_11 rfl (by decide) ?_
      refine ex_iload dX5_needsSigns_64 rfl ?_
      obtain ⟨b8, h⟩ := h
      refine ex_iald dX5_needsSigns_66 (by decide) rfl b8 ?_
      refine ex_aload_n dX5_needsSigns_67 rfl ?_
      refine ex_getR (ci := 0) (j := 12) (v := m + 9) dX5_needsSigns_68 (mu_l hm 0 (by decide)) (mu_S0 hm) rfl lk_X5_44 (mu_F12 hm) (by omega) ?_
      refine ex_iload_n dX5_needsSigns_71 rfl ?_
      refine ex_iload dX5_needsSigns_72 rfl ?_
      refine ex_iadd dX5_needsSigns_74 ?_
      obtain ⟨b9, h⟩ := h
      refine ex_iald dX5_needsSigns_75 (mu_l hm 9 (by decide)) (mu_S9 hm) b9 ?_
      refine ex_icmp_eq (tgt := 81) dX5_needsSigns_76 (by decide) (fun c_76 => ?_) (fun c_76 => ?_)
      · replace h := h.1 c_76
        refine ex_iinc (v := l4 + 1) (L2 := [.ref 35, .ref m, .int l2, .int l3, .int (l4 + 1)]) dX5_needsSigns_81 rfl rfl (by decide) rfl rfl ?_
        obtain ⟨x10, ex10⟩ : ∃ x10 : Int32, x10 = l4 + 1 := ⟨_, rfl⟩
        rw [← ex10]
        replace h := h x10 ex10
        refine ex_goto (tgt := 51) dX5_needsSigns_84 (by decide) ?_
        exact hB51 l2 l3 x10 M h
      · replace h := h.2 c_76
        refine ex_iconst (v := 1) dX5_needsSigns_79 (by decide) ?_
        exact ex_iret dX5_needsSigns_80 rfl rfl rfl h
def w_X5_needsSigns (m : Nat) (p2 : Int32) (M : Mem) (Q : Int32 → Mem → Prop) : Prop := (vp_in p2 180) ∧ (∀ x2 : Int32, x2 = (M (m + 2) (Int32.toNatClampNeg p2)) → w_X0_isLoneWholeRest m p2 M (fun v3 M4 => ((v3 = 0) → ((vp_in p2 180) ∧ (w_X5_settle m p2 (M4 (m + 3) (Int32.toNatClampNeg p2)) M4 (fun v6 M7 => (¬ (v6 = 0) → (∃ k, w_X5_needsSigns_51 m Q  k p2 x2 0 M7)) ∧ ((v6 = 0) → (Q 1 M7)))))) ∧ (¬ (v3 = 0) → ((vp_in x2 600) ∧ (∀ z12 : Int32, z12 = (if (M4 (m + 9) (Int32.toNatClampNeg x2)) = 2 then 0 else 1) → (z12 = 0 ∨ z12 = 1) ∧ (Q z12 M4))))))
theorem t_X5_needsSigns (m : Nat) (hm : MU m) (p2 : Int32) (M : Mem) (Q : Int32 → Mem → Prop) (h : w_X5_needsSigns m p2 M Q) : Ex true mX5_needsSigns 78 78 0 0 0 [.ref 35, .ref m, .int p2, .null, .null] [] M Q := by
  unfold w_X5_needsSigns at h
  refine ex_aload_n dX5_needsSigns_0 rfl ?_
  refine ex_getR (ci := 0) (j := 5) (v := m + 2) dX5_needsSigns_1 (mu_l hm 0 (by decide)) (mu_S0 hm) rfl lk_X5_24 (mu_F5 hm) (by omega) ?_
  refine ex_iload_n dX5_needsSigns_4 rfl ?_
  obtain ⟨b1, h⟩ := h
  refine ex_iald dX5_needsSigns_5 (mu_l hm 2 (by decide)) (mu_S2 hm) b1 ?_
  refine ex_top (fun x2 ex2 => ?_)
  replace h := h x2 ex2
  refine ex_istore_n (L2 := [.ref 35, .ref m, .int p2, .int x2, .null]) dX5_needsSigns_6 (by decide) rfl rfl ?_
  refine ex_aload_n dX5_needsSigns_7 rfl ?_
  refine ex_iload_n dX5_needsSigns_8 rfl ?_
  refine ex_invV (k := m) (ci := 0) (as := [.int p2]) (L2 := [.ref m, .int p2, .null]) (st := []) 0 0 dX5_needsSigns_9 lk_X5_83 sl_X0_isLoneWholeRest (rmK_of rfl) (mu_l hm 0 (by decide)) (mu_S0 hm) ⟨by decide, rfl⟩ rfl (Nat.le_of_ble_eq_true rfl) (Nat.le_of_ble_eq_true rfl) (t_X0_isLoneWholeRest m hm p2 M _ h) (fun v3 M4 h => ?_)
  show Ex true mX5_needsSigns 78 78 0 0 12 [.ref 35, .ref m, .int p2, .int x2, .null] [.int v3] M4 Q
  refine ex_if_eq (tgt := 31) dX5_needsSigns_12 (by decide) (fun c_12 => ?_) (fun c_12 => ?_)
  · replace h := h.1 c_12
    refine ex_aload_n dX5_needsSigns_31 rfl ?_
    refine ex_aload_n dX5_needsSigns_32 rfl ?_
    refine ex_iload_n dX5_needsSigns_33 rfl ?_
    refine ex_aload_n dX5_needsSigns_34 rfl ?_
    refine ex_getR (ci := 0) (j := 6) (v := m + 3) dX5_needsSigns_35 (mu_l hm 0 (by decide)) (mu_S0 hm) rfl lk_X5_33 (mu_F6 hm) (by omega) ?_
    refine ex_iload_n dX5_needsSigns_38 rfl ?_
    obtain ⟨b5, h⟩ := h
    refine ex_iald dX5_needsSigns_39 (mu_l hm 3 (by decide)) (mu_S3 hm) b5 ?_
    refine ex_invV (k := 35) (ci := 5) (as := [.ref m, .int p2, .int (M4 (m + 3) (Int32.toNatClampNeg p2))]) (L2 := [.ref 35, .ref m, .int p2, .int (M4 (m + 3) (Int32.toNatClampNeg p2)), .null, .null, .null, .null, .null]) (st := []) 0 0 dX5_needsSigns_40 lk_X5_86 sl_X5_settle (rmK_of rfl) (by decide) rfl ⟨by decide, rfl⟩ rfl (Nat.le_of_ble_eq_true rfl) (Nat.le_of_ble_eq_true rfl) (t_X5_settle m hm p2 (M4 (m + 3) (Int32.toNatClampNeg p2)) M4 _ h) (fun v6 M7 h => ?_)
    show Ex true mX5_needsSigns 78 78 0 0 43 [.ref 35, .ref m, .int p2, .int x2, .null] [.int v6] M7 Q
    refine ex_if_ne (tgt := 48) dX5_needsSigns_43 (by decide) (fun c_43 => ?_) (fun c_43 => ?_)
    · replace h := h.1 c_43
      refine ex_iconst (v := 0) dX5_needsSigns_48 (by decide) ?_
      refine ex_istore (L2 := [.ref 35, .ref m, .int p2, .int x2, .int 0]) dX5_needsSigns_49 (by decide) rfl rfl ?_
      obtain ⟨k_, h⟩ := h
      exact t_X5_needsSigns_51 m hm  Q   k_ p2 x2 0 M7 h
    · replace h := h.2 c_43
      refine ex_iconst (v := 1) dX5_needsSigns_46 (by decide) ?_
      exact ex_iret dX5_needsSigns_47 rfl rfl rfl h
  · replace h := h.2 c_12
    refine ex_aload_n dX5_needsSigns_15 rfl ?_
    refine ex_getR (ci := 0) (j := 12) (v := m + 9) dX5_needsSigns_16 (mu_l hm 0 (by decide)) (mu_S0 hm) rfl lk_X5_44 (mu_F12 hm) (by omega) ?_
    refine ex_iload_n dX5_needsSigns_19 rfl ?_
    obtain ⟨b11, h⟩ := h
    refine ex_iald dX5_needsSigns_20 (mu_l hm 9 (by decide)) (mu_S9 hm) b11 ?_
    refine ex_iconst (v := 2) dX5_needsSigns_21 (by decide) ?_
    have hJ14 : ∀ z12 : Int32, z12 = (if (M4 (m + 9) (Int32.toNatClampNeg x2)) = 2 then 0 else 1) → Ex true mX5_needsSigns 78 78 0 0 30 [.ref 35, .ref m, .int p2, .int x2, .null] [.int z12] M4 Q := by
      intro z12 ez12
      replace h := h z12 ez12
      obtain ⟨b13, h⟩ := h
      exact ex_iret dX5_needsSigns_30 rfl (nr01 b13) rfl h
    refine ex_icmp_eq (tgt := 29) dX5_needsSigns_22 (by decide) (fun c_22 => ?_) (fun c_22 => ?_)
    ·
      refine ex_iconst (v := 0) dX5_needsSigns_29 (by decide) ?_
      exact hJ14 _ (by rw [if_pos c_22])
    ·
      refine ex_iconst (v := 1) dX5_needsSigns_25 (by decide) ?_
      refine ex_goto (tgt := 30) dX5_needsSigns_26 (by decide) ?_
      exact hJ14 _ (by rw [if_neg c_22])
def wb_X5_countWays_102 (m : Nat) (Q : Int32 → Mem → Prop) (B89 : Int32 → Int32 → Int32 → Int32 → Int32 → Mem → Prop) (B102 : Int32 → Int32 → Int32 → Int32 → Int32 → Int32 → Mem → Prop) (l2 : Int32) (l3 : Int32) (l4 : Int32) (l5 : Int32) (l6 : Int32) (l7 : Int32) (M : Mem) : Prop := (vp_in l6 40) ∧ (((l7 < (M 37 (Int32.toNatClampNeg l6))) → (∀ x9 : Int32, x9 = l6 + 1 → B89 l2 l3 l4 l5 x9 M)) ∧ (¬ (l7 < (M 37 (Int32.toNatClampNeg l6))) → ((vp_in l7 137) ∧ ((vp_in l6 40) ∧ ((vp_in (l7 - (M 37 (Int32.toNatClampNeg l6))) 137) ∧ ((vp_in l7 137) ∧ (∀ M14 : Mem, M14 = (mset M 39 (Int32.toNatClampNeg l7) (if ((M 39 (Int32.toNatClampNeg l7)) + (M 39 (Int32.toNatClampNeg (l7 - (M 37 (Int32.toNatClampNeg l6)))))) < 2 then ((M 39 (Int32.toNatClampNeg l7)) + (M 39 (Int32.toNatClampNeg (l7 - (M 37 (Int32.toNatClampNeg l6)))))) else 2)) → ∀ x15 : Int32, x15 = l7 + (-1) → B102 l2 l3 l4 l5 l6 x15 M14)))))))
def w_X5_countWays_102 (m : Nat) (Q : Int32 → Mem → Prop) (B89 : Int32 → Int32 → Int32 → Int32 → Int32 → Mem → Prop) : Nat → Int32 → Int32 → Int32 → Int32 → Int32 → Int32 → Mem → Prop
  | 0 => fun _ _ _ _ _ _ _ => False
  | k + 1 => wb_X5_countWays_102 m Q B89 (w_X5_countWays_102 m Q B89 k)
theorem t_X5_countWays_102 (m : Nat) (hm : MU m) (Q : Int32 → Mem → Prop) (B89 : Int32 → Int32 → Int32 → Int32 → Int32 → Mem → Prop) (hB89 : ∀ (l2 : Int32) (l3 : Int32) (l4 : Int32) (l5 : Int32) (l6 : Int32) (M : Mem), B89 l2 l3 l4 l5 l6 M → Ex true mX5_countWays 78 78 0 0 89 [.ref 35, .ref m, .int l2, .int l3, .int l4, .int l5, .int l6, .null] [] M Q) : ∀ (k : Nat) (l2 : Int32) (l3 : Int32) (l4 : Int32) (l5 : Int32) (l6 : Int32) (l7 : Int32) (M : Mem), w_X5_countWays_102 m Q B89 k l2 l3 l4 l5 l6 l7 M → Ex true mX5_countWays 78 78 0 0 102 [.ref 35, .ref m, .int l2, .int l3, .int l4, .int l5, .int l6, .int l7] [] M Q := by
  intro k
  induction k with
  | zero => intro l2 l3 l4 l5 l6 l7 M h; exact False.elim h
  | succ k hB102 =>
    intro l2 l3 l4 l5 l6 l7 M h
    replace h : wb_X5_countWays_102 m Q B89 (w_X5_countWays_102 m Q B89 k) l2 l3 l4 l5 l6 l7 M := h
    generalize w_X5_countWays_102 m Q B89 k = B102 at hB102 h
    unfold wb_X5_countWays_102 at h
    refine ex_iload dX5_countWays_102 rfl ?_
    refine ex_aload_n dX5_countWays_104 rfl ?_
    refine ex_getR (ci := 5) (j := 1) (v := 37) dX5_countWays_105 (by decide) rfl rfl lk_X5_15 rfl (by decide) ?_
    refine ex_iload dX5_countWays_108 rfl ?_
    obtain ⟨b8, h⟩ := h
    refine ex_iald dX5_countWays_110 (by decide) rfl b8 ?_
    refine ex_icmp_lt (tgt := 154) dX5_countWays_111 (by decide) (fun c_111 => ?_) (fun c_111 => ?_)
    · replace h := h.1 c_111
      refine ex_iinc (v := l6 + 1) (L2 := [.ref 35, .ref m, .int l2, .int l3, .int l4, .int l5, .int (l6 + 1), .int l7]) dX5_countWays_154 rfl rfl (by decide) rfl rfl ?_
      obtain ⟨x9, ex9⟩ : ∃ x9 : Int32, x9 = l6 + 1 := ⟨_, rfl⟩
      rw [← ex9]
      replace h := h x9 ex9
      refine ex_goto (tgt := 89) dX5_countWays_157 (by decide) ?_
      refine ex_less (L2 := [.ref 35, .ref m, .int l2, .int l3, .int l4, .int l5, .int x9, .null]) ?_ (by intro i v hi hn; match i, hi with | 0, hi => exact hi | 1, hi => exact hi | 2, hi => exact hi | 3, hi => exact hi | 4, hi => exact hi | 5, hi => exact hi | 6, hi => exact hi | 7, hi => (cases hi; cases hn) | k + 8, hi => (exact absurd hi (by simp)))
      exact hB89 l2 l3 l4 l5 x9 M h
    · replace h := h.2 c_111
      refine ex_aload_n dX5_countWays_114 rfl ?_
      refine ex_getR (ci := 5) (j := 4) (v := 39) dX5_countWays_115 (by decide) rfl rfl lk_X5_21 rfl (by decide) ?_
      refine ex_iload dX5_countWays_118 rfl ?_
      refine ex_iconst (v := 2) dX5_countWays_120 (by decide) ?_
      refine ex_aload_n dX5_countWays_121 rfl ?_
      refine ex_getR (ci := 5) (j := 4) (v := 39) dX5_countWays_122 (by decide) rfl rfl lk_X5_21 rfl (by decide) ?_
      refine ex_iload dX5_countWays_125 rfl ?_
      obtain ⟨b10, h⟩ := h
      refine ex_iald dX5_countWays_127 (by decide) rfl b10 ?_
      refine ex_aload_n dX5_countWays_128 rfl ?_
      refine ex_getR (ci := 5) (j := 4) (v := 39) dX5_countWays_129 (by decide) rfl rfl lk_X5_21 rfl (by decide) ?_
      refine ex_iload dX5_countWays_132 rfl ?_
      refine ex_aload_n dX5_countWays_134 rfl ?_
      refine ex_getR (ci := 5) (j := 1) (v := 37) dX5_countWays_135 (by decide) rfl rfl lk_X5_15 rfl (by decide) ?_
      refine ex_iload dX5_countWays_138 rfl ?_
      obtain ⟨b11, h⟩ := h
      refine ex_iald dX5_countWays_140 (by decide) rfl b11 ?_
      refine ex_isub dX5_countWays_141 ?_
      obtain ⟨b12, h⟩ := h
      refine ex_iald dX5_countWays_142 (by decide) rfl b12 ?_
      refine ex_iadd dX5_countWays_143 ?_
      refine ex_min dX5_countWays_144 lk_X5_61 (by decide) (Nat.le_of_ble_eq_true rfl) ?_
      obtain ⟨b13, h⟩ := h
      refine ex_iast dX5_countWays_147 (by decide) rfl b13 ?_
      refine ex_nmM (fun M14 eM14 => ?_)
      replace h := h M14 eM14
      refine ex_iinc (v := l7 + (-1)) (L2 := [.ref 35, .ref m, .int l2, .int l3, .int l4, .int l5, .int l6, .int (l7 + (-1))]) dX5_countWays_148 rfl rfl (by decide) rfl rfl ?_
      obtain ⟨x15, ex15⟩ : ∃ x15 : Int32, x15 = l7 + (-1) := ⟨_, rfl⟩
      rw [← ex15]
      replace h := h x15 ex15
      refine ex_goto (tgt := 102) dX5_countWays_151 (by decide) ?_
      exact hB102 l2 l3 l4 l5 l6 x15 M14 h
def wb_X5_countWays_89 (m : Nat) (Q : Int32 → Mem → Prop) (B89 : Int32 → Int32 → Int32 → Int32 → Int32 → Mem → Prop) (l2 : Int32) (l3 : Int32) (l4 : Int32) (l5 : Int32) (l6 : Int32) (M : Mem) : Prop := (((M 35 2) ≤ l6) → ((vp_in l5 137) ∧ (Q (M 39 (Int32.toNatClampNeg l5)) M))) ∧ (¬ ((M 35 2) ≤ l6) → (∃ k, w_X5_countWays_102 m Q B89 k l2 l3 l4 l5 l6 l5 M))
def w_X5_countWays_89 (m : Nat) (Q : Int32 → Mem → Prop) : Nat → Int32 → Int32 → Int32 → Int32 → Int32 → Mem → Prop
  | 0 => fun _ _ _ _ _ _ => False
  | k + 1 => wb_X5_countWays_89 m Q  (w_X5_countWays_89 m Q  k)
theorem t_X5_countWays_89 (m : Nat) (hm : MU m) (Q : Int32 → Mem → Prop) : ∀ (k : Nat) (l2 : Int32) (l3 : Int32) (l4 : Int32) (l5 : Int32) (l6 : Int32) (M : Mem), w_X5_countWays_89 m Q  k l2 l3 l4 l5 l6 M → Ex true mX5_countWays 78 78 0 0 89 [.ref 35, .ref m, .int l2, .int l3, .int l4, .int l5, .int l6, .null] [] M Q := by
  intro k
  induction k with
  | zero => intro l2 l3 l4 l5 l6 M h; exact False.elim h
  | succ k hB89 =>
    intro l2 l3 l4 l5 l6 M h
    replace h : wb_X5_countWays_89 m Q  (w_X5_countWays_89 m Q  k) l2 l3 l4 l5 l6 M := h
    generalize w_X5_countWays_89 m Q  k = B89 at hB89 h
    unfold wb_X5_countWays_89 at h
    refine ex_iload dX5_countWays_89 rfl ?_
    refine ex_aload_n dX5_countWays_91 rfl ?_
    refine ex_getI (ci := 5) (j := 2) dX5_countWays_92 (by decide) rfl rfl lk_X5_51 ?_
    refine ex_icmp_ge (tgt := 160) dX5_countWays_95 (by decide) (fun c_95 => ?_) (fun c_95 => ?_)
    · replace h := h.1 c_95
      refine ex_aload_n dX5_countWays_160 rfl ?_
      refine ex_getR (ci := 5) (j := 4) (v := 39) dX5_countWays_161 (by decide) rfl rfl lk_X5_21 rfl (by decide) ?_
      refine ex_iload dX5_countWays_164 rfl ?_
      obtain ⟨b7, h⟩ := h
      refine ex_iald dX5_countWays_166 (by decide) rfl b7 ?_
      exact ex_iret dX5_countWays_167 rfl rfl rfl h
    · replace h := h.2 c_95
      refine ex_iload dX5_countWays_98 rfl ?_
      refine ex_istore (L2 := [.ref 35, .ref m, .int l2, .int l3, .int l4, .int l5, .int l6, .int l5]) dX5_countWays_100 (by decide) rfl rfl ?_
      obtain ⟨k_, h⟩ := h
      exact t_X5_countWays_102 m hm  Q B89 hB89 k_ l2 l3 l4 l5 l6 l5 M h
def wb_X5_countWays_56 (m : Nat) (Q : Int32 → Mem → Prop) (B56 : Int32 → Int32 → Int32 → Int32 → Int32 → Mem → Prop) (l2 : Int32) (l3 : Int32) (l4 : Int32) (l5 : Int32) (l6 : Int32) (M : Mem) : Prop := ((l5 < l6) → (∃ k, w_X5_countWays_89 m Q  k l2 l3 l4 l5 0 M)) ∧ (¬ (l5 < l6) → (∀ z16 : Int32, z16 = (if l6 = 0 then 1 else 0) → (vp_in l6 137) ∧ (∀ M18 : Mem, M18 = (mset M 39 (Int32.toNatClampNeg l6) z16) → ∀ x19 : Int32, x19 = l6 + 1 → B56 l2 l3 l4 l5 x19 M18)))
def w_X5_countWays_56 (m : Nat) (Q : Int32 → Mem → Prop) : Nat → Int32 → Int32 → Int32 → Int32 → Int32 → Mem → Prop
  | 0 => fun _ _ _ _ _ _ => False
  | k + 1 => wb_X5_countWays_56 m Q  (w_X5_countWays_56 m Q  k)
theorem t_X5_countWays_56 (m : Nat) (hm : MU m) (Q : Int32 → Mem → Prop) : ∀ (k : Nat) (l2 : Int32) (l3 : Int32) (l4 : Int32) (l5 : Int32) (l6 : Int32) (M : Mem), w_X5_countWays_56 m Q  k l2 l3 l4 l5 l6 M → Ex true mX5_countWays 78 78 0 0 56 [.ref 35, .ref m, .int l2, .int l3, .int l4, .int l5, .int l6, .null] [] M Q := by
  intro k
  induction k with
  | zero => intro l2 l3 l4 l5 l6 M h; exact False.elim h
  | succ k hB56 =>
    intro l2 l3 l4 l5 l6 M h
    replace h : wb_X5_countWays_56 m Q  (w_X5_countWays_56 m Q  k) l2 l3 l4 l5 l6 M := h
    generalize w_X5_countWays_56 m Q  k = B56 at hB56 h
    unfold wb_X5_countWays_56 at h
    refine ex_iload dX5_countWays_56 rfl ?_
    refine ex_iload dX5_countWays_58 rfl ?_
    refine ex_icmp_gt (tgt := 86) dX5_countWays_60 (by decide) (fun c_60 => ?_) (fun c_60 => ?_)
    · replace h := h.1 c_60
      refine ex_iconst (v := 0) dX5_countWays_86 (by decide) ?_
      refine ex_istore (L2 := [.ref 35, .ref m, .int l2, .int l3, .int l4, .int l5, .int 0, .null]) dX5_countWays_87 (by decide) rfl rfl ?_
      obtain ⟨k_, h⟩ := h
      exact t_X5_countWays_89 m hm  Q   k_ l2 l3 l4 l5 0 M h
    · replace h := h.2 c_60
      refine ex_aload_n dX5_countWays_63 rfl ?_
      refine ex_getR (ci := 5) (j := 4) (v := 39) dX5_countWays_64 (by decide) rfl rfl lk_X5_21 rfl (by decide) ?_
      refine ex_iload dX5_countWays_67 rfl ?_
      refine ex_iload dX5_countWays_69 rfl ?_
      have hJ20 : ∀ z16 : Int32, z16 = (if l6 = 0 then 1 else 0) → Ex true mX5_countWays 78 78 0 0 79 [.ref 35, .ref m, .int l2, .int l3, .int l4, .int l5, .int l6, .null] [.int z16, .int l6, .ref 39] M Q := by
        intro z16 ez16
        replace h := h z16 ez16
        obtain ⟨b17, h⟩ := h
        refine ex_iast dX5_countWays_79 (by decide) rfl b17 ?_
        refine ex_nmM (fun M18 eM18 => ?_)
        replace h := h M18 eM18
        refine ex_iinc (v := l6 + 1) (L2 := [.ref 35, .ref m, .int l2, .int l3, .int l4, .int l5, .int (l6 + 1), .null]) dX5_countWays_80 rfl rfl (by decide) rfl rfl ?_
        obtain ⟨x19, ex19⟩ : ∃ x19 : Int32, x19 = l6 + 1 := ⟨_, rfl⟩
        rw [← ex19]
        replace h := h x19 ex19
        refine ex_goto (tgt := 56) dX5_countWays_83 (by decide) ?_
        exact hB56 l2 l3 l4 l5 x19 M18 h
      refine ex_if_ne (tgt := 78) dX5_countWays_71 (by decide) (fun c_71 => ?_) (fun c_71 => ?_)
      ·
        refine ex_iconst (v := 0) dX5_countWays_78 (by decide) ?_
        exact hJ20 _ (by rw [if_neg c_71])
      ·
        refine ex_iconst (v := 1) dX5_countWays_74 (by decide) ?_
        refine ex_goto (tgt := 79) dX5_countWays_75 (by decide) ?_
        exact hJ20 _ (by rw [if_pos c_71])
def w_X5_countWays_32 (m : Nat) (Q : Int32 → Mem → Prop) (l2 : Int32) (l3 : Int32) (l4 : Int32) (M : Mem) : Prop := w_X5_load m l3 l4 (M m 0) M (fun v5 M6 => ((0 ≤ v5) → (∃ k, w_X5_countWays_56 m Q  k l2 l3 l4 v5 0 M6)) ∧ (¬ (0 ≤ v5) → (Q 0 M6)))
theorem t_X5_countWays_32 (m : Nat) (hm : MU m) (Q : Int32 → Mem → Prop) (l2 : Int32) (l3 : Int32) (l4 : Int32) (M : Mem) (h : w_X5_countWays_32 m Q  l2 l3 l4 M) : Ex true mX5_countWays 78 78 0 0 32 [.ref 35, .ref m, .int l2, .int l3, .int l4, .null, .null, .null] [] M Q := by
  unfold w_X5_countWays_32 at h
  refine ex_aload_n dX5_countWays_32 rfl ?_
  refine ex_aload_n dX5_countWays_33 rfl ?_
  refine ex_iload_n dX5_countWays_34 rfl ?_
  refine ex_iload dX5_countWays_35 rfl ?_
  refine ex_aload_n dX5_countWays_37 rfl ?_
  refine ex_getI (ci := 0) (j := 0) dX5_countWays_38 (mu_l hm 0 (by decide)) (mu_S0 hm) rfl lk_X5_29 ?_
  refine ex_invV (k := 35) (ci := 5) (as := [.ref m, .int l3, .int l4, .int (M m 0)]) (L2 := [.ref 35, .ref m, .int l3, .int l4, .int (M m 0), .null, .null]) (st := []) 0 0 dX5_countWays_41 lk_X5_40 sl_X5_load (rmK_of rfl) (by decide) rfl ⟨by decide, rfl⟩ rfl (Nat.le_of_ble_eq_true rfl) (Nat.le_of_ble_eq_true rfl) (t_X5_load m hm l3 l4 (M m 0) M _ h) (fun v5 M6 h => ?_)
  show Ex true mX5_countWays 78 78 0 0 44 [.ref 35, .ref m, .int l2, .int l3, .int l4, .null, .null, .null] [.int v5] M6 Q
  refine ex_istore (L2 := [.ref 35, .ref m, .int l2, .int l3, .int l4, .int v5, .null, .null]) dX5_countWays_44 (by decide) rfl rfl ?_
  refine ex_iload dX5_countWays_46 rfl ?_
  refine ex_if_ge (tgt := 53) dX5_countWays_48 (by decide) (fun c_48 => ?_) (fun c_48 => ?_)
  · replace h := h.1 c_48
    refine ex_iconst (v := 0) dX5_countWays_53 (by decide) ?_
    refine ex_istore (L2 := [.ref 35, .ref m, .int l2, .int l3, .int l4, .int v5, .int 0, .null]) dX5_countWays_54 (by decide) rfl rfl ?_
    obtain ⟨k_, h⟩ := h
    exact t_X5_countWays_56 m hm  Q   k_ l2 l3 l4 v5 0 M6 h
  · replace h := h.2 c_48
    refine ex_iconst (v := 0) dX5_countWays_51 (by decide) ?_
    exact ex_iret dX5_countWays_52 rfl rfl rfl h
def w_X5_countWays (m : Nat) (p2 : Int32) (M : Mem) (Q : Int32 → Mem → Prop) : Prop := (vp_in p2 180) ∧ (∀ x2 : Int32, x2 = (M (m + 2) (Int32.toNatClampNeg p2)) → (vp_in p2 180) ∧ (∀ x4 : Int32, x4 = (M (m + 3) (Int32.toNatClampNeg p2)) → ((x4 ≤ 0) → (w_X5_countWays_32 m Q  p2 x2 x4 M)) ∧ (¬ (x4 ≤ 0) → ((vp_in x2 600) ∧ ((¬ ((M (m + 9) (Int32.toNatClampNeg x2)) = 2) → (w_X5_countWays_32 m Q  p2 x2 x4 M)) ∧ (((M (m + 9) (Int32.toNatClampNeg x2)) = 2) → (Q 1 M)))))))
theorem t_X5_countWays (m : Nat) (hm : MU m) (p2 : Int32) (M : Mem) (Q : Int32 → Mem → Prop) (h : w_X5_countWays m p2 M Q) : Ex true mX5_countWays 78 78 0 0 0 [.ref 35, .ref m, .int p2, .null, .null, .null, .null, .null] [] M Q := by
  unfold w_X5_countWays at h
  refine ex_aload_n dX5_countWays_0 rfl ?_
  refine ex_getR (ci := 0) (j := 5) (v := m + 2) dX5_countWays_1 (mu_l hm 0 (by decide)) (mu_S0 hm) rfl lk_X5_24 (mu_F5 hm) (by omega) ?_
  refine ex_iload_n dX5_countWays_4 rfl ?_
  obtain ⟨b1, h⟩ := h
  refine ex_iald dX5_countWays_5 (mu_l hm 2 (by decide)) (mu_S2 hm) b1 ?_
  refine ex_top (fun x2 ex2 => ?_)
  replace h := h x2 ex2
  refine ex_istore_n (L2 := [.ref 35, .ref m, .int p2, .int x2, .null, .null, .null, .null]) dX5_countWays_6 (by decide) rfl rfl ?_
  refine ex_aload_n dX5_countWays_7 rfl ?_
  refine ex_getR (ci := 0) (j := 6) (v := m + 3) dX5_countWays_8 (mu_l hm 0 (by decide)) (mu_S0 hm) rfl lk_X5_33 (mu_F6 hm) (by omega) ?_
  refine ex_iload_n dX5_countWays_11 rfl ?_
  obtain ⟨b3, h⟩ := h
  refine ex_iald dX5_countWays_12 (mu_l hm 3 (by decide)) (mu_S3 hm) b3 ?_
  refine ex_top (fun x4 ex4 => ?_)
  replace h := h x4 ex4
  refine ex_istore (L2 := [.ref 35, .ref m, .int p2, .int x2, .int x4, .null, .null, .null]) dX5_countWays_13 (by decide) rfl rfl ?_
  refine ex_iload dX5_countWays_15 rfl ?_
  refine ex_if_le (tgt := 32) dX5_countWays_17 (by decide) (fun c_17 => ?_) (fun c_17 => ?_)
  · replace h := h.1 c_17
    exact t_X5_countWays_32 m hm  Q   p2 x2 x4 M h
  · replace h := h.2 c_17
    refine ex_aload_n dX5_countWays_20 rfl ?_
    refine ex_getR (ci := 0) (j := 12) (v := m + 9) dX5_countWays_21 (mu_l hm 0 (by decide)) (mu_S0 hm) rfl lk_X5_44 (mu_F12 hm) (by omega) ?_
    refine ex_iload_n dX5_countWays_24 rfl ?_
    obtain ⟨b21, h⟩ := h
    refine ex_iald dX5_countWays_25 (mu_l hm 9 (by decide)) (mu_S9 hm) b21 ?_
    refine ex_iconst (v := 2) dX5_countWays_26 (by decide) ?_
    refine ex_icmp_ne (tgt := 32) dX5_countWays_27 (by decide) (fun c_27 => ?_) (fun c_27 => ?_)
    · replace h := h.1 c_27
      exact t_X5_countWays_32 m hm  Q   p2 x2 x4 M h
    · replace h := h.2 c_27
      refine ex_iconst (v := 1) dX5_countWays_30 (by decide) ?_
      exact ex_iret dX5_countWays_31 rfl rfl rfl h
