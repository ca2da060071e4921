def w_X7_clear (M : Mem) (Q : Int32 → Mem → Prop) : Prop := ∀ M1 : Mem, M1 = (mset M 46 6 0) → ∀ M2 : Mem, M2 = (mset M1 46 7 512) → (vp_in 0 2) ∧ (∀ M4 : Mem, M4 = (mset M2 53 (Int32.toNatClampNeg 0) 0) → (vp_in 0 2) ∧ (∀ M6 : Mem, M6 = (mset M4 54 (Int32.toNatClampNeg 0) 0) → (vp_in 0 2) ∧ (∀ M8 : Mem, M8 = (mset M6 55 (Int32.toNatClampNeg 0) 0) → Q 0 M8)))
theorem t_X7_clear (M : Mem) (Q : Int32 → Mem → Prop) (h : w_X7_clear   M Q) : Ex true mX7_clear 78 78 0 0 0 [.ref 46] [] M Q := by
  unfold w_X7_clear at h
  refine ex_aload_n dX7_clear_0 rfl ?_
  refine ex_iconst (v := 0) dX7_clear_1 (by decide) ?_
  refine ex_putI (ci := 7) (j := 6) dX7_clear_2 (by decide) rfl rfl lk_X7_108 ⟨rfl, rfl⟩ ?_
  refine ex_nmM (fun M1 eM1 => ?_)
  replace h := h M1 eM1
  refine ex_aload_n dX7_clear_5 rfl ?_
  refine ex_sipush (v := 512) dX7_clear_6 (by decide) ?_
  refine ex_putI (ci := 7) (j := 7) dX7_clear_9 (by decide) rfl rfl lk_X7_28 ⟨rfl, rfl⟩ ?_
  refine ex_nmM (fun M2 eM2 => ?_)
  replace h := h M2 eM2
  refine ex_aload_n dX7_clear_12 rfl ?_
  refine ex_getR (ci := 7) (j := 8) (v := 53) dX7_clear_13 (by decide) rfl rfl lk_X7_32 rfl (by decide) ?_
  refine ex_iconst (v := 0) dX7_clear_16 (by decide) ?_
  refine ex_iconst (v := 0) dX7_clear_17 (by decide) ?_
  obtain ⟨b3, h⟩ := h
  refine ex_iast dX7_clear_18 (by decide) rfl b3 ?_
  refine ex_nmM (fun M4 eM4 => ?_)
  replace h := h M4 eM4
  refine ex_aload_n dX7_clear_19 rfl ?_
  refine ex_getR (ci := 7) (j := 9) (v := 54) dX7_clear_20 (by decide) rfl rfl lk_X7_35 rfl (by decide) ?_
  refine ex_iconst (v := 0) dX7_clear_23 (by decide) ?_
  refine ex_iconst (v := 0) dX7_clear_24 (by decide) ?_
  obtain ⟨b5, h⟩ := h
  refine ex_iast dX7_clear_25 (by decide) rfl b5 ?_
  refine ex_nmM (fun M6 eM6 => ?_)
  replace h := h M6 eM6
  refine ex_aload_n dX7_clear_26 rfl ?_
  refine ex_getR (ci := 7) (j := 10) (v := 55) dX7_clear_27 (by decide) rfl rfl lk_X7_38 rfl (by decide) ?_
  refine ex_iconst (v := 0) dX7_clear_30 (by decide) ?_
  refine ex_iconst (v := 0) dX7_clear_31 (by decide) ?_
  obtain ⟨b7, h⟩ := h
  refine ex_iast dX7_clear_32 (by decide) rfl b7 ?_
  refine ex_nmM (fun M8 eM8 => ?_)
  replace h := h M8 eM8
  exact ex_vret dX7_clear_33 rfl rfl h
def w_X7_cell (p1 : Int32) (M : Mem) (Q : Int32 → Mem → Prop) : Prop := ((p1 < 0) → (Q (-2) M)) ∧ (¬ (p1 < 0) → (((p1 ≤ 64) → ((¬ ((M 46 6) = 4000) → ((vp_in (M 46 6) 4000) ∧ (∀ M2 : Mem, M2 = (mset M 52 (Int32.toNatClampNeg (M 46 6)) p1) → ∀ M3 : Mem, M3 = (mset M2 46 6 ((M2 46 6) + 1)) → Q (M3 46 6) M3))) ∧ (((M 46 6) = 4000) → (Q (-4) M)))) ∧ (¬ (p1 ≤ 64) → (Q (-2) M))))
theorem t_X7_cell (p1 : Int32) (M : Mem) (Q : Int32 → Mem → Prop) (h : w_X7_cell  p1 M Q) : Ex true mX7_cell 78 78 0 0 0 [.ref 46, .int p1] [] M Q := by
  unfold w_X7_cell at h
  refine ex_iload_n dX7_cell_0 rfl ?_
  refine ex_if_lt (tgt := 10) dX7_cell_1 (by decide) (fun c_1 => ?_) (fun c_1 => ?_)
  · replace h := h.1 c_1
    refine ex_bipush (v := (-2)) dX7_cell_10 (by decide) ?_
    exact ex_iret dX7_cell_12 rfl rfl rfl h
  · replace h := h.2 c_1
    refine ex_iload_n dX7_cell_4 rfl ?_
    refine ex_bipush (v := 64) dX7_cell_5 (by decide) ?_
    refine ex_icmp_le (tgt := 13) dX7_cell_7 (by decide) (fun c_7 => ?_) (fun c_7 => ?_)
    · replace h := h.1 c_7
      refine ex_aload_n dX7_cell_13 rfl ?_
      refine ex_getI (ci := 7) (j := 6) dX7_cell_14 (by decide) rfl rfl lk_X7_108 ?_
      refine ex_sipush (v := 4000) dX7_cell_17 (by decide) ?_
      refine ex_icmp_ne (tgt := 26) dX7_cell_20 (by decide) (fun c_20 => ?_) (fun c_20 => ?_)
      · replace h := h.1 c_20
        refine ex_aload_n dX7_cell_26 rfl ?_
        refine ex_getR (ci := 7) (j := 5) (v := 52) dX7_cell_27 (by decide) rfl rfl lk_X7_25 rfl (by decide) ?_
        refine ex_aload_n dX7_cell_30 rfl ?_
        refine ex_getI (ci := 7) (j := 6) dX7_cell_31 (by decide) rfl rfl lk_X7_108 ?_
        refine ex_iload_n dX7_cell_34 rfl ?_
        obtain ⟨b1, h⟩ := h
        refine ex_iast dX7_cell_35 (by decide) rfl b1 ?_
        refine ex_nmM (fun M2 eM2 => ?_)
        replace h := h M2 eM2
        refine ex_aload_n dX7_cell_36 rfl ?_
        refine ex_dup dX7_cell_37 rfl ?_
        refine ex_getI (ci := 7) (j := 6) dX7_cell_38 (by decide) rfl rfl lk_X7_108 ?_
        refine ex_iconst (v := 1) dX7_cell_41 (by decide) ?_
        refine ex_iadd dX7_cell_42 ?_
        refine ex_putI (ci := 7) (j := 6) dX7_cell_43 (by decide) rfl rfl lk_X7_108 ⟨rfl, rfl⟩ ?_
        refine ex_nmM (fun M3 eM3 => ?_)
        replace h := h M3 eM3
        refine ex_aload_n dX7_cell_46 rfl ?_
        refine ex_getI (ci := 7) (j := 6) dX7_cell_47 (by decide) rfl rfl lk_X7_108 ?_
        exact ex_iret dX7_cell_50 rfl rfl rfl h
      · replace h := h.2 c_20
        refine ex_bipush (v := (-4)) dX7_cell_23 (by decide) ?_
        exact ex_iret dX7_cell_25 rfl rfl rfl h
    · replace h := h.2 c_7
      refine ex_bipush (v := (-2)) dX7_cell_10 (by decide) ?_
      exact ex_iret dX7_cell_12 rfl rfl rfl h
def wb_X7_more_89 (Q : Int32 → Mem → Prop) (B89 : Int64 → Int32 → Int32 → Mem → Prop) (l1 : Int64) (l3 : Int32) (l4 : Int32) (M : Mem) : Prop := ((8 ≤ l4) → (Q (M 46 6) M)) ∧ (¬ (8 ≤ l4) → (∀ x1 : Int32, x1 = ((Int64.toInt32 (l1 >>> (Int32.toInt64 (56 - (8 * l4)) &&& 63))) &&& 255) → ((x1 = 0) → (∀ x2 : Int32, x2 = l4 + 1 → B89 l1 l3 x2 M)) ∧ (¬ (x1 = 0) → ((vp_in (M 46 6) 4000) ∧ (∀ M4 : Mem, M4 = (mset M 52 (Int32.toNatClampNeg (M 46 6)) (x1 - 64)) → ∀ M5 : Mem, M5 = (mset M4 46 6 ((M4 46 6) + 1)) → ∀ x6 : Int32, x6 = l4 + 1 → B89 l1 l3 x6 M5)))))
def w_X7_more_89 (Q : Int32 → Mem → Prop) : Nat → Int64 → Int32 → Int32 → Mem → Prop
  | 0 => fun _ _ _ _ => False
  | k + 1 => wb_X7_more_89  Q  (w_X7_more_89  Q  k)
theorem t_X7_more_89 (Q : Int32 → Mem → Prop) : ∀ (k : Nat) (l1 : Int64) (l3 : Int32) (l4 : Int32) (M : Mem), w_X7_more_89  Q  k l1 l3 l4 M → Ex true mX7_more 78 78 0 0 89 [.ref 46, .long l1, .null, .int l3, .int l4, .null] [] M Q := by
  intro k
  induction k with
  | zero => intro l1 l3 l4 M h; exact False.elim h
  | succ k hB89 =>
    intro l1 l3 l4 M h
    replace h : wb_X7_more_89  Q  (w_X7_more_89  Q  k) l1 l3 l4 M := h
    generalize w_X7_more_89  Q  k = B89 at hB89 h
    unfold wb_X7_more_89 at h
    refine ex_iload dX7_more_89 rfl ?_
    refine ex_bipush (v := 8) dX7_more_91 (by decide) ?_
    refine ex_icmp_ge (tgt := 148) dX7_more_93 (by decide) (fun c_93 => ?_) (fun c_93 => ?_)
    · replace h := h.1 c_93
      refine ex_aload_n dX7_more_148 rfl ?_
      refine ex_getI (ci := 7) (j := 6) dX7_more_149 (by decide) rfl rfl lk_X7_108 ?_
      exact ex_iret dX7_more_152 rfl rfl rfl h
    · replace h := h.2 c_93
      refine ex_lload_n dX7_more_96 rfl ?_
      refine ex_bipush (v := 56) dX7_more_97 (by decide) ?_
      refine ex_bipush (v := 8) dX7_more_99 (by decide) ?_
      refine ex_iload dX7_more_101 rfl ?_
      refine ex_imul dX7_more_103 ?_
      refine ex_isub dX7_more_104 ?_
      refine ex_lshr dX7_more_105 ?_
      refine ex_l2i dX7_more_106 ?_
      refine ex_sipush (v := 255) dX7_more_107 (by decide) ?_
      refine ex_iand dX7_more_110 ?_
      refine ex_top (fun x1 ex1 => ?_)
      replace h := h x1 ex1
      refine ex_istore (L2 := [.ref 46, .long l1, .null, .int l3, .int l4, .int x1]) dX7_more_111 (by decide) rfl rfl ?_
      refine ex_iload dX7_more_113 rfl ?_
      refine ex_if_eq (tgt := 142) dX7_more_115 (by decide) (fun c_115 => ?_) (fun c_115 => ?_)
      · replace h := h.1 c_115
        refine ex_iinc (v := l4 + 1) (L2 := [.ref 46, .long l1, .null, .int l3, .int (l4 + 1), .int x1]) dX7_more_142 rfl rfl (by decide) rfl rfl ?_
        obtain ⟨x2, ex2⟩ : ∃ x2 : Int32, x2 = l4 + 1 := ⟨_, rfl⟩
        rw [← ex2]
        replace h := h x2 ex2
        refine ex_goto (tgt := 89) dX7_more_145 (by decide) ?_
        refine ex_less (L2 := [.ref 46, .long l1, .null, .int l3, .int x2, .null]) ?_ (by intro i v hi hn; match i, hi with | 0, hi => exact hi | 1, hi => exact hi | 2, hi => exact hi | 3, hi => exact hi | 4, hi => exact hi | 5, hi => (cases hi; cases hn) | k + 6, hi => (exact absurd hi (by simp)))
        exact hB89 l1 l3 x2 M h
      · replace h := h.2 c_115
        refine ex_aload_n dX7_more_118 rfl ?_
        refine ex_getR (ci := 7) (j := 5) (v := 52) dX7_more_119 (by decide) rfl rfl lk_X7_25 rfl (by decide) ?_
        refine ex_aload_n dX7_more_122 rfl ?_
        refine ex_getI (ci := 7) (j := 6) dX7_more_123 (by decide) rfl rfl lk_X7_108 ?_
        refine ex_iload dX7_more_126 rfl ?_
        refine ex_bipush (v := 64) dX7_more_128 (by decide) ?_
        refine ex_isub dX7_more_130 ?_
        obtain ⟨b3, h⟩ := h
        refine ex_iast dX7_more_131 (by decide) rfl b3 ?_
        refine ex_nmM (fun M4 eM4 => ?_)
        replace h := h M4 eM4
        refine ex_aload_n dX7_more_132 rfl ?_
        refine ex_dup dX7_more_133 rfl ?_
        refine ex_getI (ci := 7) (j := 6) dX7_more_134 (by decide) rfl rfl lk_X7_108 ?_
        refine ex_iconst (v := 1) dX7_more_137 (by decide) ?_
        refine ex_iadd dX7_more_138 ?_
        refine ex_putI (ci := 7) (j := 6) dX7_more_139 (by decide) rfl rfl lk_X7_108 ⟨rfl, rfl⟩ ?_
        refine ex_nmM (fun M5 eM5 => ?_)
        replace h := h M5 eM5
        refine ex_iinc (v := l4 + 1) (L2 := [.ref 46, .long l1, .null, .int l3, .int (l4 + 1), .int x1]) dX7_more_142 rfl rfl (by decide) rfl rfl ?_
        obtain ⟨x6, ex6⟩ : ∃ x6 : Int32, x6 = l4 + 1 := ⟨_, rfl⟩
        rw [← ex6]
        replace h := h x6 ex6
        refine ex_goto (tgt := 89) dX7_more_145 (by decide) ?_
        refine ex_less (L2 := [.ref 46, .long l1, .null, .int l3, .int x6, .null]) ?_ (by intro i v hi hn; match i, hi with | 0, hi => exact hi | 1, hi => exact hi | 2, hi => exact hi | 3, hi => exact hi | 4, hi => exact hi | 5, hi => (cases hi; cases hn) | k + 6, hi => (exact absurd hi (by simp)))
        exact hB89 l1 l3 x6 M5 h
def w_X7_more_52 (Q : Int32 → Mem → Prop) (B5 : Int64 → Int32 → Int32 → Mem → Prop) (l1 : Int64) (l3 : Int32) (l4 : Int32) (l5 : Int32) (M : Mem) : Prop := ∀ z8 : Int32, z8 = (if l5 = 0 then 0 else 1) → ∀ x9 : Int32, x9 = (l3 + z8) → ∀ x10 : Int32, x10 = l4 + 1 → B5 l1 x9 x10 M
theorem t_X7_more_52 (Q : Int32 → Mem → Prop) (B5 : Int64 → Int32 → Int32 → Mem → Prop) (hB5 : ∀ (l1 : Int64) (l3 : Int32) (l4 : Int32) (M : Mem), B5 l1 l3 l4 M → Ex true mX7_more 78 78 0 0 5 [.ref 46, .long l1, .null, .int l3, .int l4, .null] [] M Q) (l1 : Int64) (l3 : Int32) (l4 : Int32) (l5 : Int32) (M : Mem) (h : w_X7_more_52  Q B5 l1 l3 l4 l5 M) : Ex true mX7_more 78 78 0 0 52 [.ref 46, .long l1, .null, .int l3, .int l4, .int l5] [] M Q := by
  unfold w_X7_more_52 at h
  refine ex_iload_n dX7_more_52 rfl ?_
  refine ex_iload dX7_more_53 rfl ?_
  have hJ11 : ∀ z8 : Int32, z8 = (if l5 = 0 then 0 else 1) → Ex true mX7_more 78 78 0 0 63 [.ref 46, .long l1, .null, .int l3, .int l4, .int l5] [.int z8, .int l3] M Q := by
    intro z8 ez8
    replace h := h z8 ez8
    refine ex_iadd dX7_more_63 ?_
    refine ex_top (fun x9 ex9 => ?_)
    replace h := h x9 ex9
    refine ex_istore_n (L2 := [.ref 46, .long l1, .null, .int x9, .int l4, .int l5]) dX7_more_64 (by decide) rfl rfl ?_
    refine ex_iinc (v := l4 + 1) (L2 := [.ref 46, .long l1, .null, .int x9, .int (l4 + 1), .int l5]) dX7_more_65 rfl rfl (by decide) rfl rfl ?_
    obtain ⟨x10, ex10⟩ : ∃ x10 : Int32, x10 = l4 + 1 := ⟨_, rfl⟩
    rw [← ex10]
    replace h := h x10 ex10
    refine ex_goto (tgt := 5) dX7_more_68 (by decide) ?_
    refine ex_less (L2 := [.ref 46, .long l1, .null, .int x9, .int x10, .null]) ?_ (by intro i v hi hn; match i, hi with | 0, hi => exact hi | 1, hi => exact hi | 2, hi => exact hi | 3, hi => exact hi | 4, hi => exact hi | 5, hi => (cases hi; cases hn) | k + 6, hi => (exact absurd hi (by simp)))
    exact hB5 l1 x9 x10 M h
  refine ex_if_eq (tgt := 62) dX7_more_55 (by decide) (fun c_55 => ?_) (fun c_55 => ?_)
  ·
    refine ex_iconst (v := 0) dX7_more_62 (by decide) ?_
    exact hJ11 _ (by rw [if_pos c_55])
  ·
    refine ex_iconst (v := 1) dX7_more_58 (by decide) ?_
    refine ex_goto (tgt := 63) dX7_more_59 (by decide) ?_
    exact hJ11 _ (by rw [if_neg c_55])
def wb_X7_more_5 (Q : Int32 → Mem → Prop) (B5 : Int64 → Int32 → Int32 → Mem → Prop) (l1 : Int64) (l3 : Int32) (l4 : Int32) (M : Mem) : Prop := ((8 ≤ l4) → (((((M 46 6) + l3) ≤ 4000) → (∃ k, w_X7_more_89  Q  k l1 l3 0 M)) ∧ (¬ (((M 46 6) + l3) ≤ 4000) → (Q (-4) M)))) ∧ (¬ (8 ≤ l4) → (∀ x7 : Int32, x7 = ((Int64.toInt32 (l1 >>> (Int32.toInt64 (56 - (8 * l4)) &&& 63))) &&& 255) → ((x7 = 0) → (w_X7_more_52  Q B5 l1 l3 l4 x7 M)) ∧ (¬ (x7 = 0) → (((x7 < 64) → (Q (-2) M)) ∧ (¬ (x7 < 64) → (((x7 ≤ 128) → (w_X7_more_52  Q B5 l1 l3 l4 x7 M)) ∧ (¬ (x7 ≤ 128) → (Q (-2) M))))))))
def w_X7_more_5 (Q : Int32 → Mem → Prop) : Nat → Int64 → Int32 → Int32 → Mem → Prop
  | 0 => fun _ _ _ _ => False
  | k + 1 => wb_X7_more_5  Q  (w_X7_more_5  Q  k)
theorem t_X7_more_5 (Q : Int32 → Mem → Prop) : ∀ (k : Nat) (l1 : Int64) (l3 : Int32) (l4 : Int32) (M : Mem), w_X7_more_5  Q  k l1 l3 l4 M → Ex true mX7_more 78 78 0 0 5 [.ref 46, .long l1, .null, .int l3, .int l4, .null] [] M Q := by
  intro k
  induction k with
  | zero => intro l1 l3 l4 M h; exact False.elim h
  | succ k hB5 =>
    intro l1 l3 l4 M h
    replace h : wb_X7_more_5  Q  (w_X7_more_5  Q  k) l1 l3 l4 M := h
    generalize w_X7_more_5  Q  k = B5 at hB5 h
    unfold wb_X7_more_5 at h
    refine ex_iload dX7_more_5 rfl ?_
    refine ex_bipush (v := 8) dX7_more_7 (by decide) ?_
    refine ex_icmp_ge (tgt := 71) dX7_more_9 (by decide) (fun c_9 => ?_) (fun c_9 => ?_)
    · replace h := h.1 c_9
      refine ex_aload_n dX7_more_71 rfl ?_
      refine ex_getI (ci := 7) (j := 6) dX7_more_72 (by decide) rfl rfl lk_X7_108 ?_
      refine ex_iload_n dX7_more_75 rfl ?_
      refine ex_iadd dX7_more_76 ?_
      refine ex_sipush (v := 4000) dX7_more_77 (by decide) ?_
      refine ex_icmp_le (tgt := 86) dX7_more_80 (by decide) (fun c_80 => ?_) (fun c_80 => ?_)
      · replace h := h.1 c_80
        refine ex_iconst (v := 0) dX7_more_86 (by decide) ?_
        refine ex_istore (L2 := [.ref 46, .long l1, .null, .int l3, .int 0, .null]) dX7_more_87 (by decide) rfl rfl ?_
        obtain ⟨k_, h⟩ := h
        exact t_X7_more_89   Q   k_ l1 l3 0 M h
      · replace h := h.2 c_80
        refine ex_bipush (v := (-4)) dX7_more_83 (by decide) ?_
        exact ex_iret dX7_more_85 rfl rfl rfl h
    · replace h := h.2 c_9
      refine ex_lload_n dX7_more_12 rfl ?_
      refine ex_bipush (v := 56) dX7_more_13 (by decide) ?_
      refine ex_bipush (v := 8) dX7_more_15 (by decide) ?_
      refine ex_iload dX7_more_17 rfl ?_
      refine ex_imul dX7_more_19 ?_
      refine ex_isub dX7_more_20 ?_
      refine ex_lshr dX7_more_21 ?_
      refine ex_l2i dX7_more_22 ?_
      refine ex_sipush (v := 255) dX7_more_23 (by decide) ?_
      refine ex_iand dX7_more_26 ?_
      refine ex_top (fun x7 ex7 => ?_)
      replace h := h x7 ex7
      refine ex_istore (L2 := [.ref 46, .long l1, .null, .int l3, .int l4, .int x7]) dX7_more_27 (by decide) rfl rfl ?_
      refine ex_iload dX7_more_29 rfl ?_
      refine ex_if_eq (tgt := 52) dX7_more_31 (by decide) (fun c_31 => ?_) (fun c_31 => ?_)
      · replace h := h.1 c_31
        exact t_X7_more_52   Q B5 hB5 l1 l3 l4 x7 M h
      · replace h := h.2 c_31
        refine ex_iload dX7_more_34 rfl ?_
        refine ex_bipush (v := 64) dX7_more_36 (by decide) ?_
        refine ex_icmp_lt (tgt := 49) dX7_more_38 (by decide) (fun c_38 => ?_) (fun c_38 => ?_)
        · replace h := h.1 c_38
          refine ex_bipush (v := (-2)) dX7_more_49 (by decide) ?_
          exact ex_iret dX7_more_51 rfl rfl rfl h
        · replace h := h.2 c_38
          refine ex_iload dX7_more_41 rfl ?_
          refine ex_sipush (v := 128) dX7_more_43 (by decide) ?_
          refine ex_icmp_le (tgt := 52) dX7_more_46 (by decide) (fun c_46 => ?_) (fun c_46 => ?_)
          · replace h := h.1 c_46
            exact t_X7_more_52   Q B5 hB5 l1 l3 l4 x7 M h
          · replace h := h.2 c_46
            refine ex_bipush (v := (-2)) dX7_more_49 (by decide) ?_
            exact ex_iret dX7_more_51 rfl rfl rfl h
def w_X7_more (p1 : Int64) (M : Mem) (Q : Int32 → Mem → Prop) : Prop := ∃ k, w_X7_more_5  Q  k p1 0 0 M
theorem t_X7_more (p1 : Int64) (M : Mem) (Q : Int32 → Mem → Prop) (h : w_X7_more  p1 M Q) : Ex true mX7_more 78 78 0 0 0 [.ref 46, .long p1, .null, .null, .null, .null] [] M Q := by
  unfold w_X7_more at h
  refine ex_iconst (v := 0) dX7_more_0 (by decide) ?_
  refine ex_istore_n (L2 := [.ref 46, .long p1, .null, .int 0, .null, .null]) dX7_more_1 (by decide) rfl rfl ?_
  refine ex_iconst (v := 0) dX7_more_2 (by decide) ?_
  refine ex_istore (L2 := [.ref 46, .long p1, .null, .int 0, .int 0, .null]) dX7_more_3 (by decide) rfl rfl ?_
  obtain ⟨k_, h⟩ := h
  exact t_X7_more_5   Q   k_ p1 0 0 M h
def w_X7_cut (p1 : Int32) (M : Mem) (Q : Int32 → Mem → Prop) : Prop := ((p1 < 0) → (Q (-2) M)) ∧ (¬ (p1 < 0) → (((p1 ≤ (M 46 6)) → (∀ x1 : Int32, x1 = ((M 46 6) - p1) → ∀ M2 : Mem, M2 = (mset M 46 6 p1) → Q x1 M2)) ∧ (¬ (p1 ≤ (M 46 6)) → (Q (-2) M))))
theorem t_X7_cut (p1 : Int32) (M : Mem) (Q : Int32 → Mem → Prop) (h : w_X7_cut  p1 M Q) : Ex true mX7_cut 78 78 0 0 0 [.ref 46, .int p1, .null] [] M Q := by
  unfold w_X7_cut at h
  refine ex_iload_n dX7_cut_0 rfl ?_
  refine ex_if_lt (tgt := 12) dX7_cut_1 (by decide) (fun c_1 => ?_) (fun c_1 => ?_)
  · replace h := h.1 c_1
    refine ex_bipush (v := (-2)) dX7_cut_12 (by decide) ?_
    exact ex_iret dX7_cut_14 rfl rfl rfl h
  · replace h := h.2 c_1
    refine ex_iload_n dX7_cut_4 rfl ?_
    refine ex_aload_n dX7_cut_5 rfl ?_
    refine ex_getI (ci := 7) (j := 6) dX7_cut_6 (by decide) rfl rfl lk_X7_108 ?_
    refine ex_icmp_le (tgt := 15) dX7_cut_9 (by decide) (fun c_9 => ?_) (fun c_9 => ?_)
    · replace h := h.1 c_9
      refine ex_aload_n dX7_cut_15 rfl ?_
      refine ex_getI (ci := 7) (j := 6) dX7_cut_16 (by decide) rfl rfl lk_X7_108 ?_
      refine ex_iload_n dX7_cut_19 rfl ?_
      refine ex_isub dX7_cut_20 ?_
      refine ex_top (fun x1 ex1 => ?_)
      replace h := h x1 ex1
      refine ex_istore_n (L2 := [.ref 46, .int p1, .int x1]) dX7_cut_21 (by decide) rfl rfl ?_
      refine ex_aload_n dX7_cut_22 rfl ?_
      refine ex_iload_n dX7_cut_23 rfl ?_
      refine ex_putI (ci := 7) (j := 6) dX7_cut_24 (by decide) rfl rfl lk_X7_108 ⟨rfl, rfl⟩ ?_
      refine ex_nmM (fun M2 eM2 => ?_)
      replace h := h M2 eM2
      refine ex_iload_n dX7_cut_27 rfl ?_
      exact ex_iret dX7_cut_28 rfl rfl rfl h
    · replace h := h.2 c_9
      refine ex_bipush (v := (-2)) dX7_cut_12 (by decide) ?_
      exact ex_iret dX7_cut_14 rfl rfl rfl h
def w_X7_at (p1 : Int32) (M : Mem) (Q : Int32 → Mem → Prop) : Prop := (((p1 < 0) → (True)) ∧ (¬ (p1 < 0) → ((((M 46 6) ≤ p1) → (True)) ∧ (¬ ((M 46 6) ≤ p1) → ((vp_in p1 4000) ∧ (True)))))) ∧ (∀ z2 : Int32, z2 = (if p1 < 0 then (-1) else (if (M 46 6) ≤ p1 then (-1) else (M 52 (Int32.toNatClampNeg p1)))) → Q z2 M)
theorem t_X7_at (p1 : Int32) (M : Mem) (Q : Int32 → Mem → Prop) (h : w_X7_at  p1 M Q) : Ex true mX7_at 78 78 0 0 0 [.ref 46, .int p1] [] M Q := by
  unfold w_X7_at at h
  refine ex_iload_n dX7_at_0 rfl ?_
  obtain ⟨khJ3, h⟩ := h
  have hJ3 : ∀ z2 : Int32, z2 = (if p1 < 0 then (-1) else (if (M 46 6) ≤ p1 then (-1) else (M 52 (Int32.toNatClampNeg p1)))) → Ex true mX7_at 78 78 0 0 22 [.ref 46, .int p1] [.int z2] M Q := by
    intro z2 ez2
    replace h := h z2 ez2
    exact ex_iret dX7_at_22 rfl rfl rfl h
  refine ex_if_lt (tgt := 21) dX7_at_1 (by decide) (fun c_1 => ?_) (fun c_1 => ?_)
  · replace h := khJ3.1 c_1
    refine ex_iconst (v := (-1)) dX7_at_21 (by decide) ?_
    exact hJ3 _ (by rw [if_pos c_1])
  · replace h := khJ3.2 c_1
    refine ex_iload_n dX7_at_4 rfl ?_
    refine ex_aload_n dX7_at_5 rfl ?_
    refine ex_getI (ci := 7) (j := 6) dX7_at_6 (by decide) rfl rfl lk_X7_108 ?_
    refine ex_icmp_ge (tgt := 21) dX7_at_9 (by decide) (fun c_9 => ?_) (fun c_9 => ?_)
    · replace h := h.1 c_9
      refine ex_iconst (v := (-1)) dX7_at_21 (by decide) ?_
      exact hJ3 _ (by rw [if_neg c_1, if_pos c_9])
    · replace h := h.2 c_9
      refine ex_aload_n dX7_at_12 rfl ?_
      refine ex_getR (ci := 7) (j := 5) (v := 52) dX7_at_13 (by decide) rfl rfl lk_X7_25 rfl (by decide) ?_
      refine ex_iload_n dX7_at_16 rfl ?_
      obtain ⟨b1, h⟩ := h
      refine ex_iald dX7_at_17 (by decide) rfl b1 ?_
      refine ex_goto (tgt := 22) dX7_at_18 (by decide) ?_
      exact hJ3 _ (by rw [if_neg c_1, if_neg c_9])
def w_X7_lasts (p1 : Int32) (p2 : Int32) (p3 : Int32) (M : Mem) (Q : Int32 → Mem → Prop) : Prop := ∀ z1 : Int32, z1 = (if p2 = 0 then (512 >>> (p1 &&& 31)) else (32 >>> (p1 &&& 31))) → ∀ z2 : Int32, z2 = (if p3 ≤ 0 then 0 else (z1 / 2)) → ∀ z3 : Int32, z3 = (if p3 ≤ 1 then 0 else (z1 / 4)) → Q ((z1 + z2) + z3) M
theorem t_X7_lasts (p1 : Int32) (p2 : Int32) (p3 : Int32) (M : Mem) (Q : Int32 → Mem → Prop) (h : w_X7_lasts  p1 p2 p3 M Q) : Ex true mX7_lasts 78 78 0 0 0 [.int p1, .int p2, .int p3, .null] [] M Q := by
  unfold w_X7_lasts at h
  refine ex_iload_n dX7_lasts_0 rfl ?_
  have hJ6 : ∀ z1 : Int32, z1 = (if p2 = 0 then (512 >>> (p1 &&& 31)) else (32 >>> (p1 &&& 31))) → Ex true mX7_lasts 78 78 0 0 16 [.int p1, .int p2, .int p3, .null] [.int z1] M Q := by
    intro z1 ez1
    replace h := h z1 ez1
    refine ex_istore_n (L2 := [.int p1, .int p2, .int p3, .int z1]) dX7_lasts_16 (by decide) rfl rfl ?_
    refine ex_iload_n dX7_lasts_17 rfl ?_
    refine ex_iload_n dX7_lasts_18 rfl ?_
    have hJ5 : ∀ z2 : Int32, z2 = (if p3 ≤ 0 then 0 else (z1 / 2)) → Ex true mX7_lasts 78 78 0 0 29 [.int p1, .int p2, .int p3, .int z1] [.int z2, .int z1] M Q := by
      intro z2 ez2
      replace h := h z2 ez2
      refine ex_iadd dX7_lasts_29 ?_
      refine ex_iload_n dX7_lasts_30 rfl ?_
      refine ex_iconst (v := 1) dX7_lasts_31 (by decide) ?_
      have hJ4 : ∀ z3 : Int32, z3 = (if p3 ≤ 1 then 0 else (z1 / 4)) → Ex true mX7_lasts 78 78 0 0 42 [.int p1, .int p2, .int p3, .int z1] [.int z3, .int (z1 + z2)] M Q := by
        intro z3 ez3
        replace h := h z3 ez3
        refine ex_iadd dX7_lasts_42 ?_
        exact ex_iret dX7_lasts_43 rfl rfl rfl h
      refine ex_icmp_le (tgt := 41) dX7_lasts_32 (by decide) (fun c_32 => ?_) (fun c_32 => ?_)
      ·
        refine ex_iconst (v := 0) dX7_lasts_41 (by decide) ?_
        exact hJ4 _ (by rw [if_pos c_32])
      ·
        refine ex_iload_n dX7_lasts_35 rfl ?_
        refine ex_iconst (v := 4) dX7_lasts_36 (by decide) ?_
        refine ex_idiv dX7_lasts_37 (by decide) ?_
        refine ex_goto (tgt := 42) dX7_lasts_38 (by decide) ?_
        exact hJ4 _ (by rw [if_neg c_32])
    refine ex_if_le (tgt := 28) dX7_lasts_19 (by decide) (fun c_19 => ?_) (fun c_19 => ?_)
    ·
      refine ex_iconst (v := 0) dX7_lasts_28 (by decide) ?_
      exact hJ5 _ (by rw [if_pos c_19])
    ·
      refine ex_iload_n dX7_lasts_22 rfl ?_
      refine ex_iconst (v := 2) dX7_lasts_23 (by decide) ?_
      refine ex_idiv dX7_lasts_24 (by decide) ?_
      refine ex_goto (tgt := 29) dX7_lasts_25 (by decide) ?_
      exact hJ5 _ (by rw [if_neg c_19])
  refine ex_if_ne (tgt := 12) dX7_lasts_1 (by decide) (fun c_1 => ?_) (fun c_1 => ?_)
  ·
    refine ex_bipush (v := 32) dX7_lasts_12 (by decide) ?_
    refine ex_iload_n dX7_lasts_14 rfl ?_
    refine ex_ishr dX7_lasts_15 ?_
    exact hJ6 _ (by rw [if_neg c_1])
  ·
    refine ex_sipush (v := 512) dX7_lasts_4 (by decide) ?_
    refine ex_iload_n dX7_lasts_7 rfl ?_
    refine ex_ishr dX7_lasts_8 ?_
    refine ex_goto (tgt := 16) dX7_lasts_9 (by decide) ?_
    exact hJ6 _ (by rw [if_pos c_1])
theorem t79_X7_lasts (p1 : Int32) (p2 : Int32) (p3 : Int32) (M : Mem) (Q : Int32 → Mem → Prop) (h : w_X7_lasts  p1 p2 p3 M Q) : Ex true mX7_lasts 79 79 0 0 0 [.int p1, .int p2, .int p3, .null] [] M Q := by
  unfold w_X7_lasts at h
  refine ex_iload_n dX7_lasts_0 rfl ?_
  have hJ6 : ∀ z1 : Int32, z1 = (if p2 = 0 then (512 >>> (p1 &&& 31)) else (32 >>> (p1 &&& 31))) → Ex true mX7_lasts 79 79 0 0 16 [.int p1, .int p2, .int p3, .null] [.int z1] M Q := by
    intro z1 ez1
    replace h := h z1 ez1
    refine ex_istore_n (L2 := [.int p1, .int p2, .int p3, .int z1]) dX7_lasts_16 (by decide) rfl rfl ?_
    refine ex_iload_n dX7_lasts_17 rfl ?_
    refine ex_iload_n dX7_lasts_18 rfl ?_
    have hJ5 : ∀ z2 : Int32, z2 = (if p3 ≤ 0 then 0 else (z1 / 2)) → Ex true mX7_lasts 79 79 0 0 29 [.int p1, .int p2, .int p3, .int z1] [.int z2, .int z1] M Q := by
      intro z2 ez2
      replace h := h z2 ez2
      refine ex_iadd dX7_lasts_29 ?_
      refine ex_iload_n dX7_lasts_30 rfl ?_
      refine ex_iconst (v := 1) dX7_lasts_31 (by decide) ?_
      have hJ4 : ∀ z3 : Int32, z3 = (if p3 ≤ 1 then 0 else (z1 / 4)) → Ex true mX7_lasts 79 79 0 0 42 [.int p1, .int p2, .int p3, .int z1] [.int z3, .int (z1 + z2)] M Q := by
        intro z3 ez3
        replace h := h z3 ez3
        refine ex_iadd dX7_lasts_42 ?_
        exact ex_iret dX7_lasts_43 rfl rfl rfl h
      refine ex_icmp_le (tgt := 41) dX7_lasts_32 (by decide) (fun c_32 => ?_) (fun c_32 => ?_)
      ·
        refine ex_iconst (v := 0) dX7_lasts_41 (by decide) ?_
        exact hJ4 _ (by rw [if_pos c_32])
      ·
        refine ex_iload_n dX7_lasts_35 rfl ?_
        refine ex_iconst (v := 4) dX7_lasts_36 (by decide) ?_
        refine ex_idiv dX7_lasts_37 (by decide) ?_
        refine ex_goto (tgt := 42) dX7_lasts_38 (by decide) ?_
        exact hJ4 _ (by rw [if_neg c_32])
    refine ex_if_le (tgt := 28) dX7_lasts_19 (by decide) (fun c_19 => ?_) (fun c_19 => ?_)
    ·
      refine ex_iconst (v := 0) dX7_lasts_28 (by decide) ?_
      exact hJ5 _ (by rw [if_pos c_19])
    ·
      refine ex_iload_n dX7_lasts_22 rfl ?_
      refine ex_iconst (v := 2) dX7_lasts_23 (by decide) ?_
      refine ex_idiv dX7_lasts_24 (by decide) ?_
      refine ex_goto (tgt := 29) dX7_lasts_25 (by decide) ?_
      exact hJ5 _ (by rw [if_neg c_19])
  refine ex_if_ne (tgt := 12) dX7_lasts_1 (by decide) (fun c_1 => ?_) (fun c_1 => ?_)
  ·
    refine ex_bipush (v := 32) dX7_lasts_12 (by decide) ?_
    refine ex_iload_n dX7_lasts_14 rfl ?_
    refine ex_ishr dX7_lasts_15 ?_
    exact hJ6 _ (by rw [if_neg c_1])
  ·
    refine ex_sipush (v := 512) dX7_lasts_4 (by decide) ?_
    refine ex_iload_n dX7_lasts_7 rfl ?_
    refine ex_ishr dX7_lasts_8 ?_
    refine ex_goto (tgt := 16) dX7_lasts_9 (by decide) ?_
    exact hJ6 _ (by rw [if_pos c_1])
def w_X7_lastsOf (p1 : Int32) (M : Mem) (Q : Int32 → Mem → Prop) : Prop := (vp_in p1 1200) ∧ ((¬ ((M 63 (Int32.toNatClampNeg p1)) = 2) → ((vp_in p1 1200) ∧ ((vp_in p1 1200) ∧ ((vp_in p1 1200) ∧ (w_X7_lasts (M 62 (Int32.toNatClampNeg p1)) (M 63 (Int32.toNatClampNeg p1)) (M 64 (Int32.toNatClampNeg p1)) M (fun v5 M6 => Q v5 M6)))))) ∧ (((M 63 (Int32.toNatClampNeg p1)) = 2) → (Q (M 46 7) M)))
theorem t_X7_lastsOf (p1 : Int32) (M : Mem) (Q : Int32 → Mem → Prop) (h : w_X7_lastsOf  p1 M Q) : Ex true mX7_lastsOf 78 78 0 0 0 [.ref 46, .int p1] [] M Q := by
  unfold w_X7_lastsOf at h
  refine ex_aload_n dX7_lastsOf_0 rfl ?_
  refine ex_getR (ci := 7) (j := 18) (v := 63) dX7_lastsOf_1 (by decide) rfl rfl lk_X7_62 rfl (by decide) ?_
  refine ex_iload_n dX7_lastsOf_4 rfl ?_
  obtain ⟨b1, h⟩ := h
  refine ex_iald dX7_lastsOf_5 (by decide) rfl b1 ?_
  refine ex_iconst (v := 2) dX7_lastsOf_6 (by decide) ?_
  refine ex_icmp_ne (tgt := 17) dX7_lastsOf_7 (by decide) (fun c_7 => ?_) (fun c_7 => ?_)
  · replace h := h.1 c_7
    refine ex_aload_n dX7_lastsOf_17 rfl ?_
    refine ex_getR (ci := 7) (j := 17) (v := 62) dX7_lastsOf_18 (by decide) rfl rfl lk_X7_59 rfl (by decide) ?_
    refine ex_iload_n dX7_lastsOf_21 rfl ?_
    obtain ⟨b2, h⟩ := h
    refine ex_iald dX7_lastsOf_22 (by decide) rfl b2 ?_
    refine ex_aload_n dX7_lastsOf_23 rfl ?_
    refine ex_getR (ci := 7) (j := 18) (v := 63) dX7_lastsOf_24 (by decide) rfl rfl lk_X7_62 rfl (by decide) ?_
    refine ex_iload_n dX7_lastsOf_27 rfl ?_
    obtain ⟨b3, h⟩ := h
    refine ex_iald dX7_lastsOf_28 (by decide) rfl b3 ?_
    refine ex_aload_n dX7_lastsOf_29 rfl ?_
    refine ex_getR (ci := 7) (j := 19) (v := 64) dX7_lastsOf_30 (by decide) rfl rfl lk_X7_65 rfl (by decide) ?_
    refine ex_iload_n dX7_lastsOf_33 rfl ?_
    obtain ⟨b4, h⟩ := h
    refine ex_iald dX7_lastsOf_34 (by decide) rfl b4 ?_
    refine ex_invS (as := [.int (M 62 (Int32.toNatClampNeg p1)), .int (M 63 (Int32.toNatClampNeg p1)), .int (M 64 (Int32.toNatClampNeg p1))]) (L2 := [.int (M 62 (Int32.toNatClampNeg p1)), .int (M 63 (Int32.toNatClampNeg p1)), .int (M 64 (Int32.toNatClampNeg p1)), .null]) (st := []) 0 0 dX7_lastsOf_35 lk_X7_111 sl_X7_lasts (rmK_of rfl) rfl (Nat.le_of_ble_eq_true rfl) (Nat.le_of_ble_eq_true rfl) (t_X7_lasts   (M 62 (Int32.toNatClampNeg p1)) (M 63 (Int32.toNatClampNeg p1)) (M 64 (Int32.toNatClampNeg p1)) M _ h) (fun v5 M6 h => ?_)
    show Ex true mX7_lastsOf 78 78 0 0 38 [.ref 46, .int p1] [.int v5] M6 Q
    exact ex_iret dX7_lastsOf_38 rfl rfl rfl h
  · replace h := h.2 c_7
    refine ex_aload_n dX7_lastsOf_10 rfl ?_
    refine ex_getI (ci := 7) (j := 7) dX7_lastsOf_11 (by decide) rfl rfl lk_X7_28 ?_
    refine ex_goto (tgt := 38) dX7_lastsOf_14 (by decide) ?_
    exact ex_iret dX7_lastsOf_38 rfl rfl rfl h
theorem t79_X7_lastsOf (p1 : Int32) (M : Mem) (Q : Int32 → Mem → Prop) (h : w_X7_lastsOf  p1 M Q) : Ex true mX7_lastsOf 79 79 0 0 0 [.ref 46, .int p1] [] M Q := by
  unfold w_X7_lastsOf at h
  refine ex_aload_n dX7_lastsOf_0 rfl ?_
  refine ex_getR (ci := 7) (j := 18) (v := 63) dX7_lastsOf_1 (by decide) rfl rfl lk_X7_62 rfl (by decide) ?_
  refine ex_iload_n dX7_lastsOf_4 rfl ?_
  obtain ⟨b1, h⟩ := h
  refine ex_iald dX7_lastsOf_5 (by decide) rfl b1 ?_
  refine ex_iconst (v := 2) dX7_lastsOf_6 (by decide) ?_
  refine ex_icmp_ne (tgt := 17) dX7_lastsOf_7 (by decide) (fun c_7 => ?_) (fun c_7 => ?_)
  · replace h := h.1 c_7
    refine ex_aload_n dX7_lastsOf_17 rfl ?_
    refine ex_getR (ci := 7) (j := 17) (v := 62) dX7_lastsOf_18 (by decide) rfl rfl lk_X7_59 rfl (by decide) ?_
    refine ex_iload_n dX7_lastsOf_21 rfl ?_
    obtain ⟨b2, h⟩ := h
    refine ex_iald dX7_lastsOf_22 (by decide) rfl b2 ?_
    refine ex_aload_n dX7_lastsOf_23 rfl ?_
    refine ex_getR (ci := 7) (j := 18) (v := 63) dX7_lastsOf_24 (by decide) rfl rfl lk_X7_62 rfl (by decide) ?_
    refine ex_iload_n dX7_lastsOf_27 rfl ?_
    obtain ⟨b3, h⟩ := h
    refine ex_iald dX7_lastsOf_28 (by decide) rfl b3 ?_
    refine ex_aload_n dX7_lastsOf_29 rfl ?_
    refine ex_getR (ci := 7) (j := 19) (v := 64) dX7_lastsOf_30 (by decide) rfl rfl lk_X7_65 rfl (by decide) ?_
    refine ex_iload_n dX7_lastsOf_33 rfl ?_
    obtain ⟨b4, h⟩ := h
    refine ex_iald dX7_lastsOf_34 (by decide) rfl b4 ?_
    refine ex_invS (as := [.int (M 62 (Int32.toNatClampNeg p1)), .int (M 63 (Int32.toNatClampNeg p1)), .int (M 64 (Int32.toNatClampNeg p1))]) (L2 := [.int (M 62 (Int32.toNatClampNeg p1)), .int (M 63 (Int32.toNatClampNeg p1)), .int (M 64 (Int32.toNatClampNeg p1)), .null]) (st := []) 0 0 dX7_lastsOf_35 lk_X7_111 sl_X7_lasts (rmK_of rfl) rfl (Nat.le_of_ble_eq_true rfl) (Nat.le_of_ble_eq_true rfl) (t79_X7_lasts   (M 62 (Int32.toNatClampNeg p1)) (M 63 (Int32.toNatClampNeg p1)) (M 64 (Int32.toNatClampNeg p1)) M _ h) (fun v5 M6 h => ?_)
    show Ex true mX7_lastsOf 79 79 0 0 38 [.ref 46, .int p1] [.int v5] M6 Q
    exact ex_iret dX7_lastsOf_38 rfl rfl rfl h
  · replace h := h.2 c_7
    refine ex_aload_n dX7_lastsOf_10 rfl ?_
    refine ex_getI (ci := 7) (j := 7) dX7_lastsOf_11 (by decide) rfl rfl lk_X7_28 ?_
    refine ex_goto (tgt := 38) dX7_lastsOf_14 (by decide) ?_
    exact ex_iret dX7_lastsOf_38 rfl rfl rfl h
def wb_X7_voiceLasts_10 (Q : Int32 → Mem → Prop) (B10 : Int32 → Int32 → Int32 → Int32 → Int32 → Mem → Prop) (l1 : Int32) (l2 : Int32) (l3 : Int32) (l4 : Int32) (l5 : Int32) (M : Mem) : Prop := (vp_in l1 2) ∧ (((((l1 * 600) + (M 54 (Int32.toNatClampNeg l1))) ≤ l5) → (Q l4 M)) ∧ (¬ (((l1 * 600) + (M 54 (Int32.toNatClampNeg l1))) ≤ l5) → ((vp_in l5 1200) ∧ ((¬ ((M 58 (Int32.toNatClampNeg l5)) = l2) → (∀ x4 : Int32, x4 = (l4 + 0) → ∀ x5 : Int32, x5 = l5 + 1 → B10 l1 l2 l3 x4 x5 M)) ∧ (((M 58 (Int32.toNatClampNeg l5)) = l2) → ((vp_in l5 1200) ∧ ((¬ ((M 59 (Int32.toNatClampNeg l5)) = l3) → (∀ x7 : Int32, x7 = (l4 + 0) → ∀ x8 : Int32, x8 = l5 + 1 → B10 l1 l2 l3 x7 x8 M)) ∧ (((M 59 (Int32.toNatClampNeg l5)) = l3) → (w_X7_lastsOf l5 M (fun v9 M10 => ∀ x11 : Int32, x11 = (l4 + v9) → ∀ x12 : Int32, x12 = l5 + 1 → B10 l1 l2 l3 x11 x12 M10))))))))))
def w_X7_voiceLasts_10 (Q : Int32 → Mem → Prop) : Nat → Int32 → Int32 → Int32 → Int32 → Int32 → Mem → Prop
  | 0 => fun _ _ _ _ _ _ => False
  | k + 1 => wb_X7_voiceLasts_10  Q  (w_X7_voiceLasts_10  Q  k)
theorem t_X7_voiceLasts_10 (Q : Int32 → Mem → Prop) : ∀ (k : Nat) (l1 : Int32) (l2 : Int32) (l3 : Int32) (l4 : Int32) (l5 : Int32) (M : Mem), w_X7_voiceLasts_10  Q  k l1 l2 l3 l4 l5 M → Ex true mX7_voiceLasts 78 78 0 0 10 [.ref 46, .int l1, .int l2, .int l3, .int l4, .int l5] [] M Q := by
  intro k
  induction k with
  | zero => intro l1 l2 l3 l4 l5 M h; exact False.elim h
  | succ k hB10 =>
    intro l1 l2 l3 l4 l5 M h
    replace h : wb_X7_voiceLasts_10  Q  (w_X7_voiceLasts_10  Q  k) l1 l2 l3 l4 l5 M := h
    generalize w_X7_voiceLasts_10  Q  k = B10 at hB10 h
    unfold wb_X7_voiceLasts_10 at h
    refine ex_iload dX7_voiceLasts_10 rfl ?_
    refine ex_iload_n dX7_voiceLasts_12 rfl ?_
    refine ex_sipush (v := 600) dX7_voiceLasts_13 (by decide) ?_
    refine ex_imul dX7_voiceLasts_16 ?_
    refine ex_aload_n dX7_voiceLasts_17 rfl ?_
    refine ex_getR (ci := 7) (j := 9) (v := 54) dX7_voiceLasts_18 (by decide) rfl rfl lk_X7_35 rfl (by decide) ?_
    refine ex_iload_n dX7_voiceLasts_21 rfl ?_
    obtain ⟨b2, h⟩ := h
    refine ex_iald dX7_voiceLasts_22 (by decide) rfl b2 ?_
    refine ex_iadd dX7_voiceLasts_23 ?_
    refine ex_icmp_ge (tgt := 70) dX7_voiceLasts_24 (by decide) (fun c_24 => ?_) (fun c_24 => ?_)
    · replace h := h.1 c_24
      refine ex_iload dX7_voiceLasts_70 rfl ?_
      exact ex_iret dX7_voiceLasts_72 rfl rfl rfl h
    · replace h := h.2 c_24
      refine ex_iload dX7_voiceLasts_27 rfl ?_
      refine ex_aload_n dX7_voiceLasts_29 rfl ?_
      refine ex_getR (ci := 7) (j := 13) (v := 58) dX7_voiceLasts_30 (by decide) rfl rfl lk_X7_47 rfl (by decide) ?_
      refine ex_iload dX7_voiceLasts_33 rfl ?_
      obtain ⟨b3, h⟩ := h
      refine ex_iald dX7_voiceLasts_35 (by decide) rfl b3 ?_
      refine ex_iload_n dX7_voiceLasts_36 rfl ?_
      refine ex_icmp_ne (tgt := 60) dX7_voiceLasts_37 (by decide) (fun c_37 => ?_) (fun c_37 => ?_)
      · replace h := h.1 c_37
        refine ex_iconst (v := 0) dX7_voiceLasts_60 (by decide) ?_
        refine ex_iadd dX7_voiceLasts_61 ?_
        refine ex_top (fun x4 ex4 => ?_)
        replace h := h x4 ex4
        refine ex_istore (L2 := [.ref 46, .int l1, .int l2, .int l3, .int x4, .int l5]) dX7_voiceLasts_62 (by decide) rfl rfl ?_
        refine ex_iinc (v := l5 + 1) (L2 := [.ref 46, .int l1, .int l2, .int l3, .int x4, .int (l5 + 1)]) dX7_voiceLasts_64 rfl rfl (by decide) rfl rfl ?_
        obtain ⟨x5, ex5⟩ : ∃ x5 : Int32, x5 = l5 + 1 := ⟨_, rfl⟩
        rw [← ex5]
        replace h := h x5 ex5
        refine ex_goto (tgt := 10) dX7_voiceLasts_67 (by decide) ?_
        exact hB10 l1 l2 l3 x4 x5 M h
      · replace h := h.2 c_37
        refine ex_aload_n dX7_voiceLasts_40 rfl ?_
        refine ex_getR (ci := 7) (j := 14) (v := 59) dX7_voiceLasts_41 (by decide) rfl rfl lk_X7_50 rfl (by decide) ?_
        refine ex_iload dX7_voiceLasts_44 rfl ?_
        obtain ⟨b6, h⟩ := h
        refine ex_iald dX7_voiceLasts_46 (by decide) rfl b6 ?_
        refine ex_iload_n dX7_voiceLasts_47 rfl ?_
        refine ex_icmp_ne (tgt := 60) dX7_voiceLasts_48 (by decide) (fun c_48 => ?_) (fun c_48 => ?_)
        · replace h := h.1 c_48
          refine ex_iconst (v := 0) dX7_voiceLasts_60 (by decide) ?_
          refine ex_iadd dX7_voiceLasts_61 ?_
          refine ex_top (fun x7 ex7 => ?_)
          replace h := h x7 ex7
          refine ex_istore (L2 := [.ref 46, .int l1, .int l2, .int l3, .int x7, .int l5]) dX7_voiceLasts_62 (by decide) rfl rfl ?_
          refine ex_iinc (v := l5 + 1) (L2 := [.ref 46, .int l1, .int l2, .int l3, .int x7, .int (l5 + 1)]) dX7_voiceLasts_64 rfl rfl (by decide) rfl rfl ?_
          obtain ⟨x8, ex8⟩ : ∃ x8 : Int32, x8 = l5 + 1 := ⟨_, rfl⟩
          rw [← ex8]
          replace h := h x8 ex8
          refine ex_goto (tgt := 10) dX7_voiceLasts_67 (by decide) ?_
          exact hB10 l1 l2 l3 x7 x8 M h
        · replace h := h.2 c_48
          refine ex_aload_n dX7_voiceLasts_51 rfl ?_
          refine ex_iload dX7_voiceLasts_52 rfl ?_
          refine ex_invV (k := 46) (ci := 7) (as := [.int l5]) (L2 := [.ref 46, .int l5]) (st := [.int l4]) 0 0 dX7_voiceLasts_54 lk_X7_115 sl_X7_lastsOf (rmK_of rfl) (by decide) rfl ⟨by decide, rfl⟩ rfl (Nat.le_of_ble_eq_true rfl) (Nat.le_of_ble_eq_true rfl) (t_X7_lastsOf   l5 M _ h) (fun v9 M10 h => ?_)
          show Ex true mX7_voiceLasts 78 78 0 0 57 [.ref 46, .int l1, .int l2, .int l3, .int l4, .int l5] [.int v9, .int l4] M10 Q
          refine ex_goto (tgt := 61) dX7_voiceLasts_57 (by decide) ?_
          refine ex_iadd dX7_voiceLasts_61 ?_
          refine ex_top (fun x11 ex11 => ?_)
          replace h := h x11 ex11
          refine ex_istore (L2 := [.ref 46, .int l1, .int l2, .int l3, .int x11, .int l5]) dX7_voiceLasts_62 (by decide) rfl rfl ?_
          refine ex_iinc (v := l5 + 1) (L2 := [.ref 46, .int l1, .int l2, .int l3, .int x11, .int (l5 + 1)]) dX7_voiceLasts_64 rfl rfl (by decide) rfl rfl ?_
          obtain ⟨x12, ex12⟩ : ∃ x12 : Int32, x12 = l5 + 1 := ⟨_, rfl⟩
          rw [← ex12]
          replace h := h x12 ex12
          refine ex_goto (tgt := 10) dX7_voiceLasts_67 (by decide) ?_
          exact hB10 l1 l2 l3 x11 x12 M10 h
def w_X7_voiceLasts (p1 : Int32) (p2 : Int32) (p3 : Int32) (M : Mem) (Q : Int32 → Mem → Prop) : Prop := ∀ x1 : Int32, x1 = (p1 * 600) → ∃ k, w_X7_voiceLasts_10  Q  k p1 p2 p3 0 x1 M
theorem t_X7_voiceLasts (p1 : Int32) (p2 : Int32) (p3 : Int32) (M : Mem) (Q : Int32 → Mem → Prop) (h : w_X7_voiceLasts  p1 p2 p3 M Q) : Ex true mX7_voiceLasts 78 78 0 0 0 [.ref 46, .int p1, .int p2, .int p3, .null, .null] [] M Q := by
  unfold w_X7_voiceLasts at h
  refine ex_iconst (v := 0) dX7_voiceLasts_0 (by decide) ?_
  refine ex_istore (L2 := [.ref 46, .int p1, .int p2, .int p3, .int 0, .null]) dX7_voiceLasts_1 (by decide) rfl rfl ?_
  refine ex_iload_n dX7_voiceLasts_3 rfl ?_
  refine ex_sipush (v := 600) dX7_voiceLasts_4 (by decide) ?_
  refine ex_imul dX7_voiceLasts_7 ?_
  refine ex_top (fun x1 ex1 => ?_)
  replace h := h x1 ex1
  refine ex_istore (L2 := [.ref 46, .int p1, .int p2, .int p3, .int 0, .int x1]) dX7_voiceLasts_8 (by decide) rfl rfl ?_
  obtain ⟨k_, h⟩ := h
  exact t_X7_voiceLasts_10   Q   k_ p1 p2 p3 0 x1 M h
def wb_X7_voiceSize_10 (Q : Int32 → Mem → Prop) (B10 : Int32 → Int32 → Int32 → Int32 → Int32 → Mem → Prop) (l1 : Int32) (l2 : Int32) (l3 : Int32) (l4 : Int32) (l5 : Int32) (M : Mem) : Prop := (vp_in l1 2) ∧ (((((l1 * 600) + (M 54 (Int32.toNatClampNeg l1))) ≤ l5) → (Q l4 M)) ∧ (¬ (((l1 * 600) + (M 54 (Int32.toNatClampNeg l1))) ≤ l5) → ((vp_in l5 1200) ∧ (((¬ ((M 58 (Int32.toNatClampNeg l5)) = l2) → (True)) ∧ (((M 58 (Int32.toNatClampNeg l5)) = l2) → ((vp_in l5 1200) ∧ ((¬ ((M 59 (Int32.toNatClampNeg l5)) = l3) → (True)) ∧ (((M 59 (Int32.toNatClampNeg l5)) = l3) → (True)))))) ∧ (∀ z5 : Int32, z5 = (if (M 58 (Int32.toNatClampNeg l5)) = l2 then (if (M 59 (Int32.toNatClampNeg l5)) = l3 then 1 else 0) else 0) → ∀ x6 : Int32, x6 = (l4 + z5) → ∀ x7 : Int32, x7 = l5 + 1 → B10 l1 l2 l3 x6 x7 M)))))
def w_X7_voiceSize_10 (Q : Int32 → Mem → Prop) : Nat → Int32 → Int32 → Int32 → Int32 → Int32 → Mem → Prop
  | 0 => fun _ _ _ _ _ _ => False
  | k + 1 => wb_X7_voiceSize_10  Q  (w_X7_voiceSize_10  Q  k)
theorem t_X7_voiceSize_10 (Q : Int32 → Mem → Prop) : ∀ (k : Nat) (l1 : Int32) (l2 : Int32) (l3 : Int32) (l4 : Int32) (l5 : Int32) (M : Mem), w_X7_voiceSize_10  Q  k l1 l2 l3 l4 l5 M → Ex true mX7_voiceSize 78 78 0 0 10 [.ref 46, .int l1, .int l2, .int l3, .int l4, .int l5] [] M Q := by
  intro k
  induction k with
  | zero => intro l1 l2 l3 l4 l5 M h; exact False.elim h
  | succ k hB10 =>
    intro l1 l2 l3 l4 l5 M h
    replace h : wb_X7_voiceSize_10  Q  (w_X7_voiceSize_10  Q  k) l1 l2 l3 l4 l5 M := h
    generalize w_X7_voiceSize_10  Q  k = B10 at hB10 h
    unfold wb_X7_voiceSize_10 at h
    refine ex_iload dX7_voiceSize_10 rfl ?_
    refine ex_iload_n dX7_voiceSize_12 rfl ?_
    refine ex_sipush (v := 600) dX7_voiceSize_13 (by decide) ?_
    refine ex_imul dX7_voiceSize_16 ?_
    refine ex_aload_n dX7_voiceSize_17 rfl ?_
    refine ex_getR (ci := 7) (j := 9) (v := 54) dX7_voiceSize_18 (by decide) rfl rfl lk_X7_35 rfl (by decide) ?_
    refine ex_iload_n dX7_voiceSize_21 rfl ?_
    obtain ⟨b2, h⟩ := h
    refine ex_iald dX7_voiceSize_22 (by decide) rfl b2 ?_
    refine ex_iadd dX7_voiceSize_23 ?_
    refine ex_icmp_ge (tgt := 65) dX7_voiceSize_24 (by decide) (fun c_24 => ?_) (fun c_24 => ?_)
    · replace h := h.1 c_24
      refine ex_iload dX7_voiceSize_65 rfl ?_
      exact ex_iret dX7_voiceSize_67 rfl rfl rfl h
    · replace h := h.2 c_24
      refine ex_iload dX7_voiceSize_27 rfl ?_
      refine ex_aload_n dX7_voiceSize_29 rfl ?_
      refine ex_getR (ci := 7) (j := 13) (v := 58) dX7_voiceSize_30 (by decide) rfl rfl lk_X7_47 rfl (by decide) ?_
      refine ex_iload dX7_voiceSize_33 rfl ?_
      obtain ⟨b3, h⟩ := h
      refine ex_iald dX7_voiceSize_35 (by decide) rfl b3 ?_
      refine ex_iload_n dX7_voiceSize_36 rfl ?_
      obtain ⟨khJ8, h⟩ := h
      have hJ8 : ∀ z5 : Int32, z5 = (if (M 58 (Int32.toNatClampNeg l5)) = l2 then (if (M 59 (Int32.toNatClampNeg l5)) = l3 then 1 else 0) else 0) → Ex true mX7_voiceSize 78 78 0 0 56 [.ref 46, .int l1, .int l2, .int l3, .int l4, .int l5] [.int z5, .int l4] M Q := by
        intro z5 ez5
        replace h := h z5 ez5
        refine ex_iadd dX7_voiceSize_56 ?_
        refine ex_top (fun x6 ex6 => ?_)
        replace h := h x6 ex6
        refine ex_istore (L2 := [.ref 46, .int l1, .int l2, .int l3, .int x6, .int l5]) dX7_voiceSize_57 (by decide) rfl rfl ?_
        refine ex_iinc (v := l5 + 1) (L2 := [.ref 46, .int l1, .int l2, .int l3, .int x6, .int (l5 + 1)]) dX7_voiceSize_59 rfl rfl (by decide) rfl rfl ?_
        obtain ⟨x7, ex7⟩ : ∃ x7 : Int32, x7 = l5 + 1 := ⟨_, rfl⟩
        rw [← ex7]
        replace h := h x7 ex7
        refine ex_goto (tgt := 10) dX7_voiceSize_62 (by decide) ?_
        exact hB10 l1 l2 l3 x6 x7 M h
      refine ex_icmp_ne (tgt := 55) dX7_voiceSize_37 (by decide) (fun c_37 => ?_) (fun c_37 => ?_)
      · replace h := khJ8.1 c_37
        refine ex_iconst (v := 0) dX7_voiceSize_55 (by decide) ?_
        exact hJ8 _ (by rw [if_neg c_37])
      · replace h := khJ8.2 c_37
        refine ex_aload_n dX7_voiceSize_40 rfl ?_
        refine ex_getR (ci := 7) (j := 14) (v := 59) dX7_voiceSize_41 (by decide) rfl rfl lk_X7_50 rfl (by decide) ?_
        refine ex_iload dX7_voiceSize_44 rfl ?_
        obtain ⟨b4, h⟩ := h
        refine ex_iald dX7_voiceSize_46 (by decide) rfl b4 ?_
        refine ex_iload_n dX7_voiceSize_47 rfl ?_
        refine ex_icmp_ne (tgt := 55) dX7_voiceSize_48 (by decide) (fun c_48 => ?_) (fun c_48 => ?_)
        · replace h := h.1 c_48
          refine ex_iconst (v := 0) dX7_voiceSize_55 (by decide) ?_
          exact hJ8 _ (by rw [if_pos c_37, if_neg c_48])
        · replace h := h.2 c_48
          refine ex_iconst (v := 1) dX7_voiceSize_51 (by decide) ?_
          refine ex_goto (tgt := 56) dX7_voiceSize_52 (by decide) ?_
          exact hJ8 _ (by rw [if_pos c_37, if_pos c_48])
def w_X7_voiceSize (p1 : Int32) (p2 : Int32) (p3 : Int32) (M : Mem) (Q : Int32 → Mem → Prop) : Prop := ∀ x1 : Int32, x1 = (p1 * 600) → ∃ k, w_X7_voiceSize_10  Q  k p1 p2 p3 0 x1 M
theorem t_X7_voiceSize (p1 : Int32) (p2 : Int32) (p3 : Int32) (M : Mem) (Q : Int32 → Mem → Prop) (h : w_X7_voiceSize  p1 p2 p3 M Q) : Ex true mX7_voiceSize 78 78 0 0 0 [.ref 46, .int p1, .int p2, .int p3, .null, .null] [] M Q := by
  unfold w_X7_voiceSize at h
  refine ex_iconst (v := 0) dX7_voiceSize_0 (by decide) ?_
  refine ex_istore (L2 := [.ref 46, .int p1, .int p2, .int p3, .int 0, .null]) dX7_voiceSize_1 (by decide) rfl rfl ?_
  refine ex_iload_n dX7_voiceSize_3 rfl ?_
  refine ex_sipush (v := 600) dX7_voiceSize_4 (by decide) ?_
  refine ex_imul dX7_voiceSize_7 ?_
  refine ex_top (fun x1 ex1 => ?_)
  replace h := h x1 ex1
  refine ex_istore (L2 := [.ref 46, .int p1, .int p2, .int p3, .int 0, .int x1]) dX7_voiceSize_8 (by decide) rfl rfl ?_
  obtain ⟨k_, h⟩ := h
  exact t_X7_voiceSize_10   Q   k_ p1 p2 p3 0 x1 M h
def wb_X7_voiceFirst_19 (Q : Int32 → Mem → Prop) (B19 : Int32 → Int32 → Int32 → Int32 → Int32 → Mem → Prop) (l1 : Int32) (l2 : Int32) (l3 : Int32) (l4 : Int32) (l5 : Int32) (M : Mem) : Prop := ((l5 < (l1 * 600)) → (Q l4 M)) ∧ (¬ (l5 < (l1 * 600)) → ((vp_in l5 1200) ∧ (((¬ ((M 58 (Int32.toNatClampNeg l5)) = l2) → (True)) ∧ (((M 58 (Int32.toNatClampNeg l5)) = l2) → ((vp_in l5 1200) ∧ ((¬ ((M 59 (Int32.toNatClampNeg l5)) = l3) → (True)) ∧ (((M 59 (Int32.toNatClampNeg l5)) = l3) → (True)))))) ∧ (∀ z5 : Int32, z5 = (if (M 58 (Int32.toNatClampNeg l5)) = l2 then (if (M 59 (Int32.toNatClampNeg l5)) = l3 then l5 else l4) else l4) → ∀ x6 : Int32, x6 = l5 + (-1) → B19 l1 l2 l3 z5 x6 M))))
def w_X7_voiceFirst_19 (Q : Int32 → Mem → Prop) : Nat → Int32 → Int32 → Int32 → Int32 → Int32 → Mem → Prop
  | 0 => fun _ _ _ _ _ _ => False
  | k + 1 => wb_X7_voiceFirst_19  Q  (w_X7_voiceFirst_19  Q  k)
theorem t_X7_voiceFirst_19 (Q : Int32 → Mem → Prop) : ∀ (k : Nat) (l1 : Int32) (l2 : Int32) (l3 : Int32) (l4 : Int32) (l5 : Int32) (M : Mem), w_X7_voiceFirst_19  Q  k l1 l2 l3 l4 l5 M → Ex true mX7_voiceFirst 78 78 0 0 19 [.ref 46, .int l1, .int l2, .int l3, .int l4, .int l5] [] M Q := by
  intro k
  induction k with
  | zero => intro l1 l2 l3 l4 l5 M h; exact False.elim h
  | succ k hB19 =>
    intro l1 l2 l3 l4 l5 M h
    replace h : wb_X7_voiceFirst_19  Q  (w_X7_voiceFirst_19  Q  k) l1 l2 l3 l4 l5 M := h
    generalize w_X7_voiceFirst_19  Q  k = B19 at hB19 h
    unfold wb_X7_voiceFirst_19 at h
    refine ex_iload dX7_voiceFirst_19 rfl ?_
    refine ex_iload_n dX7_voiceFirst_21 rfl ?_
    refine ex_sipush (v := 600) dX7_voiceFirst_22 (by decide) ?_
    refine ex_imul dX7_voiceFirst_25 ?_
    refine ex_icmp_lt (tgt := 66) dX7_voiceFirst_26 (by decide) (fun c_26 => ?_) (fun c_26 => ?_)
    · replace h := h.1 c_26
      refine ex_iload dX7_voiceFirst_66 rfl ?_
      exact ex_iret dX7_voiceFirst_68 rfl rfl rfl h
    · replace h := h.2 c_26
      refine ex_aload_n dX7_voiceFirst_29 rfl ?_
      refine ex_getR (ci := 7) (j := 13) (v := 58) dX7_voiceFirst_30 (by decide) rfl rfl lk_X7_47 rfl (by decide) ?_
      refine ex_iload dX7_voiceFirst_33 rfl ?_
      obtain ⟨b3, h⟩ := h
      refine ex_iald dX7_voiceFirst_35 (by decide) rfl b3 ?_
      refine ex_iload_n dX7_voiceFirst_36 rfl ?_
      obtain ⟨khJ7, h⟩ := h
      have hJ7 : ∀ z5 : Int32, z5 = (if (M 58 (Int32.toNatClampNeg l5)) = l2 then (if (M 59 (Int32.toNatClampNeg l5)) = l3 then l5 else l4) else l4) → Ex true mX7_voiceFirst 78 78 0 0 58 [.ref 46, .int l1, .int l2, .int l3, .int l4, .int l5] [.int z5] M Q := by
        intro z5 ez5
        replace h := h z5 ez5
        refine ex_istore (L2 := [.ref 46, .int l1, .int l2, .int l3, .int z5, .int l5]) dX7_voiceFirst_58 (by decide) rfl rfl ?_
        refine ex_iinc (v := l5 + (-1)) (L2 := [.ref 46, .int l1, .int l2, .int l3, .int z5, .int (l5 + (-1))]) dX7_voiceFirst_60 rfl rfl (by decide) rfl rfl ?_
        obtain ⟨x6, ex6⟩ : ∃ x6 : Int32, x6 = l5 + (-1) := ⟨_, rfl⟩
        rw [← ex6]
        replace h := h x6 ex6
        refine ex_goto (tgt := 19) dX7_voiceFirst_63 (by decide) ?_
        exact hB19 l1 l2 l3 z5 x6 M h
      refine ex_icmp_ne (tgt := 56) dX7_voiceFirst_37 (by decide) (fun c_37 => ?_) (fun c_37 => ?_)
      · replace h := khJ7.1 c_37
        refine ex_iload dX7_voiceFirst_56 rfl ?_
        exact hJ7 _ (by rw [if_neg c_37])
      · replace h := khJ7.2 c_37
        refine ex_aload_n dX7_voiceFirst_40 rfl ?_
        refine ex_getR (ci := 7) (j := 14) (v := 59) dX7_voiceFirst_41 (by decide) rfl rfl lk_X7_50 rfl (by decide) ?_
        refine ex_iload dX7_voiceFirst_44 rfl ?_
        obtain ⟨b4, h⟩ := h
        refine ex_iald dX7_voiceFirst_46 (by decide) rfl b4 ?_
        refine ex_iload_n dX7_voiceFirst_47 rfl ?_
        refine ex_icmp_ne (tgt := 56) dX7_voiceFirst_48 (by decide) (fun c_48 => ?_) (fun c_48 => ?_)
        · replace h := h.1 c_48
          refine ex_iload dX7_voiceFirst_56 rfl ?_
          exact hJ7 _ (by rw [if_pos c_37, if_neg c_48])
        · replace h := h.2 c_48
          refine ex_iload dX7_voiceFirst_51 rfl ?_
          refine ex_goto (tgt := 58) dX7_voiceFirst_53 (by decide) ?_
          exact hJ7 _ (by rw [if_pos c_37, if_pos c_48])
def w_X7_voiceFirst (p1 : Int32) (p2 : Int32) (p3 : Int32) (M : Mem) (Q : Int32 → Mem → Prop) : Prop := (vp_in p1 2) ∧ (∀ x2 : Int32, x2 = (((p1 * 600) + (M 54 (Int32.toNatClampNeg p1))) - 1) → ∃ k, w_X7_voiceFirst_19  Q  k p1 p2 p3 (-1) x2 M)
theorem t_X7_voiceFirst (p1 : Int32) (p2 : Int32) (p3 : Int32) (M : Mem) (Q : Int32 → Mem → Prop) (h : w_X7_voiceFirst  p1 p2 p3 M Q) : Ex true mX7_voiceFirst 78 78 0 0 0 [.ref 46, .int p1, .int p2, .int p3, .null, .null] [] M Q := by
  unfold w_X7_voiceFirst at h
  refine ex_iconst (v := (-1)) dX7_voiceFirst_0 (by decide) ?_
  refine ex_istore (L2 := [.ref 46, .int p1, .int p2, .int p3, .int (-1), .null]) dX7_voiceFirst_1 (by decide) rfl rfl ?_
  refine ex_iload_n dX7_voiceFirst_3 rfl ?_
  refine ex_sipush (v := 600) dX7_voiceFirst_4 (by decide) ?_
  refine ex_imul dX7_voiceFirst_7 ?_
  refine ex_aload_n dX7_voiceFirst_8 rfl ?_
  refine ex_getR (ci := 7) (j := 9) (v := 54) dX7_voiceFirst_9 (by decide) rfl rfl lk_X7_35 rfl (by decide) ?_
  refine ex_iload_n dX7_voiceFirst_12 rfl ?_
  obtain ⟨b1, h⟩ := h
  refine ex_iald dX7_voiceFirst_13 (by decide) rfl b1 ?_
  refine ex_iadd dX7_voiceFirst_14 ?_
  refine ex_iconst (v := 1) dX7_voiceFirst_15 (by decide) ?_
  refine ex_isub dX7_voiceFirst_16 ?_
  refine ex_top (fun x2 ex2 => ?_)
  replace h := h x2 ex2
  refine ex_istore (L2 := [.ref 46, .int p1, .int p2, .int p3, .int (-1), .int x2]) dX7_voiceFirst_17 (by decide) rfl rfl ?_
  obtain ⟨k_, h⟩ := h
  exact t_X7_voiceFirst_19   Q   k_ p1 p2 p3 (-1) x2 M h
def w_X7_canBe_314 (Q : Int32 → Mem → Prop) (B233 : Int32 → Int32 → Int32 → Int32 → Int32 → Mem → Prop) (l1 : Int32) (l2 : Int32) (l3 : Int32) (l4 : Int32) (l5 : Int32) (l6 : Int32) (l7 : Int32) (M : Mem) : Prop := ∀ z9 : Int32, z9 = (if l7 < l6 then 1 else 0) → (vp_in l5 40) ∧ (∀ M11 : Mem, M11 = (mset M 71 (Int32.toNatClampNeg l5) z9) → (vp_in (l1 + l5) 1200) ∧ ((vp_in (l1 + l5) 1200) ∧ (w_X7_lasts (M11 62 (Int32.toNatClampNeg (l1 + l5))) z9 (M11 64 (Int32.toNatClampNeg (l1 + l5))) M11 (fun v14 M15 => ∀ x16 : Int32, x16 = (l3 - v14) → ∀ x17 : Int32, x17 = l5 + 1 → B233 l1 l2 x16 z9 x17 M15))))
theorem t_X7_canBe_314 (Q : Int32 → Mem → Prop) (B233 : Int32 → Int32 → Int32 → Int32 → Int32 → Mem → Prop) (hB233 : ∀ (l1 : Int32) (l2 : Int32) (l3 : Int32) (l4 : Int32) (l5 : Int32) (M : Mem), B233 l1 l2 l3 l4 l5 M → Ex true mX7_canBe 78 78 0 0 233 [.ref 46, .int l1, .int l2, .int l3, .int l4, .int l5, .null, .null, .null, .null] [] M Q) (l1 : Int32) (l2 : Int32) (l3 : Int32) (l4 : Int32) (l5 : Int32) (l6 : Int32) (l7 : Int32) (M : Mem) (h : w_X7_canBe_314  Q B233 l1 l2 l3 l4 l5 l6 l7 M) : Ex true mX7_canBe 78 78 0 0 314 [.ref 46, .int l1, .int l2, .int l3, .int l4, .int l5, .int l6, .int l7, .null, .null] [] M Q := by
  unfold w_X7_canBe_314 at h
  refine ex_iload dX7_canBe_314 rfl ?_
  refine ex_iload dX7_canBe_316 rfl ?_
  have hJ18 : ∀ z9 : Int32, z9 = (if l7 < l6 then 1 else 0) → Ex true mX7_canBe 78 78 0 0 326 [.ref 46, .int l1, .int l2, .int l3, .int l4, .int l5, .int l6, .int l7, .null, .null] [.int z9] M Q := by
    intro z9 ez9
    replace h := h z9 ez9
    refine ex_istore (L2 := [.ref 46, .int l1, .int l2, .int l3, .int z9, .int l5, .int l6, .int l7, .null, .null]) dX7_canBe_326 (by decide) rfl rfl ?_
    refine ex_aload_n dX7_canBe_328 rfl ?_
    refine ex_getR (ci := 7) (j := 31) (v := 71) dX7_canBe_329 (by decide) rfl rfl lk_X7_87 rfl (by decide) ?_
    refine ex_iload dX7_canBe_332 rfl ?_
    refine ex_iload dX7_canBe_334 rfl ?_
    obtain ⟨b10, h⟩ := h
    refine ex_iast dX7_canBe_336 (by decide) rfl b10 ?_
    refine ex_nmM (fun M11 eM11 => ?_)
    replace h := h M11 eM11
    refine ex_iload_n dX7_canBe_337 rfl ?_
    refine ex_aload_n dX7_canBe_338 rfl ?_
    refine ex_getR (ci := 7) (j := 17) (v := 62) dX7_canBe_339 (by decide) rfl rfl lk_X7_59 rfl (by decide) ?_
    refine ex_iload_n dX7_canBe_342 rfl ?_
    refine ex_iload dX7_canBe_343 rfl ?_
    refine ex_iadd dX7_canBe_345 ?_
    obtain ⟨b12, h⟩ := h
    refine ex_iald dX7_canBe_346 (by decide) rfl b12 ?_
    refine ex_iload dX7_canBe_347 rfl ?_
    refine ex_aload_n dX7_canBe_349 rfl ?_
    refine ex_getR (ci := 7) (j := 19) (v := 64) dX7_canBe_350 (by decide) rfl rfl lk_X7_65 rfl (by decide) ?_
    refine ex_iload_n dX7_canBe_353 rfl ?_
    refine ex_iload dX7_canBe_354 rfl ?_
    refine ex_iadd dX7_canBe_356 ?_
    obtain ⟨b13, h⟩ := h
    refine ex_iald dX7_canBe_357 (by decide) rfl b13 ?_
    refine ex_invS (as := [.int (M11 62 (Int32.toNatClampNeg (l1 + l5))), .int z9, .int (M11 64 (Int32.toNatClampNeg (l1 + l5)))]) (L2 := [.int (M11 62 (Int32.toNatClampNeg (l1 + l5))), .int z9, .int (M11 64 (Int32.toNatClampNeg (l1 + l5))), .null]) (st := [.int l3]) 0 0 dX7_canBe_358 lk_X7_111 sl_X7_lasts (rmK_of rfl) rfl (Nat.le_of_ble_eq_true rfl) (Nat.le_of_ble_eq_true rfl) (t_X7_lasts   (M11 62 (Int32.toNatClampNeg (l1 + l5))) z9 (M11 64 (Int32.toNatClampNeg (l1 + l5))) M11 _ h) (fun v14 M15 h => ?_)
    show Ex true mX7_canBe 78 78 0 0 361 [.ref 46, .int l1, .int l2, .int l3, .int z9, .int l5, .int l6, .int l7, .null, .null] [.int v14, .int l3] M15 Q
    refine ex_isub dX7_canBe_361 ?_
    refine ex_top (fun x16 ex16 => ?_)
    replace h := h x16 ex16
    refine ex_istore_n (L2 := [.ref 46, .int l1, .int l2, .int x16, .int z9, .int l5, .int l6, .int l7, .null, .null]) dX7_canBe_362 (by decide) rfl rfl ?_
    refine ex_iinc (v := l5 + 1) (L2 := [.ref 46, .int l1, .int l2, .int x16, .int z9, .int (l5 + 1), .int l6, .int l7, .null, .null]) dX7_canBe_363 rfl rfl (by decide) rfl rfl ?_
    obtain ⟨x17, ex17⟩ : ∃ x17 : Int32, x17 = l5 + 1 := ⟨_, rfl⟩
    rw [← ex17]
    replace h := h x17 ex17
    refine ex_goto (tgt := 233) dX7_canBe_366 (by decide) ?_
    refine ex_less (L2 := [.ref 46, .int l1, .int l2, .int x16, .int z9, .int x17, .null, .null, .null, .null]) ?_ (by intro i v hi hn; match i, hi with | 0, hi => exact hi | 1, hi => exact hi | 2, hi => exact hi | 3, hi => exact hi | 4, hi => exact hi | 5, hi => exact hi | 6, hi => (cases hi; cases hn) | 7, hi => (cases hi; cases hn) | 8, hi => exact hi | 9, hi => exact hi | k + 10, hi => (exact absurd hi (by simp)))
    exact hB233 l1 l2 x16 z9 x17 M15 h
  refine ex_icmp_gt (tgt := 325) dX7_canBe_318 (by decide) (fun c_318 => ?_) (fun c_318 => ?_)
  ·
    refine ex_iconst (v := 1) dX7_canBe_325 (by decide) ?_
    exact hJ18 _ (by rw [if_pos c_318])
  ·
    refine ex_iconst (v := 0) dX7_canBe_321 (by decide) ?_
    refine ex_goto (tgt := 326) dX7_canBe_322 (by decide) ?_
    exact hJ18 _ (by rw [if_neg c_318])
def wb_X7_canBe_233 (Q : Int32 → Mem → Prop) (B233 : Int32 → Int32 → Int32 → Int32 → Int32 → Mem → Prop) (l1 : Int32) (l2 : Int32) (l3 : Int32) (l4 : Int32) (l5 : Int32) (M : Mem) : Prop := ((l2 ≤ l5) → (Q 1 M)) ∧ (¬ (l2 ≤ l5) → ((vp_in (((2 * l5) * 2049) + l3) 163920) ∧ (∀ z4 : Int32, z4 = (if l4 = 1 then 1 else 0) → ∀ x5 : Int32, x5 = ((M 69 (Int32.toNatClampNeg (((2 * l5) * 2049) + l3))) + z4) → (vp_in ((((2 * l5) + 1) * 2049) + l3) 163920) ∧ (∀ z7 : Int32, z7 = (if l4 = 0 then 1 else 0) → ∀ x8 : Int32, x8 = ((M 69 (Int32.toNatClampNeg ((((2 * l5) + 1) * 2049) + l3))) + z7) → ((x5 < 1000000) → (w_X7_canBe_314  Q B233 l1 l2 l3 l4 l5 x5 x8 M)) ∧ (¬ (x5 < 1000000) → (((x8 < 1000000) → (w_X7_canBe_314  Q B233 l1 l2 l3 l4 l5 x5 x8 M)) ∧ (¬ (x8 < 1000000) → (Q 0 M))))))))
def w_X7_canBe_233 (Q : Int32 → Mem → Prop) : Nat → Int32 → Int32 → Int32 → Int32 → Int32 → Mem → Prop
  | 0 => fun _ _ _ _ _ _ => False
  | k + 1 => wb_X7_canBe_233  Q  (w_X7_canBe_233  Q  k)
theorem t_X7_canBe_233 (Q : Int32 → Mem → Prop) : ∀ (k : Nat) (l1 : Int32) (l2 : Int32) (l3 : Int32) (l4 : Int32) (l5 : Int32) (M : Mem), w_X7_canBe_233  Q  k l1 l2 l3 l4 l5 M → Ex true mX7_canBe 78 78 0 0 233 [.ref 46, .int l1, .int l2, .int l3, .int l4, .int l5, .null, .null, .null, .null] [] M Q := by
  intro k
  induction k with
  | zero => intro l1 l2 l3 l4 l5 M h; exact False.elim h
  | succ k hB233 =>
    intro l1 l2 l3 l4 l5 M h
    replace h : wb_X7_canBe_233  Q  (w_X7_canBe_233  Q  k) l1 l2 l3 l4 l5 M := h
    generalize w_X7_canBe_233  Q  k = B233 at hB233 h
    unfold wb_X7_canBe_233 at h
    refine ex_iload dX7_canBe_233 rfl ?_
    refine ex_iload_n dX7_canBe_235 rfl ?_
    refine ex_icmp_ge (tgt := 369) dX7_canBe_236 (by decide) (fun c_236 => ?_) (fun c_236 => ?_)
    · replace h := h.1 c_236
      refine ex_iconst (v := 1) dX7_canBe_369 (by decide) ?_
      exact ex_iret dX7_canBe_370 rfl rfl rfl h
    · replace h := h.2 c_236
      refine ex_aload_n dX7_canBe_239 rfl ?_
      refine ex_getR (ci := 7) (j := 29) (v := 69) dX7_canBe_240 (by decide) rfl rfl lk_X7_81 rfl (by decide) ?_
      refine ex_iconst (v := 2) dX7_canBe_243 (by decide) ?_
      refine ex_iload dX7_canBe_244 rfl ?_
      refine ex_imul dX7_canBe_246 ?_
      refine ex_sipush (v := 2049) dX7_canBe_247 (by decide) ?_
      refine ex_imul dX7_canBe_250 ?_
      refine ex_iload_n dX7_canBe_251 rfl ?_
      refine ex_iadd dX7_canBe_252 ?_
      obtain ⟨b3, h⟩ := h
      refine ex_iald dX7_canBe_253 (by decide) rfl b3 ?_
      refine ex_iload dX7_canBe_254 rfl ?_
      refine ex_iconst (v := 1) dX7_canBe_256 (by decide) ?_
      have hJ20 : ∀ z4 : Int32, z4 = (if l4 = 1 then 1 else 0) → Ex true mX7_canBe 78 78 0 0 265 [.ref 46, .int l1, .int l2, .int l3, .int l4, .int l5, .null, .null, .null, .null] [.int z4, .int (M 69 (Int32.toNatClampNeg (((2 * l5) * 2049) + l3)))] M Q := by
        intro z4 ez4
        replace h := h z4 ez4
        refine ex_iadd dX7_canBe_265 ?_
        refine ex_top (fun x5 ex5 => ?_)
        replace h := h x5 ex5
        refine ex_istore (L2 := [.ref 46, .int l1, .int l2, .int l3, .int l4, .int l5, .int x5, .null, .null, .null]) dX7_canBe_266 (by decide) rfl rfl ?_
        refine ex_aload_n dX7_canBe_268 rfl ?_
        refine ex_getR (ci := 7) (j := 29) (v := 69) dX7_canBe_269 (by decide) rfl rfl lk_X7_81 rfl (by decide) ?_
        refine ex_iconst (v := 2) dX7_canBe_272 (by decide) ?_
        refine ex_iload dX7_canBe_273 rfl ?_
        refine ex_imul dX7_canBe_275 ?_
        refine ex_iconst (v := 1) dX7_canBe_276 (by decide) ?_
        refine ex_iadd dX7_canBe_277 ?_
        refine ex_sipush (v := 2049) dX7_canBe_278 (by decide) ?_
        refine ex_imul dX7_canBe_281 ?_
        refine ex_iload_n dX7_canBe_282 rfl ?_
        refine ex_iadd dX7_canBe_283 ?_
        obtain ⟨b6, h⟩ := h
        refine ex_iald dX7_canBe_284 (by decide) rfl b6 ?_
        refine ex_iload dX7_canBe_285 rfl ?_
        have hJ19 : ∀ z7 : Int32, z7 = (if l4 = 0 then 1 else 0) → Ex true mX7_canBe 78 78 0 0 295 [.ref 46, .int l1, .int l2, .int l3, .int l4, .int l5, .int x5, .null, .null, .null] [.int z7, .int (M 69 (Int32.toNatClampNeg ((((2 * l5) + 1) * 2049) + l3)))] M Q := by
          intro z7 ez7
          replace h := h z7 ez7
          refine ex_iadd dX7_canBe_295 ?_
          refine ex_top (fun x8 ex8 => ?_)
          replace h := h x8 ex8
          refine ex_istore (L2 := [.ref 46, .int l1, .int l2, .int l3, .int l4, .int l5, .int x5, .int x8, .null, .null]) dX7_canBe_296 (by decide) rfl rfl ?_
          refine ex_iload dX7_canBe_298 rfl ?_
          refine ex_ldc (v := 1000000) dX7_canBe_300 lk_X7_119 ?_
          refine ex_icmp_lt (tgt := 314) dX7_canBe_302 (by decide) (fun c_302 => ?_) (fun c_302 => ?_)
          · replace h := h.1 c_302
            exact t_X7_canBe_314   Q B233 hB233 l1 l2 l3 l4 l5 x5 x8 M h
          · replace h := h.2 c_302
            refine ex_iload dX7_canBe_305 rfl ?_
            refine ex_ldc (v := 1000000) dX7_canBe_307 lk_X7_119 ?_
            refine ex_icmp_lt (tgt := 314) dX7_canBe_309 (by decide) (fun c_309 => ?_) (fun c_309 => ?_)
            · replace h := h.1 c_309
              exact t_X7_canBe_314   Q B233 hB233 l1 l2 l3 l4 l5 x5 x8 M h
            · replace h := h.2 c_309
              refine ex_iconst (v := 0) dX7_canBe_312 (by decide) ?_
              exact ex_iret dX7_canBe_313 rfl rfl rfl h
        refine ex_if_ne (tgt := 294) dX7_canBe_287 (by decide) (fun c_287 => ?_) (fun c_287 => ?_)
        ·
          refine ex_iconst (v := 0) dX7_canBe_294 (by decide) ?_
          exact hJ19 _ (by rw [if_neg c_287])
        ·
          refine ex_iconst (v := 1) dX7_canBe_290 (by decide) ?_
          refine ex_goto (tgt := 295) dX7_canBe_291 (by decide) ?_
          exact hJ19 _ (by rw [if_pos c_287])
      refine ex_icmp_ne (tgt := 264) dX7_canBe_257 (by decide) (fun c_257 => ?_) (fun c_257 => ?_)
      ·
        refine ex_iconst (v := 0) dX7_canBe_264 (by decide) ?_
        exact hJ20 _ (by rw [if_neg c_257])
      ·
        refine ex_iconst (v := 1) dX7_canBe_260 (by decide) ?_
        refine ex_goto (tgt := 265) dX7_canBe_261 (by decide) ?_
        exact hJ20 _ (by rw [if_pos c_257])
def w_X7_canBe_184 (Q : Int32 → Mem → Prop) (B10 : Int32 → Int32 → Int32 → Mem → Prop) (B17 : Int32 → Int32 → Int32 → Int32 → Mem → Prop) (B49 : Int32 → Int32 → Int32 → Int32 → Int32 → Int32 → Mem → Prop) (l1 : Int32) (l2 : Int32) (l3 : Int32) (l4 : Int32) (l5 : Int32) (l6 : Int32) (l7 : Int32) (M : Mem) : Prop := (vp_in ((((2 * l3) + l4) * 2049) + l6) 163920) ∧ (∀ M38 : Mem, M38 = (mset M 69 (Int32.toNatClampNeg ((((2 * l3) + l4) * 2049) + l6)) l7) → ∀ x39 : Int32, x39 = l6 + 1 → B49 l1 l2 l3 l4 l5 x39 M38)
theorem t_X7_canBe_184 (Q : Int32 → Mem → Prop) (B10 : Int32 → Int32 → Int32 → Mem → Prop) (B17 : Int32 → Int32 → Int32 → Int32 → Mem → Prop) (B49 : Int32 → Int32 → Int32 → Int32 → Int32 → Int32 → Mem → Prop) (hB10 : ∀ (l1 : Int32) (l2 : Int32) (l3 : Int32) (M : Mem), B10 l1 l2 l3 M → Ex true mX7_canBe 78 78 0 0 10 [.ref 46, .int l1, .int l2, .int l3, .null, .null, .null, .null, .null, .null] [] M Q) (hB17 : ∀ (l1 : Int32) (l2 : Int32) (l3 : Int32) (l4 : Int32) (M : Mem), B17 l1 l2 l3 l4 M → Ex true mX7_canBe 78 78 0 0 17 [.ref 46, .int l1, .int l2, .int l3, .int l4, .null, .null, .null, .null, .null] [] M Q) (hB49 : ∀ (l1 : Int32) (l2 : Int32) (l3 : Int32) (l4 : Int32) (l5 : Int32) (l6 : Int32) (M : Mem), B49 l1 l2 l3 l4 l5 l6 M → Ex true mX7_canBe 78 78 0 0 49 [.ref 46, .int l1, .int l2, .int l3, .int l4, .int l5, .int l6, .null, .null, .null] [] M Q) (l1 : Int32) (l2 : Int32) (l3 : Int32) (l4 : Int32) (l5 : Int32) (l6 : Int32) (l7 : Int32) (M : Mem) (h : w_X7_canBe_184  Q B10 B17 B49 l1 l2 l3 l4 l5 l6 l7 M) : Ex true mX7_canBe 78 78 0 0 184 [.ref 46, .int l1, .int l2, .int l3, .int l4, .int l5, .int l6, .int l7, .null, .null] [] M Q := by
  unfold w_X7_canBe_184 at h
  refine ex_aload_n dX7_canBe_184 rfl ?_
  refine ex_getR (ci := 7) (j := 29) (v := 69) dX7_canBe_185 (by decide) rfl rfl lk_X7_81 rfl (by decide) ?_
  refine ex_iconst (v := 2) dX7_canBe_188 (by decide) ?_
  refine ex_iload_n dX7_canBe_189 rfl ?_
  refine ex_imul dX7_canBe_190 ?_
  refine ex_iload dX7_canBe_191 rfl ?_
  refine ex_iadd dX7_canBe_193 ?_
  refine ex_sipush (v := 2049) dX7_canBe_194 (by decide) ?_
  refine ex_imul dX7_canBe_197 ?_
  refine ex_iload dX7_canBe_198 rfl ?_
  refine ex_iadd dX7_canBe_200 ?_
  refine ex_iload dX7_canBe_201 rfl ?_
  obtain ⟨b37, h⟩ := h
  refine ex_iast dX7_canBe_203 (by decide) rfl b37 ?_
  refine ex_nmM (fun M38 eM38 => ?_)
  replace h := h M38 eM38
  refine ex_iinc (v := l6 + 1) (L2 := [.ref 46, .int l1, .int l2, .int l3, .int l4, .int l5, .int (l6 + 1), .int l7, .null, .null]) dX7_canBe_204 rfl rfl (by decide) rfl rfl ?_
  obtain ⟨x39, ex39⟩ : ∃ x39 : Int32, x39 = l6 + 1 := ⟨_, rfl⟩
  rw [← ex39]
  replace h := h x39 ex39
  refine ex_goto (tgt := 49) dX7_canBe_207 (by decide) ?_
  refine ex_less (L2 := [.ref 46, .int l1, .int l2, .int l3, .int l4, .int l5, .int x39, .null, .null, .null]) ?_ (by intro i v hi hn; match i, hi with | 0, hi => exact hi | 1, hi => exact hi | 2, hi => exact hi | 3, hi => exact hi | 4, hi => exact hi | 5, hi => exact hi | 6, hi => exact hi | 7, hi => (cases hi; cases hn) | 8, hi => exact hi | 9, hi => exact hi | k + 10, hi => (exact absurd hi (by simp)))
  exact hB49 l1 l2 l3 l4 l5 x39 M38 h
def w_X7_canBe_82 (Q : Int32 → Mem → Prop) (B10 : Int32 → Int32 → Int32 → Mem → Prop) (B17 : Int32 → Int32 → Int32 → Int32 → Mem → Prop) (B49 : Int32 → Int32 → Int32 → Int32 → Int32 → Int32 → Mem → Prop) (l1 : Int32) (l2 : Int32) (l3 : Int32) (l4 : Int32) (l5 : Int32) (l6 : Int32) (l7 : Int32) (M : Mem) : Prop := ((l6 < l5) → (w_X7_canBe_184  Q B10 B17 B49 l1 l2 l3 l4 l5 l6 l7 M)) ∧ (¬ (l6 < l5) → ((¬ (l3 = (l2 - 1)) → ((vp_in (((((2 * (l3 + 1)) + l4) * 2049) + l6) - l5) 163920) ∧ (∀ x50 : Int32, x50 = (M 69 (Int32.toNatClampNeg (((((2 * (l3 + 1)) + l4) * 2049) + l6) - l5))) → (vp_in ((((((2 * (l3 + 1)) + 1) - l4) * 2049) + l6) - l5) 163920) ∧ (∀ x52 : Int32, x52 = ((M 69 (Int32.toNatClampNeg ((((((2 * (l3 + 1)) + 1) - l4) * 2049) + l6) - l5))) + 1) → ∀ z53 : Int32, z53 = (if x52 ≤ x50 then x52 else x50) → w_X7_canBe_184  Q B10 B17 B49 l1 l2 l3 l4 l5 l6 z53 M)))) ∧ ((l3 = (l2 - 1)) → (∀ z55 : Int32, z55 = (if l5 = l6 then 0 else 1000000) → w_X7_canBe_184  Q B10 B17 B49 l1 l2 l3 l4 l5 l6 z55 M))))
theorem t_X7_canBe_82 (Q : Int32 → Mem → Prop) (B10 : Int32 → Int32 → Int32 → Mem → Prop) (B17 : Int32 → Int32 → Int32 → Int32 → Mem → Prop) (B49 : Int32 → Int32 → Int32 → Int32 → Int32 → Int32 → Mem → Prop) (hB10 : ∀ (l1 : Int32) (l2 : Int32) (l3 : Int32) (M : Mem), B10 l1 l2 l3 M → Ex true mX7_canBe 78 78 0 0 10 [.ref 46, .int l1, .int l2, .int l3, .null, .null, .null, .null, .null, .null] [] M Q) (hB17 : ∀ (l1 : Int32) (l2 : Int32) (l3 : Int32) (l4 : Int32) (M : Mem), B17 l1 l2 l3 l4 M → Ex true mX7_canBe 78 78 0 0 17 [.ref 46, .int l1, .int l2, .int l3, .int l4, .null, .null, .null, .null, .null] [] M Q) (hB49 : ∀ (l1 : Int32) (l2 : Int32) (l3 : Int32) (l4 : Int32) (l5 : Int32) (l6 : Int32) (M : Mem), B49 l1 l2 l3 l4 l5 l6 M → Ex true mX7_canBe 78 78 0 0 49 [.ref 46, .int l1, .int l2, .int l3, .int l4, .int l5, .int l6, .null, .null, .null] [] M Q) (l1 : Int32) (l2 : Int32) (l3 : Int32) (l4 : Int32) (l5 : Int32) (l6 : Int32) (l7 : Int32) (M : Mem) (h : w_X7_canBe_82  Q B10 B17 B49 l1 l2 l3 l4 l5 l6 l7 M) : Ex true mX7_canBe 78 78 0 0 82 [.ref 46, .int l1, .int l2, .int l3, .int l4, .int l5, .int l6, .int l7, .null, .null] [] M Q := by
  unfold w_X7_canBe_82 at h
  refine ex_iload dX7_canBe_82 rfl ?_
  refine ex_iload dX7_canBe_84 rfl ?_
  refine ex_icmp_gt (tgt := 184) dX7_canBe_86 (by decide) (fun c_86 => ?_) (fun c_86 => ?_)
  · replace h := h.1 c_86
    exact t_X7_canBe_184   Q B10 B17 B49 hB10 hB17 hB49 l1 l2 l3 l4 l5 l6 l7 M h
  · replace h := h.2 c_86
    refine ex_iload_n dX7_canBe_89 rfl ?_
    refine ex_iload_n dX7_canBe_90 rfl ?_
    refine ex_iconst (v := 1) dX7_canBe_91 (by decide) ?_
    refine ex_isub dX7_canBe_92 ?_
    refine ex_icmp_ne (tgt := 114) dX7_canBe_93 (by decide) (fun c_93 => ?_) (fun c_93 => ?_)
    · replace h := h.1 c_93
      refine ex_aload_n dX7_canBe_114 rfl ?_
      refine ex_getR (ci := 7) (j := 29) (v := 69) dX7_canBe_115 (by decide) rfl rfl lk_X7_81 rfl (by decide) ?_
      refine ex_iconst (v := 2) dX7_canBe_118 (by decide) ?_
      refine ex_iload_n dX7_canBe_119 rfl ?_
      refine ex_iconst (v := 1) dX7_canBe_120 (by decide) ?_
      refine ex_iadd dX7_canBe_121 ?_
      refine ex_imul dX7_canBe_122 ?_
      refine ex_iload dX7_canBe_123 rfl ?_
      refine ex_iadd dX7_canBe_125 ?_
      refine ex_sipush (v := 2049) dX7_canBe_126 (by decide) ?_
      refine ex_imul dX7_canBe_129 ?_
      refine ex_iload dX7_canBe_130 rfl ?_
      refine ex_iadd dX7_canBe_132 ?_
      refine ex_iload dX7_canBe_133 rfl ?_
      refine ex_isub dX7_canBe_135 ?_
      obtain ⟨b49, h⟩ := h
      refine ex_iald dX7_canBe_136 (by decide) rfl b49 ?_
      refine ex_top (fun x50 ex50 => ?_)
      replace h := h x50 ex50
      refine ex_istore (L2 := [.ref 46, .int l1, .int l2, .int l3, .int l4, .int l5, .int l6, .int l7, .int x50, .null]) dX7_canBe_137 (by decide) rfl rfl ?_
      refine ex_aload_n dX7_canBe_139 rfl ?_
      refine ex_getR (ci := 7) (j := 29) (v := 69) dX7_canBe_140 (by decide) rfl rfl lk_X7_81 rfl (by decide) ?_
      refine ex_iconst (v := 2) dX7_canBe_143 (by decide) ?_
      refine ex_iload_n dX7_canBe_144 rfl ?_
      refine ex_iconst (v := 1) dX7_canBe_145 (by decide) ?_
      refine ex_iadd dX7_canBe_146 ?_
      refine ex_imul dX7_canBe_147 ?_
      refine ex_iconst (v := 1) dX7_canBe_148 (by decide) ?_
      refine ex_iadd dX7_canBe_149 ?_
      refine ex_iload dX7_canBe_150 rfl ?_
      refine ex_isub dX7_canBe_152 ?_
      refine ex_sipush (v := 2049) dX7_canBe_153 (by decide) ?_
      refine ex_imul dX7_canBe_156 ?_
      refine ex_iload dX7_canBe_157 rfl ?_
      refine ex_iadd dX7_canBe_159 ?_
      refine ex_iload dX7_canBe_160 rfl ?_
      refine ex_isub dX7_canBe_162 ?_
      obtain ⟨b51, h⟩ := h
      refine ex_iald dX7_canBe_163 (by decide) rfl b51 ?_
      refine ex_iconst (v := 1) dX7_canBe_164 (by decide) ?_
      refine ex_iadd dX7_canBe_165 ?_
      refine ex_top (fun x52 ex52 => ?_)
      replace h := h x52 ex52
      refine ex_istore (L2 := [.ref 46, .int l1, .int l2, .int l3, .int l4, .int l5, .int l6, .int l7, .int x50, .int x52]) dX7_canBe_166 (by decide) rfl rfl ?_
      refine ex_iload dX7_canBe_168 rfl ?_
      refine ex_iload dX7_canBe_170 rfl ?_
      have hJ54 : ∀ z53 : Int32, z53 = (if x52 ≤ x50 then x52 else x50) → Ex true mX7_canBe 78 78 0 0 182 [.ref 46, .int l1, .int l2, .int l3, .int l4, .int l5, .int l6, .int l7, .int x50, .int x52] [.int z53] M Q := by
        intro z53 ez53
        replace h := h z53 ez53
        refine ex_istore (L2 := [.ref 46, .int l1, .int l2, .int l3, .int l4, .int l5, .int l6, .int z53, .int x50, .int x52]) dX7_canBe_182 (by decide) rfl rfl ?_
        refine ex_less (L2 := [.ref 46, .int l1, .int l2, .int l3, .int l4, .int l5, .int l6, .int z53, .null, .null]) ?_ (by intro i v hi hn; match i, hi with | 0, hi => exact hi | 1, hi => exact hi | 2, hi => exact hi | 3, hi => exact hi | 4, hi => exact hi | 5, hi => exact hi | 6, hi => exact hi | 7, hi => exact hi | 8, hi => (cases hi; cases hn) | 9, hi => (cases hi; cases hn) | k + 10, hi => (exact absurd hi (by simp)))
        exact t_X7_canBe_184   Q B10 B17 B49 hB10 hB17 hB49 l1 l2 l3 l4 l5 l6 z53 M h
      refine ex_icmp_ge (tgt := 180) dX7_canBe_172 (by decide) (fun c_172 => ?_) (fun c_172 => ?_)
      ·
        refine ex_iload dX7_canBe_180 rfl ?_
        exact hJ54 _ (by rw [if_pos c_172])
      ·
        refine ex_iload dX7_canBe_175 rfl ?_
        refine ex_goto (tgt := 182) dX7_canBe_177 (by decide) ?_
        exact hJ54 _ (by rw [if_neg c_172])
    · replace h := h.2 c_93
      refine ex_iload dX7_canBe_96 rfl ?_
      refine ex_iload dX7_canBe_98 rfl ?_
      have hJ56 : ∀ z55 : Int32, z55 = (if l5 = l6 then 0 else 1000000) → Ex true mX7_canBe 78 78 0 0 109 [.ref 46, .int l1, .int l2, .int l3, .int l4, .int l5, .int l6, .int l7, .null, .null] [.int z55] M Q := by
        intro z55 ez55
        replace h := h z55 ez55
        refine ex_istore (L2 := [.ref 46, .int l1, .int l2, .int l3, .int l4, .int l5, .int l6, .int z55, .null, .null]) dX7_canBe_109 (by decide) rfl rfl ?_
        refine ex_goto (tgt := 184) dX7_canBe_111 (by decide) ?_
        exact t_X7_canBe_184   Q B10 B17 B49 hB10 hB17 hB49 l1 l2 l3 l4 l5 l6 z55 M h
      refine ex_icmp_ne (tgt := 107) dX7_canBe_100 (by decide) (fun c_100 => ?_) (fun c_100 => ?_)
      ·
        refine ex_ldc (v := 1000000) dX7_canBe_107 lk_X7_119 ?_
        exact hJ56 _ (by rw [if_neg c_100])
      ·
        refine ex_iconst (v := 0) dX7_canBe_103 (by decide) ?_
        refine ex_goto (tgt := 109) dX7_canBe_104 (by decide) ?_
        exact hJ56 _ (by rw [if_pos c_100])
def wb_X7_canBe_49 (Q : Int32 → Mem → Prop) (B10 : Int32 → Int32 → Int32 → Mem → Prop) (B17 : Int32 → Int32 → Int32 → Int32 → Mem → Prop) (B49 : Int32 → Int32 → Int32 → Int32 → Int32 → Int32 → Mem → Prop) (l1 : Int32) (l2 : Int32) (l3 : Int32) (l4 : Int32) (l5 : Int32) (l6 : Int32) (M : Mem) : Prop := (((M 46 7) < l6) → (∀ x26 : Int32, x26 = l4 + 1 → B17 l1 l2 l3 x26 M)) ∧ (¬ ((M 46 7) < l6) → ((vp_in l3 40) ∧ ((((M 70 (Int32.toNatClampNeg l3)) < 0) → (w_X7_canBe_82  Q B10 B17 B49 l1 l2 l3 l4 l5 l6 1000000 M)) ∧ (¬ ((M 70 (Int32.toNatClampNeg l3)) < 0) → ((vp_in l3 40) ∧ ((¬ ((M 70 (Int32.toNatClampNeg l3)) = l4) → (w_X7_canBe_184  Q B10 B17 B49 l1 l2 l3 l4 l5 l6 1000000 M)) ∧ (((M 70 (Int32.toNatClampNeg l3)) = l4) → (w_X7_canBe_82  Q B10 B17 B49 l1 l2 l3 l4 l5 l6 1000000 M))))))))
def w_X7_canBe_49 (Q : Int32 → Mem → Prop) (B10 : Int32 → Int32 → Int32 → Mem → Prop) (B17 : Int32 → Int32 → Int32 → Int32 → Mem → Prop) : Nat → Int32 → Int32 → Int32 → Int32 → Int32 → Int32 → Mem → Prop
  | 0 => fun _ _ _ _ _ _ _ => False
  | k + 1 => wb_X7_canBe_49  Q B10 B17 (w_X7_canBe_49  Q B10 B17 k)
theorem t_X7_canBe_49 (Q : Int32 → Mem → Prop) (B10 : Int32 → Int32 → Int32 → Mem → Prop) (B17 : Int32 → Int32 → Int32 → Int32 → Mem → Prop) (hB10 : ∀ (l1 : Int32) (l2 : Int32) (l3 : Int32) (M : Mem), B10 l1 l2 l3 M → Ex true mX7_canBe 78 78 0 0 10 [.ref 46, .int l1, .int l2, .int l3, .null, .null, .null, .null, .null, .null] [] M Q) (hB17 : ∀ (l1 : Int32) (l2 : Int32) (l3 : Int32) (l4 : Int32) (M : Mem), B17 l1 l2 l3 l4 M → Ex true mX7_canBe 78 78 0 0 17 [.ref 46, .int l1, .int l2, .int l3, .int l4, .null, .null, .null, .null, .null] [] M Q) : ∀ (k : Nat) (l1 : Int32) (l2 : Int32) (l3 : Int32) (l4 : Int32) (l5 : Int32) (l6 : Int32) (M : Mem), w_X7_canBe_49  Q B10 B17 k l1 l2 l3 l4 l5 l6 M → Ex true mX7_canBe 78 78 0 0 49 [.ref 46, .int l1, .int l2, .int l3, .int l4, .int l5, .int l6, .null, .null, .null] [] M Q := by
  intro k
  induction k with
  | zero => intro l1 l2 l3 l4 l5 l6 M h; exact False.elim h
  | succ k hB49 =>
    intro l1 l2 l3 l4 l5 l6 M h
    replace h : wb_X7_canBe_49  Q B10 B17 (w_X7_canBe_49  Q B10 B17 k) l1 l2 l3 l4 l5 l6 M := h
    generalize w_X7_canBe_49  Q B10 B17 k = B49 at hB49 h
    unfold wb_X7_canBe_49 at h
    refine ex_iload dX7_canBe_49 rfl ?_
    refine ex_aload_n dX7_canBe_51 rfl ?_
    refine ex_getI (ci := 7) (j := 7) dX7_canBe_52 (by decide) rfl rfl lk_X7_28 ?_
    refine ex_icmp_gt (tgt := 210) dX7_canBe_55 (by decide) (fun c_55 => ?_) (fun c_55 => ?_)
    · replace h := h.1 c_55
      refine ex_iinc (v := l4 + 1) (L2 := [.ref 46, .int l1, .int l2, .int l3, .int (l4 + 1), .int l5, .int l6, .null, .null, .null]) dX7_canBe_210 rfl rfl (by decide) rfl rfl ?_
      obtain ⟨x26, ex26⟩ : ∃ x26 : Int32, x26 = l4 + 1 := ⟨_, rfl⟩
      rw [← ex26]
      replace h := h x26 ex26
      refine ex_goto (tgt := 17) dX7_canBe_213 (by decide) ?_
      refine ex_less (L2 := [.ref 46, .int l1, .int l2, .int l3, .int x26, .null, .null, .null, .null, .null]) ?_ (by intro i v hi hn; match i, hi with | 0, hi => exact hi | 1, hi => exact hi | 2, hi => exact hi | 3, hi => exact hi | 4, hi => exact hi | 5, hi => (cases hi; cases hn) | 6, hi => (cases hi; cases hn) | 7, hi => exact hi | 8, hi => exact hi | 9, hi => exact hi | k + 10, hi => (exact absurd hi (by simp)))
      exact hB17 l1 l2 l3 x26 M h
    · replace h := h.2 c_55
      refine ex_ldc (v := 1000000) dX7_canBe_58 lk_X7_119 ?_
      refine ex_istore (L2 := [.ref 46, .int l1, .int l2, .int l3, .int l4, .int l5, .int l6, .int 1000000, .null, .null]) dX7_canBe_60 (by decide) rfl rfl ?_
      refine ex_aload_n dX7_canBe_62 rfl ?_
      refine ex_getR (ci := 7) (j := 30) (v := 70) dX7_canBe_63 (by decide) rfl rfl lk_X7_84 rfl (by decide) ?_
      refine ex_iload_n dX7_canBe_66 rfl ?_
      obtain ⟨b27, h⟩ := h
      refine ex_iald dX7_canBe_67 (by decide) rfl b27 ?_
      refine ex_if_lt (tgt := 82) dX7_canBe_68 (by decide) (fun c_68 => ?_) (fun c_68 => ?_)
      · replace h := h.1 c_68
        exact t_X7_canBe_82   Q B10 B17 B49 hB10 hB17 hB49 l1 l2 l3 l4 l5 l6 1000000 M h
      · replace h := h.2 c_68
        refine ex_aload_n dX7_canBe_71 rfl ?_
        refine ex_getR (ci := 7) (j := 30) (v := 70) dX7_canBe_72 (by decide) rfl rfl lk_X7_84 rfl (by decide) ?_
        refine ex_iload_n dX7_canBe_75 rfl ?_
        obtain ⟨b57, h⟩ := h
        refine ex_iald dX7_canBe_76 (by decide) rfl b57 ?_
        refine ex_iload dX7_canBe_77 rfl ?_
        refine ex_icmp_ne (tgt := 184) dX7_canBe_79 (by decide) (fun c_79 => ?_) (fun c_79 => ?_)
        · replace h := h.1 c_79
          exact t_X7_canBe_184   Q B10 B17 B49 hB10 hB17 hB49 l1 l2 l3 l4 l5 l6 1000000 M h
        · replace h := h.2 c_79
          exact t_X7_canBe_82   Q B10 B17 B49 hB10 hB17 hB49 l1 l2 l3 l4 l5 l6 1000000 M h
def wb_X7_canBe_17 (Q : Int32 → Mem → Prop) (B10 : Int32 → Int32 → Int32 → Mem → Prop) (B17 : Int32 → Int32 → Int32 → Int32 → Mem → Prop) (l1 : Int32) (l2 : Int32) (l3 : Int32) (l4 : Int32) (M : Mem) : Prop := ((2 ≤ l4) → (∀ x21 : Int32, x21 = l3 + (-1) → B10 l1 l2 x21 M)) ∧ (¬ (2 ≤ l4) → ((vp_in (l1 + l3) 1200) ∧ ((vp_in (l1 + l3) 1200) ∧ (w_X7_lasts (M 62 (Int32.toNatClampNeg (l1 + l3))) l4 (M 64 (Int32.toNatClampNeg (l1 + l3))) M (fun v24 M25 => ∃ k, w_X7_canBe_49  Q B10 B17 k l1 l2 l3 l4 v24 0 M25)))))
def w_X7_canBe_17 (Q : Int32 → Mem → Prop) (B10 : Int32 → Int32 → Int32 → Mem → Prop) : Nat → Int32 → Int32 → Int32 → Int32 → Mem → Prop
  | 0 => fun _ _ _ _ _ => False
  | k + 1 => wb_X7_canBe_17  Q B10 (w_X7_canBe_17  Q B10 k)
theorem t_X7_canBe_17 (Q : Int32 → Mem → Prop) (B10 : Int32 → Int32 → Int32 → Mem → Prop) (hB10 : ∀ (l1 : Int32) (l2 : Int32) (l3 : Int32) (M : Mem), B10 l1 l2 l3 M → Ex true mX7_canBe 78 78 0 0 10 [.ref 46, .int l1, .int l2, .int l3, .null, .null, .null, .null, .null, .null] [] M Q) : ∀ (k : Nat) (l1 : Int32) (l2 : Int32) (l3 : Int32) (l4 : Int32) (M : Mem), w_X7_canBe_17  Q B10 k l1 l2 l3 l4 M → Ex true mX7_canBe 78 78 0 0 17 [.ref 46, .int l1, .int l2, .int l3, .int l4, .null, .null, .null, .null, .null] [] M Q := by
  intro k
  induction k with
  | zero => intro l1 l2 l3 l4 M h; exact False.elim h
  | succ k hB17 =>
    intro l1 l2 l3 l4 M h
    replace h : wb_X7_canBe_17  Q B10 (w_X7_canBe_17  Q B10 k) l1 l2 l3 l4 M := h
    generalize w_X7_canBe_17  Q B10 k = B17 at hB17 h
    unfold wb_X7_canBe_17 at h
    refine ex_iload dX7_canBe_17 rfl ?_
    refine ex_iconst (v := 2) dX7_canBe_19 (by decide) ?_
    refine ex_icmp_ge (tgt := 216) dX7_canBe_20 (by decide) (fun c_20 => ?_) (fun c_20 => ?_)
    · replace h := h.1 c_20
      refine ex_iinc (v := l3 + (-1)) (L2 := [.ref 46, .int l1, .int l2, .int (l3 + (-1)), .int l4, .null, .null, .null, .null, .null]) dX7_canBe_216 rfl rfl (by decide) rfl rfl ?_
      obtain ⟨x21, ex21⟩ : ∃ x21 : Int32, x21 = l3 + (-1) := ⟨_, rfl⟩
      rw [← ex21]
      replace h := h x21 ex21
      refine ex_goto (tgt := 10) dX7_canBe_219 (by decide) ?_
      refine ex_less (L2 := [.ref 46, .int l1, .int l2, .int x21, .null, .null, .null, .null, .null, .null]) ?_ (by intro i v hi hn; match i, hi with | 0, hi => exact hi | 1, hi => exact hi | 2, hi => exact hi | 3, hi => exact hi | 4, hi => (cases hi; cases hn) | 5, hi => exact hi | 6, hi => exact hi | 7, hi => exact hi | 8, hi => exact hi | 9, hi => exact hi | k + 10, hi => (exact absurd hi (by simp)))
      exact hB10 l1 l2 x21 M h
    · replace h := h.2 c_20
      refine ex_aload_n dX7_canBe_23 rfl ?_
      refine ex_getR (ci := 7) (j := 17) (v := 62) dX7_canBe_24 (by decide) rfl rfl lk_X7_59 rfl (by decide) ?_
      refine ex_iload_n dX7_canBe_27 rfl ?_
      refine ex_iload_n dX7_canBe_28 rfl ?_
      refine ex_iadd dX7_canBe_29 ?_
      obtain ⟨b22, h⟩ := h
      refine ex_iald dX7_canBe_30 (by decide) rfl b22 ?_
      refine ex_iload dX7_canBe_31 rfl ?_
      refine ex_aload_n dX7_canBe_33 rfl ?_
      refine ex_getR (ci := 7) (j := 19) (v := 64) dX7_canBe_34 (by decide) rfl rfl lk_X7_65 rfl (by decide) ?_
      refine ex_iload_n dX7_canBe_37 rfl ?_
      refine ex_iload_n dX7_canBe_38 rfl ?_
      refine ex_iadd dX7_canBe_39 ?_
      obtain ⟨b23, h⟩ := h
      refine ex_iald dX7_canBe_40 (by decide) rfl b23 ?_
      refine ex_invS (as := [.int (M 62 (Int32.toNatClampNeg (l1 + l3))), .int l4, .int (M 64 (Int32.toNatClampNeg (l1 + l3)))]) (L2 := [.int (M 62 (Int32.toNatClampNeg (l1 + l3))), .int l4, .int (M 64 (Int32.toNatClampNeg (l1 + l3))), .null]) (st := []) 0 0 dX7_canBe_41 lk_X7_111 sl_X7_lasts (rmK_of rfl) rfl (Nat.le_of_ble_eq_true rfl) (Nat.le_of_ble_eq_true rfl) (t_X7_lasts   (M 62 (Int32.toNatClampNeg (l1 + l3))) l4 (M 64 (Int32.toNatClampNeg (l1 + l3))) M _ h) (fun v24 M25 h => ?_)
      show Ex true mX7_canBe 78 78 0 0 44 [.ref 46, .int l1, .int l2, .int l3, .int l4, .null, .null, .null, .null, .null] [.int v24] M25 Q
      refine ex_istore (L2 := [.ref 46, .int l1, .int l2, .int l3, .int l4, .int v24, .null, .null, .null, .null]) dX7_canBe_44 (by decide) rfl rfl ?_
      refine ex_iconst (v := 0) dX7_canBe_46 (by decide) ?_
      refine ex_istore (L2 := [.ref 46, .int l1, .int l2, .int l3, .int l4, .int v24, .int 0, .null, .null, .null]) dX7_canBe_47 (by decide) rfl rfl ?_
      obtain ⟨k_, h⟩ := h
      exact t_X7_canBe_49   Q B10 B17 hB10 hB17 k_ l1 l2 l3 l4 v24 0 M25 h
def wb_X7_canBe_10 (Q : Int32 → Mem → Prop) (B10 : Int32 → Int32 → Int32 → Mem → Prop) (l1 : Int32) (l2 : Int32) (l3 : Int32) (M : Mem) : Prop := ((l3 < 0) → (∀ x2 : Int32, x2 = (M 46 7) → ∃ k, w_X7_canBe_233  Q  k l1 l2 x2 (-1) 0 M)) ∧ (¬ (l3 < 0) → (∃ k, w_X7_canBe_17  Q B10 k l1 l2 l3 0 M))
def w_X7_canBe_10 (Q : Int32 → Mem → Prop) : Nat → Int32 → Int32 → Int32 → Mem → Prop
  | 0 => fun _ _ _ _ => False
  | k + 1 => wb_X7_canBe_10  Q  (w_X7_canBe_10  Q  k)
theorem t_X7_canBe_10 (Q : Int32 → Mem → Prop) : ∀ (k : Nat) (l1 : Int32) (l2 : Int32) (l3 : Int32) (M : Mem), w_X7_canBe_10  Q  k l1 l2 l3 M → Ex true mX7_canBe 78 78 0 0 10 [.ref 46, .int l1, .int l2, .int l3, .null, .null, .null, .null, .null, .null] [] M Q := by
  intro k
  induction k with
  | zero => intro l1 l2 l3 M h; exact False.elim h
  | succ k hB10 =>
    intro l1 l2 l3 M h
    replace h : wb_X7_canBe_10  Q  (w_X7_canBe_10  Q  k) l1 l2 l3 M := h
    generalize w_X7_canBe_10  Q  k = B10 at hB10 h
    unfold wb_X7_canBe_10 at h
    refine ex_iload_n dX7_canBe_10 rfl ?_
    refine ex_if_lt (tgt := 222) dX7_canBe_11 (by decide) (fun c_11 => ?_) (fun c_11 => ?_)
    · replace h := h.1 c_11
      refine ex_aload_n dX7_canBe_222 rfl ?_
      refine ex_getI (ci := 7) (j := 7) dX7_canBe_223 (by decide) rfl rfl lk_X7_28 ?_
      refine ex_top (fun x2 ex2 => ?_)
      replace h := h x2 ex2
      refine ex_istore_n (L2 := [.ref 46, .int l1, .int l2, .int x2, .null, .null, .null, .null, .null, .null]) dX7_canBe_226 (by decide) rfl rfl ?_
      refine ex_iconst (v := (-1)) dX7_canBe_227 (by decide) ?_
      refine ex_istore (L2 := [.ref 46, .int l1, .int l2, .int x2, .int (-1), .null, .null, .null, .null, .null]) dX7_canBe_228 (by decide) rfl rfl ?_
      refine ex_iconst (v := 0) dX7_canBe_230 (by decide) ?_
      refine ex_istore (L2 := [.ref 46, .int l1, .int l2, .int x2, .int (-1), .int 0, .null, .null, .null, .null]) dX7_canBe_231 (by decide) rfl rfl ?_
      obtain ⟨k_, h⟩ := h
      exact t_X7_canBe_233   Q   k_ l1 l2 x2 (-1) 0 M h
    · replace h := h.2 c_11
      refine ex_iconst (v := 0) dX7_canBe_14 (by decide) ?_
      refine ex_istore (L2 := [.ref 46, .int l1, .int l2, .int l3, .int 0, .null, .null, .null, .null, .null]) dX7_canBe_15 (by decide) rfl rfl ?_
      obtain ⟨k_, h⟩ := h
      exact t_X7_canBe_17   Q B10 hB10 k_ l1 l2 l3 0 M h
def w_X7_canBe (p1 : Int32) (p2 : Int32) (M : Mem) (Q : Int32 → Mem → Prop) : Prop := (¬ (p2 = 0) → (∀ x1 : Int32, x1 = (p2 - 1) → ∃ k, w_X7_canBe_10  Q  k p1 p2 x1 M)) ∧ ((p2 = 0) → (Q 0 M))
theorem t_X7_canBe (p1 : Int32) (p2 : Int32) (M : Mem) (Q : Int32 → Mem → Prop) (h : w_X7_canBe  p1 p2 M Q) : Ex true mX7_canBe 78 78 0 0 0 [.ref 46, .int p1, .int p2, .null, .null, .null, .null, .null, .null, .null] [] M Q := by
  unfold w_X7_canBe at h
  refine ex_iload_n dX7_canBe_0 rfl ?_
  refine ex_if_ne (tgt := 6) dX7_canBe_1 (by decide) (fun c_1 => ?_) (fun c_1 => ?_)
  · replace h := h.1 c_1
    refine ex_iload_n dX7_canBe_6 rfl ?_
    refine ex_iconst (v := 1) dX7_canBe_7 (by decide) ?_
    refine ex_isub dX7_canBe_8 ?_
    refine ex_top (fun x1 ex1 => ?_)
    replace h := h x1 ex1
    refine ex_istore_n (L2 := [.ref 46, .int p1, .int p2, .int x1, .null, .null, .null, .null, .null, .null]) dX7_canBe_9 (by decide) rfl rfl ?_
    obtain ⟨k_, h⟩ := h
    exact t_X7_canBe_10   Q   k_ p1 p2 x1 M h
  · replace h := h.2 c_1
    refine ex_iconst (v := 0) dX7_canBe_4 (by decide) ?_
    exact ex_iret dX7_canBe_5 rfl rfl rfl h
def w_X7_peek (p1 : Int32) (M : Mem) (Q : Int32 → Mem → Prop) : Prop := ((((M 46 6) ≤ p1) → (True)) ∧ (¬ ((M 46 6) ≤ p1) → ((vp_in p1 4000) ∧ (True)))) ∧ (∀ z2 : Int32, z2 = (if (M 46 6) ≤ p1 then (-1) else (M 52 (Int32.toNatClampNeg p1))) → Q z2 M)
theorem t_X7_peek (p1 : Int32) (M : Mem) (Q : Int32 → Mem → Prop) (h : w_X7_peek  p1 M Q) : Ex true mX7_peek 78 78 0 0 0 [.ref 46, .int p1] [] M Q := by
  unfold w_X7_peek at h
  refine ex_iload_n dX7_peek_0 rfl ?_
  refine ex_aload_n dX7_peek_1 rfl ?_
  refine ex_getI (ci := 7) (j := 6) dX7_peek_2 (by decide) rfl rfl lk_X7_108 ?_
  obtain ⟨khJ3, h⟩ := h
  have hJ3 : ∀ z2 : Int32, z2 = (if (M 46 6) ≤ p1 then (-1) else (M 52 (Int32.toNatClampNeg p1))) → Ex true mX7_peek 78 78 0 0 18 [.ref 46, .int p1] [.int z2] M Q := by
    intro z2 ez2
    replace h := h z2 ez2
    exact ex_iret dX7_peek_18 rfl rfl rfl h
  refine ex_icmp_ge (tgt := 17) dX7_peek_5 (by decide) (fun c_5 => ?_) (fun c_5 => ?_)
  · replace h := khJ3.1 c_5
    refine ex_iconst (v := (-1)) dX7_peek_17 (by decide) ?_
    exact hJ3 _ (by rw [if_pos c_5])
  · replace h := khJ3.2 c_5
    refine ex_aload_n dX7_peek_8 rfl ?_
    refine ex_getR (ci := 7) (j := 5) (v := 52) dX7_peek_9 (by decide) rfl rfl lk_X7_25 rfl (by decide) ?_
    refine ex_iload_n dX7_peek_12 rfl ?_
    obtain ⟨b1, h⟩ := h
    refine ex_iald dX7_peek_13 (by decide) rfl b1 ?_
    refine ex_goto (tgt := 18) dX7_peek_14 (by decide) ?_
    exact hJ3 _ (by rw [if_neg c_5])
def w_X7_fail (p1 : Int32) (M : Mem) (Q : Int32 → Mem → Prop) : Prop := ∀ z1 : Int32, z1 = (if 0 ≤ (M 46 25) then (M 46 25) else p1) → ∀ M2 : Mem, M2 = (mset M 46 25 z1) → Q 0 M2
theorem t_X7_fail (p1 : Int32) (M : Mem) (Q : Int32 → Mem → Prop) (h : w_X7_fail  p1 M Q) : Ex true mX7_fail 78 78 0 0 0 [.ref 46, .int p1] [] M Q := by
  unfold w_X7_fail at h
  refine ex_aload_n dX7_fail_0 rfl ?_
  refine ex_aload_n dX7_fail_1 rfl ?_
  refine ex_getI (ci := 7) (j := 25) dX7_fail_2 (by decide) rfl rfl lk_X7_120 ?_
  have hJ3 : ∀ z1 : Int32, z1 = (if 0 ≤ (M 46 25) then (M 46 25) else p1) → Ex true mX7_fail 78 78 0 0 16 [.ref 46, .int p1] [.int z1, .ref 46] M Q := by
    intro z1 ez1
    replace h := h z1 ez1
    refine ex_putI (ci := 7) (j := 25) dX7_fail_16 (by decide) rfl rfl lk_X7_120 ⟨rfl, rfl⟩ ?_
    refine ex_nmM (fun M2 eM2 => ?_)
    replace h := h M2 eM2
    exact ex_vret dX7_fail_19 rfl rfl h
  refine ex_if_ge (tgt := 12) dX7_fail_5 (by decide) (fun c_5 => ?_) (fun c_5 => ?_)
  ·
    refine ex_aload_n dX7_fail_12 rfl ?_
    refine ex_getI (ci := 7) (j := 25) dX7_fail_13 (by decide) rfl rfl lk_X7_120 ?_
    exact hJ3 _ (by rw [if_pos c_5])
  ·
    refine ex_iload_n dX7_fail_8 rfl ?_
    refine ex_goto (tgt := 16) dX7_fail_9 (by decide) ?_
    exact hJ3 _ (by rw [if_neg c_5])
def w_X7_find_21 (a : Nat) (Q : Int32 → Mem → Prop) (l1 : Int32) (l2 : Int32) (M : Mem) : Prop := ∀ z1 : Int32, z1 = (if (nI (S0 a).2) ≤ l2 then (-1) else l2) → Q z1 M
theorem t_X7_find_21 (a : Nat) (ha : FA a) (Q : Int32 → Mem → Prop) (l1 : Int32) (l2 : Int32) (M : Mem) (h : w_X7_find_21 a Q  l1 l2 M) : Ex true mX7_find 78 78 0 0 21 [.ref a, .int l1, .int l2] [] M Q := by
  unfold w_X7_find_21 at h
  refine ex_iload_n dX7_find_21 rfl ?_
  refine ex_aload_n dX7_find_22 rfl ?_
  refine ex_alen (len := (S0 a).2) dX7_find_23 (fa_l ha) (fa_S ha) ?_
  have hJ2 : ∀ z1 : Int32, z1 = (if (nI (S0 a).2) ≤ l2 then (-1) else l2) → Ex true mX7_find 78 78 0 0 32 [.ref a, .int l1, .int l2] [.int z1] M Q := by
    intro z1 ez1
    replace h := h z1 ez1
    exact ex_iret dX7_find_32 rfl rfl rfl h
  refine ex_icmp_ge (tgt := 31) dX7_find_24 (by decide) (fun c_24 => ?_) (fun c_24 => ?_)
  ·
    refine ex_iconst (v := (-1)) dX7_find_31 (by decide) ?_
    exact hJ2 _ (by rw [if_pos c_24])
  ·
    refine ex_iload_n dX7_find_27 rfl ?_
    refine ex_goto (tgt := 32) dX7_find_28 (by decide) ?_
    exact hJ2 _ (by rw [if_neg c_24])
def wb_X7_find_2 (a : Nat) (Q : Int32 → Mem → Prop) (B2 : Int32 → Int32 → Mem → Prop) (l1 : Int32) (l2 : Int32) (M : Mem) : Prop := (((nI (S0 a).2) ≤ l2) → (w_X7_find_21 a Q  l1 l2 M)) ∧ (¬ ((nI (S0 a).2) ≤ l2) → ((vp_in l2 (S0 a).2) ∧ ((((M a (Int32.toNatClampNeg l2)) = l1) → (w_X7_find_21 a Q  l1 l2 M)) ∧ (¬ ((M a (Int32.toNatClampNeg l2)) = l1) → (∀ x4 : Int32, x4 = l2 + 1 → B2 l1 x4 M)))))
def w_X7_find_2 (a : Nat) (Q : Int32 → Mem → Prop) : Nat → Int32 → Int32 → Mem → Prop
  | 0 => fun _ _ _ => False
  | k + 1 => wb_X7_find_2 a Q  (w_X7_find_2 a Q  k)
theorem t_X7_find_2 (a : Nat) (ha : FA a) (Q : Int32 → Mem → Prop) : ∀ (k : Nat) (l1 : Int32) (l2 : Int32) (M : Mem), w_X7_find_2 a Q  k l1 l2 M → Ex true mX7_find 78 78 0 0 2 [.ref a, .int l1, .int l2] [] M Q := by
  intro k
  induction k with
  | zero => intro l1 l2 M h; exact False.elim h
  | succ k hB2 =>
    intro l1 l2 M h
    replace h : wb_X7_find_2 a Q  (w_X7_find_2 a Q  k) l1 l2 M := h
    generalize w_X7_find_2 a Q  k = B2 at hB2 h
    unfold wb_X7_find_2 at h
    refine ex_iload_n dX7_find_2 rfl ?_
    refine ex_aload_n dX7_find_3 rfl ?_
    refine ex_alen (len := (S0 a).2) dX7_find_4 (fa_l ha) (fa_S ha) ?_
    refine ex_icmp_ge (tgt := 21) dX7_find_5 (by decide) (fun c_5 => ?_) (fun c_5 => ?_)
    · replace h := h.1 c_5
      exact t_X7_find_21 a ha  Q   l1 l2 M h
    · replace h := h.2 c_5
      refine ex_aload_n dX7_find_8 rfl ?_
      refine ex_iload_n dX7_find_9 rfl ?_
      obtain ⟨b3, h⟩ := h
      refine ex_iald dX7_find_10 (fa_l ha) (fa_S ha) b3 ?_
      refine ex_iload_n dX7_find_11 rfl ?_
      refine ex_icmp_eq (tgt := 21) dX7_find_12 (by decide) (fun c_12 => ?_) (fun c_12 => ?_)
      · replace h := h.1 c_12
        exact t_X7_find_21 a ha  Q   l1 l2 M h
      · replace h := h.2 c_12
        refine ex_iinc (v := l2 + 1) (L2 := [.ref a, .int l1, .int (l2 + 1)]) dX7_find_15 rfl rfl (by decide) rfl rfl ?_
        obtain ⟨x4, ex4⟩ : ∃ x4 : Int32, x4 = l2 + 1 := ⟨_, rfl⟩
        rw [← ex4]
        replace h := h x4 ex4
        refine ex_goto (tgt := 2) dX7_find_18 (by decide) ?_
        exact hB2 l1 x4 M h
def w_X7_find (a : Nat) (p2 : Int32) (M : Mem) (Q : Int32 → Mem → Prop) : Prop := ∃ k, w_X7_find_2 a Q  k p2 0 M
theorem t_X7_find (a : Nat) (ha : FA a) (p2 : Int32) (M : Mem) (Q : Int32 → Mem → Prop) (h : w_X7_find a p2 M Q) : Ex true mX7_find 78 78 0 0 0 [.ref a, .int p2, .null] [] M Q := by
  unfold w_X7_find at h
  refine ex_iconst (v := 0) dX7_find_0 (by decide) ?_
  refine ex_istore_n (L2 := [.ref a, .int p2, .int 0]) dX7_find_1 (by decide) rfl rfl ?_
  obtain ⟨k_, h⟩ := h
  exact t_X7_find_2 a ha  Q   k_ p2 0 M h
def wb_X7_noteOf_12 (Q : Int32 → Mem → Prop) (B4 : Int32 → Int32 → Int32 → Mem → Prop) (B12 : Int32 → Int32 → Int32 → Int32 → Mem → Prop) (l1 : Int32) (l2 : Int32) (l3 : Int32) (l4 : Int32) (M : Mem) : Prop := ((7 ≤ l4) → (∀ x1 : Int32, x1 = l3 + 1 → B4 l1 l2 x1 M)) ∧ (¬ (7 ≤ l4) → ((vp_in l4 7) ∧ ((vp_in l3 4) ∧ (∀ z4 : Int32, z4 = (if l1 = ((M 47 (Int32.toNatClampNeg l4)) ||| (M 48 (Int32.toNatClampNeg l3))) then ((7 * l3) + l4) else l2) → ∀ x5 : Int32, x5 = l4 + 1 → B12 l1 z4 l3 x5 M))))
def w_X7_noteOf_12 (Q : Int32 → Mem → Prop) (B4 : Int32 → Int32 → Int32 → Mem → Prop) : Nat → Int32 → Int32 → Int32 → Int32 → Mem → Prop
  | 0 => fun _ _ _ _ _ => False
  | k + 1 => wb_X7_noteOf_12  Q B4 (w_X7_noteOf_12  Q B4 k)
theorem t_X7_noteOf_12 (Q : Int32 → Mem → Prop) (B4 : Int32 → Int32 → Int32 → Mem → Prop) (hB4 : ∀ (l1 : Int32) (l2 : Int32) (l3 : Int32) (M : Mem), B4 l1 l2 l3 M → Ex true mX7_noteOf 78 78 0 0 4 [.ref 46, .int l1, .int l2, .int l3, .null] [] M Q) : ∀ (k : Nat) (l1 : Int32) (l2 : Int32) (l3 : Int32) (l4 : Int32) (M : Mem), w_X7_noteOf_12  Q B4 k l1 l2 l3 l4 M → Ex true mX7_noteOf 78 78 0 0 12 [.ref 46, .int l1, .int l2, .int l3, .int l4] [] M Q := by
  intro k
  induction k with
  | zero => intro l1 l2 l3 l4 M h; exact False.elim h
  | succ k hB12 =>
    intro l1 l2 l3 l4 M h
    replace h : wb_X7_noteOf_12  Q B4 (w_X7_noteOf_12  Q B4 k) l1 l2 l3 l4 M := h
    generalize w_X7_noteOf_12  Q B4 k = B12 at hB12 h
    unfold wb_X7_noteOf_12 at h
    refine ex_iload dX7_noteOf_12 rfl ?_
    refine ex_bipush (v := 7) dX7_noteOf_14 (by decide) ?_
    refine ex_icmp_ge (tgt := 55) dX7_noteOf_16 (by decide) (fun c_16 => ?_) (fun c_16 => ?_)
    · replace h := h.1 c_16
      refine ex_iinc (v := l3 + 1) (L2 := [.ref 46, .int l1, .int l2, .int (l3 + 1), .int l4]) dX7_noteOf_55 rfl rfl (by decide) rfl rfl ?_
      obtain ⟨x1, ex1⟩ : ∃ x1 : Int32, x1 = l3 + 1 := ⟨_, rfl⟩
      rw [← ex1]
      replace h := h x1 ex1
      refine ex_goto (tgt := 4) dX7_noteOf_58 (by decide) ?_
      refine ex_less (L2 := [.ref 46, .int l1, .int l2, .int x1, .null]) ?_ (by intro i v hi hn; match i, hi with | 0, hi => exact hi | 1, hi => exact hi | 2, hi => exact hi | 3, hi => exact hi | 4, hi => (cases hi; cases hn) | k + 5, hi => (exact absurd hi (by simp)))
      exact hB4 l1 l2 x1 M h
    · replace h := h.2 c_16
      refine ex_iload_n dX7_noteOf_19 rfl ?_
      refine ex_aload_n dX7_noteOf_20 rfl ?_
      refine ex_getR (ci := 7) (j := 0) (v := 47) dX7_noteOf_21 (by decide) rfl rfl lk_X7_7 rfl (by decide) ?_
      refine ex_iload dX7_noteOf_24 rfl ?_
      obtain ⟨b2, h⟩ := h
      refine ex_iald dX7_noteOf_26 (by decide) rfl b2 ?_
      refine ex_aload_n dX7_noteOf_27 rfl ?_
      refine ex_getR (ci := 7) (j := 1) (v := 48) dX7_noteOf_28 (by decide) rfl rfl lk_X7_13 rfl (by decide) ?_
      refine ex_iload_n dX7_noteOf_31 rfl ?_
      obtain ⟨b3, h⟩ := h
      refine ex_iald dX7_noteOf_32 (by decide) rfl b3 ?_
      refine ex_ior dX7_noteOf_33 ?_
      have hJ6 : ∀ z4 : Int32, z4 = (if l1 = ((M 47 (Int32.toNatClampNeg l4)) ||| (M 48 (Int32.toNatClampNeg l3))) then ((7 * l3) + l4) else l2) → Ex true mX7_noteOf 78 78 0 0 48 [.ref 46, .int l1, .int l2, .int l3, .int l4] [.int z4] M Q := by
        intro z4 ez4
        replace h := h z4 ez4
        refine ex_istore_n (L2 := [.ref 46, .int l1, .int z4, .int l3, .int l4]) dX7_noteOf_48 (by decide) rfl rfl ?_
        refine ex_iinc (v := l4 + 1) (L2 := [.ref 46, .int l1, .int z4, .int l3, .int (l4 + 1)]) dX7_noteOf_49 rfl rfl (by decide) rfl rfl ?_
        obtain ⟨x5, ex5⟩ : ∃ x5 : Int32, x5 = l4 + 1 := ⟨_, rfl⟩
        rw [← ex5]
        replace h := h x5 ex5
        refine ex_goto (tgt := 12) dX7_noteOf_52 (by decide) ?_
        exact hB12 l1 z4 l3 x5 M h
      refine ex_icmp_ne (tgt := 47) dX7_noteOf_34 (by decide) (fun c_34 => ?_) (fun c_34 => ?_)
      ·
        refine ex_iload_n dX7_noteOf_47 rfl ?_
        exact hJ6 _ (by rw [if_neg c_34])
      ·
        refine ex_bipush (v := 7) dX7_noteOf_37 (by decide) ?_
        refine ex_iload_n dX7_noteOf_39 rfl ?_
        refine ex_imul dX7_noteOf_40 ?_
        refine ex_iload dX7_noteOf_41 rfl ?_
        refine ex_iadd dX7_noteOf_43 ?_
        refine ex_goto (tgt := 48) dX7_noteOf_44 (by decide) ?_
        exact hJ6 _ (by rw [if_pos c_34])
def wb_X7_noteOf_4 (Q : Int32 → Mem → Prop) (B4 : Int32 → Int32 → Int32 → Mem → Prop) (l1 : Int32) (l2 : Int32) (l3 : Int32) (M : Mem) : Prop := ((4 ≤ l3) → (Q l2 M)) ∧ (¬ (4 ≤ l3) → (∃ k, w_X7_noteOf_12  Q B4 k l1 l2 l3 0 M))
def w_X7_noteOf_4 (Q : Int32 → Mem → Prop) : Nat → Int32 → Int32 → Int32 → Mem → Prop
  | 0 => fun _ _ _ _ => False
  | k + 1 => wb_X7_noteOf_4  Q  (w_X7_noteOf_4  Q  k)
theorem t_X7_noteOf_4 (Q : Int32 → Mem → Prop) : ∀ (k : Nat) (l1 : Int32) (l2 : Int32) (l3 : Int32) (M : Mem), w_X7_noteOf_4  Q  k l1 l2 l3 M → Ex true mX7_noteOf 78 78 0 0 4 [.ref 46, .int l1, .int l2, .int l3, .null] [] M Q := by
  intro k
  induction k with
  | zero => intro l1 l2 l3 M h; exact False.elim h
  | succ k hB4 =>
    intro l1 l2 l3 M h
    replace h : wb_X7_noteOf_4  Q  (w_X7_noteOf_4  Q  k) l1 l2 l3 M := h
    generalize w_X7_noteOf_4  Q  k = B4 at hB4 h
    unfold wb_X7_noteOf_4 at h
    refine ex_iload_n dX7_noteOf_4 rfl ?_
    refine ex_iconst (v := 4) dX7_noteOf_5 (by decide) ?_
    refine ex_icmp_ge (tgt := 61) dX7_noteOf_6 (by decide) (fun c_6 => ?_) (fun c_6 => ?_)
    · replace h := h.1 c_6
      refine ex_iload_n dX7_noteOf_61 rfl ?_
      exact ex_iret dX7_noteOf_62 rfl rfl rfl h
    · replace h := h.2 c_6
      refine ex_iconst (v := 0) dX7_noteOf_9 (by decide) ?_
      refine ex_istore (L2 := [.ref 46, .int l1, .int l2, .int l3, .int 0]) dX7_noteOf_10 (by decide) rfl rfl ?_
      obtain ⟨k_, h⟩ := h
      exact t_X7_noteOf_12   Q B4 hB4 k_ l1 l2 l3 0 M h
def w_X7_noteOf (p1 : Int32) (M : Mem) (Q : Int32 → Mem → Prop) : Prop := ∃ k, w_X7_noteOf_4  Q  k p1 (-1) 0 M
theorem t_X7_noteOf (p1 : Int32) (M : Mem) (Q : Int32 → Mem → Prop) (h : w_X7_noteOf  p1 M Q) : Ex true mX7_noteOf 78 78 0 0 0 [.ref 46, .int p1, .null, .null, .null] [] M Q := by
  unfold w_X7_noteOf at h
  refine ex_iconst (v := (-1)) dX7_noteOf_0 (by decide) ?_
  refine ex_istore_n (L2 := [.ref 46, .int p1, .int (-1), .null, .null]) dX7_noteOf_1 (by decide) rfl rfl ?_
  refine ex_iconst (v := 0) dX7_noteOf_2 (by decide) ?_
  refine ex_istore_n (L2 := [.ref 46, .int p1, .int (-1), .int 0, .null]) dX7_noteOf_3 (by decide) rfl rfl ?_
  obtain ⟨k_, h⟩ := h
  exact t_X7_noteOf_4   Q   k_ p1 (-1) 0 M h
def w_X7_signOf (p1 : Int32) (M : Mem) (Q : Int32 → Mem → Prop) : Prop := ∀ z1 : Int32, z1 = (if p1 = 41 then 1 else (if p1 = 35 then 2 else (if p1 = 33 then 3 else 0))) → Q z1 M
theorem t_X7_signOf (p1 : Int32) (M : Mem) (Q : Int32 → Mem → Prop) (h : w_X7_signOf  p1 M Q) : Ex true mX7_signOf 78 78 0 0 0 [.int p1] [] M Q := by
  unfold w_X7_signOf at h
  refine ex_iload_n dX7_signOf_0 rfl ?_
  refine ex_bipush (v := 41) dX7_signOf_1 (by decide) ?_
  have hJ2 : ∀ z1 : Int32, z1 = (if p1 = 41 then 1 else (if p1 = 35 then 2 else (if p1 = 33 then 3 else 0))) → Ex true mX7_signOf 78 78 0 0 31 [.int p1] [.int z1] M Q := by
    intro z1 ez1
    replace h := h z1 ez1
    exact ex_iret dX7_signOf_31 rfl rfl rfl h
  refine ex_icmp_ne (tgt := 10) dX7_signOf_3 (by decide) (fun c_3 => ?_) (fun c_3 => ?_)
  ·
    refine ex_iload_n dX7_signOf_10 rfl ?_
    refine ex_bipush (v := 35) dX7_signOf_11 (by decide) ?_
    refine ex_icmp_ne (tgt := 20) dX7_signOf_13 (by decide) (fun c_13 => ?_) (fun c_13 => ?_)
    ·
      refine ex_iload_n dX7_signOf_20 rfl ?_
      refine ex_bipush (v := 33) dX7_signOf_21 (by decide) ?_
      refine ex_icmp_ne (tgt := 30) dX7_signOf_23 (by decide) (fun c_23 => ?_) (fun c_23 => ?_)
      ·
        refine ex_iconst (v := 0) dX7_signOf_30 (by decide) ?_
        exact hJ2 _ (by rw [if_neg c_3, if_neg c_13, if_neg c_23])
      ·
        refine ex_iconst (v := 3) dX7_signOf_26 (by decide) ?_
        refine ex_goto (tgt := 31) dX7_signOf_27 (by decide) ?_
        exact hJ2 _ (by rw [if_neg c_3, if_neg c_13, if_pos c_23])
    ·
      refine ex_iconst (v := 2) dX7_signOf_16 (by decide) ?_
      refine ex_goto (tgt := 31) dX7_signOf_17 (by decide) ?_
      exact hJ2 _ (by rw [if_neg c_3, if_pos c_13])
  ·
    refine ex_iconst (v := 1) dX7_signOf_6 (by decide) ?_
    refine ex_goto (tgt := 31) dX7_signOf_7 (by decide) ?_
    exact hJ2 _ (by rw [if_pos c_3])
def w_X7_isNote (p1 : Int32) (M : Mem) (Q : Int32 → Mem → Prop) : Prop := w_X7_noteOf p1 M (fun v1 M2 => ∀ z3 : Int32, z3 = (if v1 < 0 then 0 else 1) → (z3 = 0 ∨ z3 = 1) ∧ (Q z3 M2))
theorem t_X7_isNote (p1 : Int32) (M : Mem) (Q : Int32 → Mem → Prop) (h : w_X7_isNote  p1 M Q) : Ex true mX7_isNote 78 78 0 0 0 [.ref 46, .int p1] [] M Q := by
  unfold w_X7_isNote at h
  refine ex_aload_n dX7_isNote_0 rfl ?_
  refine ex_iload_n dX7_isNote_1 rfl ?_
  refine ex_invV (k := 46) (ci := 7) (as := [.int p1]) (L2 := [.ref 46, .int p1, .null, .null, .null]) (st := []) 0 0 dX7_isNote_2 lk_X7_123 sl_X7_noteOf (rmK_of rfl) (by decide) rfl ⟨by decide, rfl⟩ rfl (Nat.le_of_ble_eq_true rfl) (Nat.le_of_ble_eq_true rfl) (t_X7_noteOf   p1 M _ h) (fun v1 M2 h => ?_)
  show Ex true mX7_isNote 78 78 0 0 5 [.ref 46, .int p1] [.int v1] M2 Q
  have hJ5 : ∀ z3 : Int32, z3 = (if v1 < 0 then 0 else 1) → Ex true mX7_isNote 78 78 0 0 13 [.ref 46, .int p1] [.int z3] M2 Q := by
    intro z3 ez3
    replace h := h z3 ez3
    obtain ⟨b4, h⟩ := h
    exact ex_iret dX7_isNote_13 rfl (nr01 b4) rfl h
  refine ex_if_lt (tgt := 12) dX7_isNote_5 (by decide) (fun c_5 => ?_) (fun c_5 => ?_)
  ·
    refine ex_iconst (v := 0) dX7_isNote_12 (by decide) ?_
    exact hJ5 _ (by rw [if_pos c_5])
  ·
    refine ex_iconst (v := 1) dX7_isNote_8 (by decide) ?_
    refine ex_goto (tgt := 13) dX7_isNote_9 (by decide) ?_
    exact hJ5 _ (by rw [if_neg c_5])
def w_X7_isOctave (p1 : Int32) (M : Mem) (Q : Int32 → Mem → Prop) : Prop := w_X7_find 50 p1 M (fun v1 M2 => ∀ z3 : Int32, z3 = (if v1 < 0 then 0 else 1) → (z3 = 0 ∨ z3 = 1) ∧ (Q z3 M2))
theorem t_X7_isOctave (p1 : Int32) (M : Mem) (Q : Int32 → Mem → Prop) (h : w_X7_isOctave  p1 M Q) : Ex true mX7_isOctave 78 78 0 0 0 [.ref 46, .int p1] [] M Q := by
  unfold w_X7_isOctave at h
  refine ex_aload_n dX7_isOctave_0 rfl ?_
  refine ex_getR (ci := 7) (j := 3) (v := 50) dX7_isOctave_1 (by decide) rfl rfl lk_X7_19 rfl (by decide) ?_
  refine ex_iload_n dX7_isOctave_4 rfl ?_
  refine ex_invS (as := [.ref 50, .int p1]) (L2 := [.ref 50, .int p1, .null]) (st := []) 0 0 dX7_isOctave_5 lk_X7_126 sl_X7_find (rmK_of rfl) rfl (Nat.le_of_ble_eq_true rfl) (Nat.le_of_ble_eq_true rfl) (t_X7_find 50 (fa_d rfl) p1 M _ h) (fun v1 M2 h => ?_)
  show Ex true mX7_isOctave 78 78 0 0 8 [.ref 46, .int p1] [.int v1] M2 Q
  have hJ5 : ∀ z3 : Int32, z3 = (if v1 < 0 then 0 else 1) → Ex true mX7_isOctave 78 78 0 0 16 [.ref 46, .int p1] [.int z3] M2 Q := by
    intro z3 ez3
    replace h := h z3 ez3
    obtain ⟨b4, h⟩ := h
    exact ex_iret dX7_isOctave_16 rfl (nr01 b4) rfl h
  refine ex_if_lt (tgt := 15) dX7_isOctave_8 (by decide) (fun c_8 => ?_) (fun c_8 => ?_)
  ·
    refine ex_iconst (v := 0) dX7_isOctave_15 (by decide) ?_
    exact hJ5 _ (by rw [if_pos c_8])
  ·
    refine ex_iconst (v := 1) dX7_isOctave_11 (by decide) ?_
    refine ex_goto (tgt := 16) dX7_isOctave_12 (by decide) ?_
    exact hJ5 _ (by rw [if_neg c_8])
def w_X7_wantsSign (p1 : Int32) (p2 : Int32) (M : Mem) (Q : Int32 → Mem → Prop) : Prop := ∀ z1 : Int32, z1 = (if p1 ≤ p2 then (p2 - p1) else (p1 - p2)) → ∀ z2 : Int32, z2 = (if 4 < z1 then 1 else (if z1 ≤ 2 then 0 else (if (p1 / 7) = (p2 / 7) then 0 else 1))) → (z2 = 0 ∨ z2 = 1) ∧ (Q z2 M)
theorem t_X7_wantsSign (p1 : Int32) (p2 : Int32) (M : Mem) (Q : Int32 → Mem → Prop) (h : w_X7_wantsSign  p1 p2 M Q) : Ex true mX7_wantsSign 78 78 0 0 0 [.int p1, .int p2, .null] [] M Q := by
  unfold w_X7_wantsSign at h
  refine ex_iload_n dX7_wantsSign_0 rfl ?_
  refine ex_iload_n dX7_wantsSign_1 rfl ?_
  have hJ5 : ∀ z1 : Int32, z1 = (if p1 ≤ p2 then (p2 - p1) else (p1 - p2)) → Ex true mX7_wantsSign 78 78 0 0 14 [.int p1, .int p2, .null] [.int z1] M Q := by
    intro z1 ez1
    replace h := h z1 ez1
    refine ex_istore_n (L2 := [.int p1, .int p2, .int z1]) dX7_wantsSign_14 (by decide) rfl rfl ?_
    refine ex_iload_n dX7_wantsSign_15 rfl ?_
    refine ex_iconst (v := 4) dX7_wantsSign_16 (by decide) ?_
    have hJ4 : ∀ z2 : Int32, z2 = (if 4 < z1 then 1 else (if z1 ≤ 2 then 0 else (if (p1 / 7) = (p2 / 7) then 0 else 1))) → Ex true mX7_wantsSign 78 78 0 0 41 [.int p1, .int p2, .int z1] [.int z2] M Q := by
      intro z2 ez2
      replace h := h z2 ez2
      obtain ⟨b3, h⟩ := h
      exact ex_iret dX7_wantsSign_41 rfl (nr01 b3) rfl h
    refine ex_icmp_gt (tgt := 36) dX7_wantsSign_17 (by decide) (fun c_17 => ?_) (fun c_17 => ?_)
    ·
      refine ex_iconst (v := 1) dX7_wantsSign_36 (by decide) ?_
      refine ex_goto (tgt := 41) dX7_wantsSign_37 (by decide) ?_
      exact hJ4 _ (by rw [if_pos c_17])
    ·
      refine ex_iload_n dX7_wantsSign_20 rfl ?_
      refine ex_iconst (v := 2) dX7_wantsSign_21 (by decide) ?_
      refine ex_icmp_le (tgt := 40) dX7_wantsSign_22 (by decide) (fun c_22 => ?_) (fun c_22 => ?_)
      ·
        refine ex_iconst (v := 0) dX7_wantsSign_40 (by decide) ?_
        exact hJ4 _ (by rw [if_neg c_17, if_pos c_22])
      ·
        refine ex_iload_n dX7_wantsSign_25 rfl ?_
        refine ex_bipush (v := 7) dX7_wantsSign_26 (by decide) ?_
        refine ex_idiv dX7_wantsSign_28 (by decide) ?_
        refine ex_iload_n dX7_wantsSign_29 rfl ?_
        refine ex_bipush (v := 7) dX7_wantsSign_30 (by decide) ?_
        refine ex_idiv dX7_wantsSign_32 (by decide) ?_
        refine ex_icmp_eq (tgt := 40) dX7_wantsSign_33 (by decide) (fun c_33 => ?_) (fun c_33 => ?_)
        ·
          refine ex_iconst (v := 0) dX7_wantsSign_40 (by decide) ?_
          exact hJ4 _ (by rw [if_neg c_17, if_neg c_22, if_pos c_33])
        ·
          refine ex_iconst (v := 1) dX7_wantsSign_36 (by decide) ?_
          refine ex_goto (tgt := 41) dX7_wantsSign_37 (by decide) ?_
          exact hJ4 _ (by rw [if_neg c_17, if_neg c_22, if_neg c_33])
  refine ex_icmp_le (tgt := 11) dX7_wantsSign_2 (by decide) (fun c_2 => ?_) (fun c_2 => ?_)
  ·
    refine ex_iload_n dX7_wantsSign_11 rfl ?_
    refine ex_iload_n dX7_wantsSign_12 rfl ?_
    refine ex_isub dX7_wantsSign_13 ?_
    exact hJ5 _ (by rw [if_pos c_2])
  ·
    refine ex_iload_n dX7_wantsSign_5 rfl ?_
    refine ex_iload_n dX7_wantsSign_6 rfl ?_
    refine ex_isub dX7_wantsSign_7 ?_
    refine ex_goto (tgt := 14) dX7_wantsSign_8 (by decide) ?_
    exact hJ5 _ (by rw [if_neg c_2])
def w_X7_begins_150 (Q : Int32 → Mem → Prop) (l1 : Int32) (l2 : Int32) (l3 : Int32) (l4 : Int32) (l5 : Int32) (M : Mem) : Prop := (¬ (l4 = 0) → (((l5 = 0) → (∀ z18 : Int32, z18 = (if 0 ≤ (M 46 25) then (-1) else 1) → Q z18 M)) ∧ (¬ (l5 = 0) → (w_X7_peek ((M 46 24) + 2) M (fun v20 M21 => ((v20 = 2) → (∀ z22 : Int32, z22 = (if 0 ≤ (M21 46 25) then (-1) else 1) → Q z22 M21)) ∧ (¬ (v20 = 2) → (w_X7_fail ((M21 46 24) + 2) M21 (fun v24 M25 => ∀ z26 : Int32, z26 = (if 0 ≤ (M25 46 25) then (-1) else 1) → Q z26 M25)))))))) ∧ ((l4 = 0) → (w_X7_fail ((M 46 24) + 1) M (fun v28 M29 => ∀ z30 : Int32, z30 = (if 0 ≤ (M29 46 25) then (-1) else 1) → Q z30 M29)))
theorem t_X7_begins_150 (Q : Int32 → Mem → Prop) (l1 : Int32) (l2 : Int32) (l3 : Int32) (l4 : Int32) (l5 : Int32) (M : Mem) (h : w_X7_begins_150  Q  l1 l2 l3 l4 l5 M) : Ex true mX7_begins 78 78 0 0 150 [.ref 46, .int l1, .int l2, .int l3, .int l4, .int l5] [] M Q := by
  unfold w_X7_begins_150 at h
  refine ex_iload dX7_begins_150 rfl ?_
  refine ex_if_ne (tgt := 168) dX7_begins_152 (by decide) (fun c_152 => ?_) (fun c_152 => ?_)
  · replace h := h.1 c_152
    refine ex_iload dX7_begins_168 rfl ?_
    refine ex_if_eq (tgt := 197) dX7_begins_170 (by decide) (fun c_170 => ?_) (fun c_170 => ?_)
    · replace h := h.1 c_170
      refine ex_aload_n dX7_begins_197 rfl ?_
      refine ex_getI (ci := 7) (j := 25) dX7_begins_198 (by decide) rfl rfl lk_X7_120 ?_
      have hJ19 : ∀ z18 : Int32, z18 = (if 0 ≤ (M 46 25) then (-1) else 1) → Ex true mX7_begins 78 78 0 0 209 [.ref 46, .int l1, .int l2, .int l3, .int l4, .int l5] [.int z18] M Q := by
        intro z18 ez18
        replace h := h z18 ez18
        exact ex_iret dX7_begins_209 rfl rfl rfl h
      refine ex_if_ge (tgt := 208) dX7_begins_201 (by decide) (fun c_201 => ?_) (fun c_201 => ?_)
      ·
        refine ex_iconst (v := (-1)) dX7_begins_208 (by decide) ?_
        exact hJ19 _ (by rw [if_pos c_201])
      ·
        refine ex_iconst (v := 1) dX7_begins_204 (by decide) ?_
        refine ex_goto (tgt := 209) dX7_begins_205 (by decide) ?_
        exact hJ19 _ (by rw [if_neg c_201])
    · replace h := h.2 c_170
      refine ex_aload_n dX7_begins_173 rfl ?_
      refine ex_aload_n dX7_begins_174 rfl ?_
      refine ex_getI (ci := 7) (j := 24) dX7_begins_175 (by decide) rfl rfl lk_X7_130 ?_
      refine ex_iconst (v := 2) dX7_begins_178 (by decide) ?_
      refine ex_iadd dX7_begins_179 ?_
      refine ex_invV (k := 46) (ci := 7) (as := [.int ((M 46 24) + 2)]) (L2 := [.ref 46, .int ((M 46 24) + 2)]) (st := []) 0 0 dX7_begins_180 lk_X7_133 sl_X7_peek (rmK_of rfl) (by decide) rfl ⟨by decide, rfl⟩ rfl (Nat.le_of_ble_eq_true rfl) (Nat.le_of_ble_eq_true rfl) (t_X7_peek   ((M 46 24) + 2) M _ h) (fun v20 M21 h => ?_)
      show Ex true mX7_begins 78 78 0 0 183 [.ref 46, .int l1, .int l2, .int l3, .int l4, .int l5] [.int v20] M21 Q
      refine ex_iconst (v := 2) dX7_begins_183 (by decide) ?_
      refine ex_icmp_eq (tgt := 197) dX7_begins_184 (by decide) (fun c_184 => ?_) (fun c_184 => ?_)
      · replace h := h.1 c_184
        refine ex_aload_n dX7_begins_197 rfl ?_
        refine ex_getI (ci := 7) (j := 25) dX7_begins_198 (by decide) rfl rfl lk_X7_120 ?_
        have hJ23 : ∀ z22 : Int32, z22 = (if 0 ≤ (M21 46 25) then (-1) else 1) → Ex true mX7_begins 78 78 0 0 209 [.ref 46, .int l1, .int l2, .int l3, .int l4, .int l5] [.int z22] M21 Q := by
          intro z22 ez22
          replace h := h z22 ez22
          exact ex_iret dX7_begins_209 rfl rfl rfl h
        refine ex_if_ge (tgt := 208) dX7_begins_201 (by decide) (fun c_201 => ?_) (fun c_201 => ?_)
        ·
          refine ex_iconst (v := (-1)) dX7_begins_208 (by decide) ?_
          exact hJ23 _ (by rw [if_pos c_201])
        ·
          refine ex_iconst (v := 1) dX7_begins_204 (by decide) ?_
          refine ex_goto (tgt := 209) dX7_begins_205 (by decide) ?_
          exact hJ23 _ (by rw [if_neg c_201])
      · replace h := h.2 c_184
        refine ex_aload_n dX7_begins_187 rfl ?_
        refine ex_aload_n dX7_begins_188 rfl ?_
        refine ex_getI (ci := 7) (j := 24) dX7_begins_189 (by decide) rfl rfl lk_X7_130 ?_
        refine ex_iconst (v := 2) dX7_begins_192 (by decide) ?_
        refine ex_iadd dX7_begins_193 ?_
        refine ex_invV (k := 46) (ci := 7) (as := [.int ((M21 46 24) + 2)]) (L2 := [.ref 46, .int ((M21 46 24) + 2)]) (st := []) 0 0 dX7_begins_194 lk_X7_146 sl_X7_fail (rmK_of rfl) (by decide) rfl ⟨by decide, rfl⟩ rfl (Nat.le_of_ble_eq_true rfl) (Nat.le_of_ble_eq_true rfl) (t_X7_fail   ((M21 46 24) + 2) M21 _ h) (fun v24 M25 h => ?_)
        show Ex true mX7_begins 78 78 0 0 197 [.ref 46, .int l1, .int l2, .int l3, .int l4, .int l5] [] M25 Q
        refine ex_aload_n dX7_begins_197 rfl ?_
        refine ex_getI (ci := 7) (j := 25) dX7_begins_198 (by decide) rfl rfl lk_X7_120 ?_
        have hJ27 : ∀ z26 : Int32, z26 = (if 0 ≤ (M25 46 25) then (-1) else 1) → Ex true mX7_begins 78 78 0 0 209 [.ref 46, .int l1, .int l2, .int l3, .int l4, .int l5] [.int z26] M25 Q := by
          intro z26 ez26
          replace h := h z26 ez26
          exact ex_iret dX7_begins_209 rfl rfl rfl h
        refine ex_if_ge (tgt := 208) dX7_begins_201 (by decide) (fun c_201 => ?_) (fun c_201 => ?_)
        ·
          refine ex_iconst (v := (-1)) dX7_begins_208 (by decide) ?_
          exact hJ27 _ (by rw [if_pos c_201])
        ·
          refine ex_iconst (v := 1) dX7_begins_204 (by decide) ?_
          refine ex_goto (tgt := 209) dX7_begins_205 (by decide) ?_
          exact hJ27 _ (by rw [if_neg c_201])
  · replace h := h.2 c_152
    refine ex_aload_n dX7_begins_155 rfl ?_
    refine ex_aload_n dX7_begins_156 rfl ?_
    refine ex_getI (ci := 7) (j := 24) dX7_begins_157 (by decide) rfl rfl lk_X7_130 ?_
    refine ex_iconst (v := 1) dX7_begins_160 (by decide) ?_
    refine ex_iadd dX7_begins_161 ?_
    refine ex_invV (k := 46) (ci := 7) (as := [.int ((M 46 24) + 1)]) (L2 := [.ref 46, .int ((M 46 24) + 1)]) (st := []) 0 0 dX7_begins_162 lk_X7_146 sl_X7_fail (rmK_of rfl) (by decide) rfl ⟨by decide, rfl⟩ rfl (Nat.le_of_ble_eq_true rfl) (Nat.le_of_ble_eq_true rfl) (t_X7_fail   ((M 46 24) + 1) M _ h) (fun v28 M29 h => ?_)
    show Ex true mX7_begins 78 78 0 0 165 [.ref 46, .int l1, .int l2, .int l3, .int l4, .int l5] [] M29 Q
    refine ex_goto (tgt := 197) dX7_begins_165 (by decide) ?_
    refine ex_aload_n dX7_begins_197 rfl ?_
    refine ex_getI (ci := 7) (j := 25) dX7_begins_198 (by decide) rfl rfl lk_X7_120 ?_
    have hJ31 : ∀ z30 : Int32, z30 = (if 0 ≤ (M29 46 25) then (-1) else 1) → Ex true mX7_begins 78 78 0 0 209 [.ref 46, .int l1, .int l2, .int l3, .int l4, .int l5] [.int z30] M29 Q := by
      intro z30 ez30
      replace h := h z30 ez30
      exact ex_iret dX7_begins_209 rfl rfl rfl h
    refine ex_if_ge (tgt := 208) dX7_begins_201 (by decide) (fun c_201 => ?_) (fun c_201 => ?_)
    ·
      refine ex_iconst (v := (-1)) dX7_begins_208 (by decide) ?_
      exact hJ31 _ (by rw [if_pos c_201])
    ·
      refine ex_iconst (v := 1) dX7_begins_204 (by decide) ?_
      refine ex_goto (tgt := 209) dX7_begins_205 (by decide) ?_
      exact hJ31 _ (by rw [if_neg c_201])
def w_X7_begins (p1 : Int32) (M : Mem) (Q : Int32 → Mem → Prop) : Prop := w_X7_peek (M 46 24) M (fun v1 M2 => w_X7_peek ((M2 46 24) + 1) M2 (fun v3 M4 => w_X7_find 49 v1 M4 (fun v5 M6 => ((0 ≤ v5) → (Q 1 M6)) ∧ (¬ (0 ≤ v5) → (w_X7_isNote v1 M6 (fun v7 M8 => ((v7 = 0) → (w_X7_isNote v3 M8 (fun v9 M10 => w_X7_signOf v1 M10 (fun v11 M12 => ((v11 ≤ 0) → (w_X7_isOctave v1 M12 (fun v13 M14 => ((v13 = 0) → (Q 0 M14)) ∧ (¬ (v13 = 0) → (∀ z15 : Int32, z15 = (if v1 = 24 then (if v3 = 35 then 1 else 0) else (if v1 = 32 then (if v3 = 35 then 1 else 0) else 0)) → ∀ z16 : Int32, z16 = (if z15 = 0 then (if v1 = 48 then (if v3 = 3 then 1 else 0) else 0) else 1) → ∀ x17 : Int32, x17 = (v9 ||| z16) → w_X7_begins_150  Q  p1 v1 v3 x17 z15 M14))))) ∧ (¬ (v11 ≤ 0) → (w_X7_isOctave v3 M12 (fun v34 M35 => ∀ x36 : Int32, x36 = (v9 ||| v34) → (¬ (v1 = 35) → (w_X7_begins_150  Q  p1 v1 v3 x36 0 M35)) ∧ ((v1 = 35) → ((¬ (v3 = 28) → (w_X7_begins_150  Q  p1 v1 v3 x36 0 M35)) ∧ ((v3 = 28) → (((p1 = 0) → (w_X7_begins_150  Q  p1 v1 v3 x36 0 M35)) ∧ (¬ (p1 = 0) → (Q 0 M35))))))))))))) ∧ (¬ (v7 = 0) → (Q 1 M8))))))))
theorem t_X7_begins (p1 : Int32) (M : Mem) (Q : Int32 → Mem → Prop) (h : w_X7_begins  p1 M Q) : Ex true mX7_begins 78 78 0 0 0 [.ref 46, .int p1, .null, .null, .null, .null] [] M Q := by
  unfold w_X7_begins at h
  refine ex_aload_n dX7_begins_0 rfl ?_
  refine ex_aload_n dX7_begins_1 rfl ?_
  refine ex_getI (ci := 7) (j := 24) dX7_begins_2 (by decide) rfl rfl lk_X7_130 ?_
  refine ex_invV (k := 46) (ci := 7) (as := [.int (M 46 24)]) (L2 := [.ref 46, .int (M 46 24)]) (st := []) 0 0 dX7_begins_5 lk_X7_133 sl_X7_peek (rmK_of rfl) (by decide) rfl ⟨by decide, rfl⟩ rfl (Nat.le_of_ble_eq_true rfl) (Nat.le_of_ble_eq_true rfl) (t_X7_peek   (M 46 24) M _ h) (fun v1 M2 h => ?_)
  show Ex true mX7_begins 78 78 0 0 8 [.ref 46, .int p1, .null, .null, .null, .null] [.int v1] M2 Q
  refine ex_istore_n (L2 := [.ref 46, .int p1, .int v1, .null, .null, .null]) dX7_begins_8 (by decide) rfl rfl ?_
  refine ex_aload_n dX7_begins_9 rfl ?_
  refine ex_aload_n dX7_begins_10 rfl ?_
  refine ex_getI (ci := 7) (j := 24) dX7_begins_11 (by decide) rfl rfl lk_X7_130 ?_
  refine ex_iconst (v := 1) dX7_begins_14 (by decide) ?_
  refine ex_iadd dX7_begins_15 ?_
  refine ex_invV (k := 46) (ci := 7) (as := [.int ((M2 46 24) + 1)]) (L2 := [.ref 46, .int ((M2 46 24) + 1)]) (st := []) 0 0 dX7_begins_16 lk_X7_133 sl_X7_peek (rmK_of rfl) (by decide) rfl ⟨by decide, rfl⟩ rfl (Nat.le_of_ble_eq_true rfl) (Nat.le_of_ble_eq_true rfl) (t_X7_peek   ((M2 46 24) + 1) M2 _ h) (fun v3 M4 h => ?_)
  show Ex true mX7_begins 78 78 0 0 19 [.ref 46, .int p1, .int v1, .null, .null, .null] [.int v3] M4 Q
  refine ex_istore_n (L2 := [.ref 46, .int p1, .int v1, .int v3, .null, .null]) dX7_begins_19 (by decide) rfl rfl ?_
  refine ex_aload_n dX7_begins_20 rfl ?_
  refine ex_getR (ci := 7) (j := 2) (v := 49) dX7_begins_21 (by decide) rfl rfl lk_X7_16 rfl (by decide) ?_
  refine ex_iload_n dX7_begins_24 rfl ?_
  refine ex_invS (as := [.ref 49, .int v1]) (L2 := [.ref 49, .int v1, .null]) (st := []) 0 0 dX7_begins_25 lk_X7_126 sl_X7_find (rmK_of rfl) rfl (Nat.le_of_ble_eq_true rfl) (Nat.le_of_ble_eq_true rfl) (t_X7_find 49 (fa_d rfl) v1 M4 _ h) (fun v5 M6 h => ?_)
  show Ex true mX7_begins 78 78 0 0 28 [.ref 46, .int p1, .int v1, .int v3, .null, .null] [.int v5] M6 Q
  refine ex_if_ge (tgt := 39) dX7_begins_28 (by decide) (fun c_28 => ?_) (fun c_28 => ?_)
  · replace h := h.1 c_28
    refine ex_iconst (v := 1) dX7_begins_39 (by decide) ?_
    exact ex_iret dX7_begins_40 rfl rfl rfl h
  · replace h := h.2 c_28
    refine ex_aload_n dX7_begins_31 rfl ?_
    refine ex_iload_n dX7_begins_32 rfl ?_
    refine ex_invV (k := 46) (ci := 7) (as := [.int v1]) (L2 := [.ref 46, .int v1]) (st := []) 0 0 dX7_begins_33 lk_X7_136 sl_X7_isNote (rmK_of rfl) (by decide) rfl ⟨by decide, rfl⟩ rfl (Nat.le_of_ble_eq_true rfl) (Nat.le_of_ble_eq_true rfl) (t_X7_isNote   v1 M6 _ h) (fun v7 M8 h => ?_)
    show Ex true mX7_begins 78 78 0 0 36 [.ref 46, .int p1, .int v1, .int v3, .null, .null] [.int v7] M8 Q
    refine ex_if_eq (tgt := 41) dX7_begins_36 (by decide) (fun c_36 => ?_) (fun c_36 => ?_)
    · replace h := h.1 c_36
      refine ex_aload_n dX7_begins_41 rfl ?_
      refine ex_iload_n dX7_begins_42 rfl ?_
      refine ex_invV (k := 46) (ci := 7) (as := [.int v3]) (L2 := [.ref 46, .int v3]) (st := []) 0 0 dX7_begins_43 lk_X7_136 sl_X7_isNote (rmK_of rfl) (by decide) rfl ⟨by decide, rfl⟩ rfl (Nat.le_of_ble_eq_true rfl) (Nat.le_of_ble_eq_true rfl) (t_X7_isNote   v3 M8 _ h) (fun v9 M10 h => ?_)
      show Ex true mX7_begins 78 78 0 0 46 [.ref 46, .int p1, .int v1, .int v3, .null, .null] [.int v9] M10 Q
      refine ex_istore (L2 := [.ref 46, .int p1, .int v1, .int v3, .int v9, .null]) dX7_begins_46 (by decide) rfl rfl ?_
      refine ex_iconst (v := 0) dX7_begins_48 (by decide) ?_
      refine ex_istore (L2 := [.ref 46, .int p1, .int v1, .int v3, .int v9, .int 0]) dX7_begins_49 (by decide) rfl rfl ?_
      refine ex_iload_n dX7_begins_51 rfl ?_
      refine ex_invS (as := [.int v1]) (L2 := [.int v1]) (st := []) 0 0 dX7_begins_52 lk_X7_140 sl_X7_signOf (rmK_of rfl) rfl (Nat.le_of_ble_eq_true rfl) (Nat.le_of_ble_eq_true rfl) (t_X7_signOf   v1 M10 _ h) (fun v11 M12 h => ?_)
      show Ex true mX7_begins 78 78 0 0 55 [.ref 46, .int p1, .int v1, .int v3, .int v9, .int 0] [.int v11] M12 Q
      refine ex_if_le (tgt := 86) dX7_begins_55 (by decide) (fun c_55 => ?_) (fun c_55 => ?_)
      · replace h := h.1 c_55
        refine ex_aload_n dX7_begins_86 rfl ?_
        refine ex_iload_n dX7_begins_87 rfl ?_
        refine ex_invV (k := 46) (ci := 7) (as := [.int v1]) (L2 := [.ref 46, .int v1]) (st := []) 0 0 dX7_begins_88 lk_X7_143 sl_X7_isOctave (rmK_of rfl) (by decide) rfl ⟨by decide, rfl⟩ rfl (Nat.le_of_ble_eq_true rfl) (Nat.le_of_ble_eq_true rfl) (t_X7_isOctave   v1 M12 _ h) (fun v13 M14 h => ?_)
        show Ex true mX7_begins 78 78 0 0 91 [.ref 46, .int p1, .int v1, .int v3, .int v9, .int 0] [.int v13] M14 Q
        refine ex_if_eq (tgt := 148) dX7_begins_91 (by decide) (fun c_91 => ?_) (fun c_91 => ?_)
        · replace h := h.1 c_91
          refine ex_iconst (v := 0) dX7_begins_148 (by decide) ?_
          exact ex_iret dX7_begins_149 rfl rfl rfl h
        · replace h := h.2 c_91
          refine ex_iload_n dX7_begins_94 rfl ?_
          refine ex_bipush (v := 24) dX7_begins_95 (by decide) ?_
          have hJ33 : ∀ z15 : Int32, z15 = (if v1 = 24 then (if v3 = 35 then 1 else 0) else (if v1 = 32 then (if v3 = 35 then 1 else 0) else 0)) → Ex true mX7_begins 78 78 0 0 117 [.ref 46, .int p1, .int v1, .int v3, .int v9, .int 0] [.int z15] M14 Q := by
            intro z15 ez15
            replace h := h z15 ez15
            refine ex_istore (L2 := [.ref 46, .int p1, .int v1, .int v3, .int v9, .int z15]) dX7_begins_117 (by decide) rfl rfl ?_
            refine ex_iload dX7_begins_119 rfl ?_
            refine ex_iload dX7_begins_121 rfl ?_
            have hJ32 : ∀ z16 : Int32, z16 = (if z15 = 0 then (if v1 = 48 then (if v3 = 3 then 1 else 0) else 0) else 1) → Ex true mX7_begins 78 78 0 0 142 [.ref 46, .int p1, .int v1, .int v3, .int v9, .int z15] [.int z16, .int v9] M14 Q := by
              intro z16 ez16
              replace h := h z16 ez16
              refine ex_ior dX7_begins_142 ?_
              refine ex_top (fun x17 ex17 => ?_)
              replace h := h x17 ex17
              refine ex_istore (L2 := [.ref 46, .int p1, .int v1, .int v3, .int x17, .int z15]) dX7_begins_143 (by decide) rfl rfl ?_
              refine ex_goto (tgt := 150) dX7_begins_145 (by decide) ?_
              exact t_X7_begins_150   Q   p1 v1 v3 x17 z15 M14 h
            refine ex_if_ne (tgt := 137) dX7_begins_123 (by decide) (fun c_123 => ?_) (fun c_123 => ?_)
            ·
              refine ex_iconst (v := 1) dX7_begins_137 (by decide) ?_
              refine ex_goto (tgt := 142) dX7_begins_138 (by decide) ?_
              exact hJ32 _ (by rw [if_neg c_123])
            ·
              refine ex_iload_n dX7_begins_126 rfl ?_
              refine ex_bipush (v := 48) dX7_begins_127 (by decide) ?_
              refine ex_icmp_ne (tgt := 141) dX7_begins_129 (by decide) (fun c_129 => ?_) (fun c_129 => ?_)
              ·
                refine ex_iconst (v := 0) dX7_begins_141 (by decide) ?_
                exact hJ32 _ (by rw [if_pos c_123, if_neg c_129])
              ·
                refine ex_iload_n dX7_begins_132 rfl ?_
                refine ex_iconst (v := 3) dX7_begins_133 (by decide) ?_
                refine ex_icmp_ne (tgt := 141) dX7_begins_134 (by decide) (fun c_134 => ?_) (fun c_134 => ?_)
                ·
                  refine ex_iconst (v := 0) dX7_begins_141 (by decide) ?_
                  exact hJ32 _ (by rw [if_pos c_123, if_pos c_129, if_neg c_134])
                ·
                  refine ex_iconst (v := 1) dX7_begins_137 (by decide) ?_
                  refine ex_goto (tgt := 142) dX7_begins_138 (by decide) ?_
                  exact hJ32 _ (by rw [if_pos c_123, if_pos c_129, if_pos c_134])
          refine ex_icmp_eq (tgt := 106) dX7_begins_97 (by decide) (fun c_97 => ?_) (fun c_97 => ?_)
          ·
            refine ex_iload_n dX7_begins_106 rfl ?_
            refine ex_bipush (v := 35) dX7_begins_107 (by decide) ?_
            refine ex_icmp_ne (tgt := 116) dX7_begins_109 (by decide) (fun c_109 => ?_) (fun c_109 => ?_)
            ·
              refine ex_iconst (v := 0) dX7_begins_116 (by decide) ?_
              exact hJ33 _ (by rw [if_pos c_97, if_neg c_109])
            ·
              refine ex_iconst (v := 1) dX7_begins_112 (by decide) ?_
              refine ex_goto (tgt := 117) dX7_begins_113 (by decide) ?_
              exact hJ33 _ (by rw [if_pos c_97, if_pos c_109])
          ·
            refine ex_iload_n dX7_begins_100 rfl ?_
            refine ex_bipush (v := 32) dX7_begins_101 (by decide) ?_
            refine ex_icmp_ne (tgt := 116) dX7_begins_103 (by decide) (fun c_103 => ?_) (fun c_103 => ?_)
            ·
              refine ex_iconst (v := 0) dX7_begins_116 (by decide) ?_
              exact hJ33 _ (by rw [if_neg c_97, if_neg c_103])
            ·
              refine ex_iload_n dX7_begins_106 rfl ?_
              refine ex_bipush (v := 35) dX7_begins_107 (by decide) ?_
              refine ex_icmp_ne (tgt := 116) dX7_begins_109 (by decide) (fun c_109 => ?_) (fun c_109 => ?_)
              ·
                refine ex_iconst (v := 0) dX7_begins_116 (by decide) ?_
                exact hJ33 _ (by rw [if_neg c_97, if_pos c_103, if_neg c_109])
              ·
                refine ex_iconst (v := 1) dX7_begins_112 (by decide) ?_
                refine ex_goto (tgt := 117) dX7_begins_113 (by decide) ?_
                exact hJ33 _ (by rw [if_neg c_97, if_pos c_103, if_pos c_109])
      · replace h := h.2 c_55
        refine ex_iload dX7_begins_58 rfl ?_
        refine ex_aload_n dX7_begins_60 rfl ?_
        refine ex_iload_n dX7_begins_61 rfl ?_
        refine ex_invV (k := 46) (ci := 7) (as := [.int v3]) (L2 := [.ref 46, .int v3]) (st := [.int v9]) 0 0 dX7_begins_62 lk_X7_143 sl_X7_isOctave (rmK_of rfl) (by decide) rfl ⟨by decide, rfl⟩ rfl (Nat.le_of_ble_eq_true rfl) (Nat.le_of_ble_eq_true rfl) (t_X7_isOctave   v3 M12 _ h) (fun v34 M35 h => ?_)
        show Ex true mX7_begins 78 78 0 0 65 [.ref 46, .int p1, .int v1, .int v3, .int v9, .int 0] [.int v34, .int v9] M35 Q
        refine ex_ior dX7_begins_65 ?_
        refine ex_top (fun x36 ex36 => ?_)
        replace h := h x36 ex36
        refine ex_istore (L2 := [.ref 46, .int p1, .int v1, .int v3, .int x36, .int 0]) dX7_begins_66 (by decide) rfl rfl ?_
        refine ex_iload_n dX7_begins_68 rfl ?_
        refine ex_bipush (v := 35) dX7_begins_69 (by decide) ?_
        refine ex_icmp_ne (tgt := 150) dX7_begins_71 (by decide) (fun c_71 => ?_) (fun c_71 => ?_)
        · replace h := h.1 c_71
          exact t_X7_begins_150   Q   p1 v1 v3 x36 0 M35 h
        · replace h := h.2 c_71
          refine ex_iload_n dX7_begins_74 rfl ?_
          refine ex_bipush (v := 28) dX7_begins_75 (by decide) ?_
          refine ex_icmp_ne (tgt := 150) dX7_begins_77 (by decide) (fun c_77 => ?_) (fun c_77 => ?_)
          · replace h := h.1 c_77
            exact t_X7_begins_150   Q   p1 v1 v3 x36 0 M35 h
          · replace h := h.2 c_77
            refine ex_iload_n dX7_begins_80 rfl ?_
            refine ex_if_eq (tgt := 150) dX7_begins_81 (by decide) (fun c_81 => ?_) (fun c_81 => ?_)
            · replace h := h.1 c_81
              exact t_X7_begins_150   Q   p1 v1 v3 x36 0 M35 h
            · replace h := h.2 c_81
              refine ex_iconst (v := 0) dX7_begins_84 (by decide) ?_
              exact ex_iret dX7_begins_85 rfl rfl rfl h
    · replace h := h.2 c_36
      refine ex_iconst (v := 1) dX7_begins_39 (by decide) ?_
      exact ex_iret dX7_begins_40 rfl rfl rfl h
def w_X7_ahead_105 (Q : Int32 → Mem → Prop) (l1 : Int32) (M : Mem) : Prop := ∀ M9 : Mem, M9 = (mset M 46 26 1) → ∀ M10 : Mem, M10 = (mset M9 46 24 ((M9 46 24) + 2)) → Q 0 M10
theorem t_X7_ahead_105 (Q : Int32 → Mem → Prop) (l1 : Int32) (M : Mem) (h : w_X7_ahead_105  Q  l1 M) : Ex true mX7_ahead 78 78 0 0 105 [.ref 46, .int l1] [] M Q := by
  unfold w_X7_ahead_105 at h
  refine ex_aload_n dX7_ahead_105 rfl ?_
  refine ex_iconst (v := 1) dX7_ahead_106 (by decide) ?_
  refine ex_putI (ci := 7) (j := 26) dX7_ahead_107 (by decide) rfl rfl lk_X7_153 ⟨rfl, rfl⟩ ?_
  refine ex_nmM (fun M9 eM9 => ?_)
  replace h := h M9 eM9
  refine ex_aload_n dX7_ahead_110 rfl ?_
  refine ex_dup dX7_ahead_111 rfl ?_
  refine ex_getI (ci := 7) (j := 24) dX7_ahead_112 (by decide) rfl rfl lk_X7_130 ?_
  refine ex_iconst (v := 2) dX7_ahead_115 (by decide) ?_
  refine ex_iadd dX7_ahead_116 ?_
  refine ex_putI (ci := 7) (j := 24) dX7_ahead_117 (by decide) rfl rfl lk_X7_130 ⟨rfl, rfl⟩ ?_
  refine ex_nmM (fun M10 eM10 => ?_)
  replace h := h M10 eM10
  exact ex_vret dX7_ahead_120 rfl rfl h
def w_X7_ahead_61 (Q : Int32 → Mem → Prop) (l1 : Int32) (M : Mem) : Prop := w_X7_peek (M 46 24) M (fun v5 M6 => (¬ (v5 = 48) → (Q 0 M6)) ∧ ((v5 = 48) → (w_X7_peek ((M6 46 24) + 1) M6 (fun v7 M8 => (¬ (v7 = 3) → (Q 0 M8)) ∧ ((v7 = 3) → ((((M8 46 26) = 0) → (w_X7_ahead_105  Q  l1 M8)) ∧ (¬ ((M8 46 26) = 0) → (w_X7_fail ((M8 46 24) + 1) M8 (fun v11 M12 => w_X7_ahead_105  Q  l1 M12)))))))))
theorem t_X7_ahead_61 (Q : Int32 → Mem → Prop) (l1 : Int32) (M : Mem) (h : w_X7_ahead_61  Q  l1 M) : Ex true mX7_ahead 78 78 0 0 61 [.ref 46, .int l1] [] M Q := by
  unfold w_X7_ahead_61 at h
  refine ex_aload_n dX7_ahead_61 rfl ?_
  refine ex_aload_n dX7_ahead_62 rfl ?_
  refine ex_getI (ci := 7) (j := 24) dX7_ahead_63 (by decide) rfl rfl lk_X7_130 ?_
  refine ex_invV (k := 46) (ci := 7) (as := [.int (M 46 24)]) (L2 := [.ref 46, .int (M 46 24)]) (st := []) 0 0 dX7_ahead_66 lk_X7_133 sl_X7_peek (rmK_of rfl) (by decide) rfl ⟨by decide, rfl⟩ rfl (Nat.le_of_ble_eq_true rfl) (Nat.le_of_ble_eq_true rfl) (t_X7_peek   (M 46 24) M _ h) (fun v5 M6 h => ?_)
  show Ex true mX7_ahead 78 78 0 0 69 [.ref 46, .int l1] [.int v5] M6 Q
  refine ex_bipush (v := 48) dX7_ahead_69 (by decide) ?_
  refine ex_icmp_ne (tgt := 120) dX7_ahead_71 (by decide) (fun c_71 => ?_) (fun c_71 => ?_)
  · replace h := h.1 c_71
    exact ex_vret dX7_ahead_120 rfl rfl h
  · replace h := h.2 c_71
    refine ex_aload_n dX7_ahead_74 rfl ?_
    refine ex_aload_n dX7_ahead_75 rfl ?_
    refine ex_getI (ci := 7) (j := 24) dX7_ahead_76 (by decide) rfl rfl lk_X7_130 ?_
    refine ex_iconst (v := 1) dX7_ahead_79 (by decide) ?_
    refine ex_iadd dX7_ahead_80 ?_
    refine ex_invV (k := 46) (ci := 7) (as := [.int ((M6 46 24) + 1)]) (L2 := [.ref 46, .int ((M6 46 24) + 1)]) (st := []) 0 0 dX7_ahead_81 lk_X7_133 sl_X7_peek (rmK_of rfl) (by decide) rfl ⟨by decide, rfl⟩ rfl (Nat.le_of_ble_eq_true rfl) (Nat.le_of_ble_eq_true rfl) (t_X7_peek   ((M6 46 24) + 1) M6 _ h) (fun v7 M8 h => ?_)
    show Ex true mX7_ahead 78 78 0 0 84 [.ref 46, .int l1] [.int v7] M8 Q
    refine ex_iconst (v := 3) dX7_ahead_84 (by decide) ?_
    refine ex_icmp_ne (tgt := 120) dX7_ahead_85 (by decide) (fun c_85 => ?_) (fun c_85 => ?_)
    · replace h := h.1 c_85
      exact ex_vret dX7_ahead_120 rfl rfl h
    · replace h := h.2 c_85
      refine ex_aload_n dX7_ahead_88 rfl ?_
      refine ex_getI (ci := 7) (j := 26) dX7_ahead_89 (by decide) rfl rfl lk_X7_153 ?_
      refine ex_if_eq (tgt := 105) dX7_ahead_92 (by decide) (fun c_92 => ?_) (fun c_92 => ?_)
      · replace h := h.1 c_92
        exact t_X7_ahead_105   Q   l1 M8 h
      · replace h := h.2 c_92
        refine ex_aload_n dX7_ahead_95 rfl ?_
        refine ex_aload_n dX7_ahead_96 rfl ?_
        refine ex_getI (ci := 7) (j := 24) dX7_ahead_97 (by decide) rfl rfl lk_X7_130 ?_
        refine ex_iconst (v := 1) dX7_ahead_100 (by decide) ?_
        refine ex_iadd dX7_ahead_101 ?_
        refine ex_invV (k := 46) (ci := 7) (as := [.int ((M8 46 24) + 1)]) (L2 := [.ref 46, .int ((M8 46 24) + 1)]) (st := []) 0 0 dX7_ahead_102 lk_X7_146 sl_X7_fail (rmK_of rfl) (by decide) rfl ⟨by decide, rfl⟩ rfl (Nat.le_of_ble_eq_true rfl) (Nat.le_of_ble_eq_true rfl) (t_X7_fail   ((M8 46 24) + 1) M8 _ h) (fun v11 M12 h => ?_)
        show Ex true mX7_ahead 78 78 0 0 105 [.ref 46, .int l1] [] M12 Q
        exact t_X7_ahead_105   Q   l1 M12 h
def w_X7_ahead_21 (Q : Int32 → Mem → Prop) (l1 : Int32) (M : Mem) : Prop := w_X7_peek ((M 46 24) + 1) M (fun v3 M4 => (¬ (v3 = 35) → (w_X7_ahead_61  Q  l1 M4)) ∧ ((v3 = 35) → (∀ z13 : Int32, z13 = (if l1 = 24 then 0 else 1) → ∀ M14 : Mem, M14 = (mset M4 46 39 z13) → ∀ M15 : Mem, M15 = (mset M14 46 24 ((M14 46 24) + 3)) → w_X7_ahead_61  Q  l1 M15)))
theorem t_X7_ahead_21 (Q : Int32 → Mem → Prop) (l1 : Int32) (M : Mem) (h : w_X7_ahead_21  Q  l1 M) : Ex true mX7_ahead 78 78 0 0 21 [.ref 46, .int l1] [] M Q := by
  unfold w_X7_ahead_21 at h
  refine ex_aload_n dX7_ahead_21 rfl ?_
  refine ex_aload_n dX7_ahead_22 rfl ?_
  refine ex_getI (ci := 7) (j := 24) dX7_ahead_23 (by decide) rfl rfl lk_X7_130 ?_
  refine ex_iconst (v := 1) dX7_ahead_26 (by decide) ?_
  refine ex_iadd dX7_ahead_27 ?_
  refine ex_invV (k := 46) (ci := 7) (as := [.int ((M 46 24) + 1)]) (L2 := [.ref 46, .int ((M 46 24) + 1)]) (st := []) 0 0 dX7_ahead_28 lk_X7_133 sl_X7_peek (rmK_of rfl) (by decide) rfl ⟨by decide, rfl⟩ rfl (Nat.le_of_ble_eq_true rfl) (Nat.le_of_ble_eq_true rfl) (t_X7_peek   ((M 46 24) + 1) M _ h) (fun v3 M4 h => ?_)
  show Ex true mX7_ahead 78 78 0 0 31 [.ref 46, .int l1] [.int v3] M4 Q
  refine ex_bipush (v := 35) dX7_ahead_31 (by decide) ?_
  refine ex_icmp_ne (tgt := 61) dX7_ahead_33 (by decide) (fun c_33 => ?_) (fun c_33 => ?_)
  · replace h := h.1 c_33
    exact t_X7_ahead_61   Q   l1 M4 h
  · replace h := h.2 c_33
    refine ex_aload_n dX7_ahead_36 rfl ?_
    refine ex_iload_n dX7_ahead_37 rfl ?_
    refine ex_bipush (v := 24) dX7_ahead_38 (by decide) ?_
    have hJ16 : ∀ z13 : Int32, z13 = (if l1 = 24 then 0 else 1) → Ex true mX7_ahead 78 78 0 0 48 [.ref 46, .int l1] [.int z13, .ref 46] M4 Q := by
      intro z13 ez13
      replace h := h z13 ez13
      refine ex_putI (ci := 7) (j := 39) dX7_ahead_48 (by decide) rfl rfl lk_X7_150 ⟨rfl, rfl⟩ ?_
      refine ex_nmM (fun M14 eM14 => ?_)
      replace h := h M14 eM14
      refine ex_aload_n dX7_ahead_51 rfl ?_
      refine ex_dup dX7_ahead_52 rfl ?_
      refine ex_getI (ci := 7) (j := 24) dX7_ahead_53 (by decide) rfl rfl lk_X7_130 ?_
      refine ex_iconst (v := 3) dX7_ahead_56 (by decide) ?_
      refine ex_iadd dX7_ahead_57 ?_
      refine ex_putI (ci := 7) (j := 24) dX7_ahead_58 (by decide) rfl rfl lk_X7_130 ⟨rfl, rfl⟩ ?_
      refine ex_nmM (fun M15 eM15 => ?_)
      replace h := h M15 eM15
      exact t_X7_ahead_61   Q   l1 M15 h
    refine ex_icmp_ne (tgt := 47) dX7_ahead_40 (by decide) (fun c_40 => ?_) (fun c_40 => ?_)
    ·
      refine ex_iconst (v := 1) dX7_ahead_47 (by decide) ?_
      exact hJ16 _ (by rw [if_neg c_40])
    ·
      refine ex_iconst (v := 0) dX7_ahead_43 (by decide) ?_
      refine ex_goto (tgt := 48) dX7_ahead_44 (by decide) ?_
      exact hJ16 _ (by rw [if_pos c_40])
def w_X7_ahead (M : Mem) (Q : Int32 → Mem → Prop) : Prop := w_X7_peek (M 46 24) M (fun v1 M2 => ((v1 = 24) → (w_X7_ahead_21  Q  v1 M2)) ∧ (¬ (v1 = 24) → ((¬ (v1 = 32) → (w_X7_ahead_61  Q  v1 M2)) ∧ ((v1 = 32) → (w_X7_ahead_21  Q  v1 M2)))))
theorem t_X7_ahead (M : Mem) (Q : Int32 → Mem → Prop) (h : w_X7_ahead   M Q) : Ex true mX7_ahead 78 78 0 0 0 [.ref 46, .null] [] M Q := by
  unfold w_X7_ahead at h
  refine ex_aload_n dX7_ahead_0 rfl ?_
  refine ex_aload_n dX7_ahead_1 rfl ?_
  refine ex_getI (ci := 7) (j := 24) dX7_ahead_2 (by decide) rfl rfl lk_X7_130 ?_
  refine ex_invV (k := 46) (ci := 7) (as := [.int (M 46 24)]) (L2 := [.ref 46, .int (M 46 24)]) (st := []) 0 0 dX7_ahead_5 lk_X7_133 sl_X7_peek (rmK_of rfl) (by decide) rfl ⟨by decide, rfl⟩ rfl (Nat.le_of_ble_eq_true rfl) (Nat.le_of_ble_eq_true rfl) (t_X7_peek   (M 46 24) M _ h) (fun v1 M2 h => ?_)
  show Ex true mX7_ahead 78 78 0 0 8 [.ref 46, .null] [.int v1] M2 Q
  refine ex_istore_n (L2 := [.ref 46, .int v1]) dX7_ahead_8 (by decide) rfl rfl ?_
  refine ex_iload_n dX7_ahead_9 rfl ?_
  refine ex_bipush (v := 24) dX7_ahead_10 (by decide) ?_
  refine ex_icmp_eq (tgt := 21) dX7_ahead_12 (by decide) (fun c_12 => ?_) (fun c_12 => ?_)
  · replace h := h.1 c_12
    exact t_X7_ahead_21   Q   v1 M2 h
  · replace h := h.2 c_12
    refine ex_iload_n dX7_ahead_15 rfl ?_
    refine ex_bipush (v := 32) dX7_ahead_16 (by decide) ?_
    refine ex_icmp_ne (tgt := 61) dX7_ahead_18 (by decide) (fun c_18 => ?_) (fun c_18 => ?_)
    · replace h := h.1 c_18
      exact t_X7_ahead_61   Q   v1 M2 h
    · replace h := h.2 c_18
      exact t_X7_ahead_21   Q   v1 M2 h
def w_X7_readNote_251 (Q : Int32 → Mem → Prop) (l1 : Int32) (l2 : Int32) (l3 : Int32) (l4 : Int32) (M : Mem) : Prop := ∀ M27 : Mem, M27 = (mset M 46 27 0) → (vp_in l1 1200) ∧ (∀ M29 : Mem, M29 = (mset M27 46 28 (M27 60 (Int32.toNatClampNeg l1))) → ∀ M30 : Mem, M30 = (mset M29 46 24 ((M29 46 24) + 1)) → Q 0 M30)
theorem t_X7_readNote_251 (Q : Int32 → Mem → Prop) (l1 : Int32) (l2 : Int32) (l3 : Int32) (l4 : Int32) (M : Mem) (h : w_X7_readNote_251  Q  l1 l2 l3 l4 M) : Ex true mX7_readNote 78 78 0 0 251 [.ref 46, .int l1, .int l2, .int l3, .int l4, .null, .null] [] M Q := by
  unfold w_X7_readNote_251 at h
  refine ex_aload_n dX7_readNote_251 rfl ?_
  refine ex_iconst (v := 0) dX7_readNote_252 (by decide) ?_
  refine ex_putI (ci := 7) (j := 27) dX7_readNote_253 (by decide) rfl rfl lk_X7_157 ⟨rfl, rfl⟩ ?_
  refine ex_nmM (fun M27 eM27 => ?_)
  replace h := h M27 eM27
  refine ex_aload_n dX7_readNote_256 rfl ?_
  refine ex_aload_n dX7_readNote_257 rfl ?_
  refine ex_getR (ci := 7) (j := 15) (v := 60) dX7_readNote_258 (by decide) rfl rfl lk_X7_53 rfl (by decide) ?_
  refine ex_iload_n dX7_readNote_261 rfl ?_
  obtain ⟨b28, h⟩ := h
  refine ex_iald dX7_readNote_262 (by decide) rfl b28 ?_
  refine ex_putI (ci := 7) (j := 28) dX7_readNote_263 (by decide) rfl rfl lk_X7_160 ⟨rfl, rfl⟩ ?_
  refine ex_nmM (fun M29 eM29 => ?_)
  replace h := h M29 eM29
  refine ex_aload_n dX7_readNote_266 rfl ?_
  refine ex_dup dX7_readNote_267 rfl ?_
  refine ex_getI (ci := 7) (j := 24) dX7_readNote_268 (by decide) rfl rfl lk_X7_130 ?_
  refine ex_iconst (v := 1) dX7_readNote_271 (by decide) ?_
  refine ex_iadd dX7_readNote_272 ?_
  refine ex_putI (ci := 7) (j := 24) dX7_readNote_273 (by decide) rfl rfl lk_X7_130 ⟨rfl, rfl⟩ ?_
  refine ex_nmM (fun M30 eM30 => ?_)
  replace h := h M30 eM30
  exact ex_vret dX7_readNote_276 rfl rfl h
def w_X7_readNote_243 (Q : Int32 → Mem → Prop) (l1 : Int32) (l2 : Int32) (l3 : Int32) (l4 : Int32) (l5 : Int32) (l6 : Int32) (M : Mem) : Prop := w_X7_fail (M 46 24) M (fun v25 M26 => w_X7_readNote_251  Q  l1 l2 l3 l4 M26)
theorem t_X7_readNote_243 (Q : Int32 → Mem → Prop) (l1 : Int32) (l2 : Int32) (l3 : Int32) (l4 : Int32) (l5 : Int32) (l6 : Int32) (M : Mem) (h : w_X7_readNote_243  Q  l1 l2 l3 l4 l5 l6 M) : Ex true mX7_readNote 78 78 0 0 243 [.ref 46, .int l1, .int l2, .int l3, .int l4, .int l5, .int l6] [] M Q := by
  unfold w_X7_readNote_243 at h
  refine ex_aload_n dX7_readNote_243 rfl ?_
  refine ex_aload_n dX7_readNote_244 rfl ?_
  refine ex_getI (ci := 7) (j := 24) dX7_readNote_245 (by decide) rfl rfl lk_X7_130 ?_
  refine ex_invV (k := 46) (ci := 7) (as := [.int (M 46 24)]) (L2 := [.ref 46, .int (M 46 24)]) (st := []) 0 0 dX7_readNote_248 lk_X7_146 sl_X7_fail (rmK_of rfl) (by decide) rfl ⟨by decide, rfl⟩ rfl (Nat.le_of_ble_eq_true rfl) (Nat.le_of_ble_eq_true rfl) (t_X7_fail   (M 46 24) M _ h) (fun v25 M26 h => ?_)
  show Ex true mX7_readNote 78 78 0 0 251 [.ref 46, .int l1, .int l2, .int l3, .int l4, .int l5, .int l6] [] M26 Q
  refine ex_less (L2 := [.ref 46, .int l1, .int l2, .int l3, .int l4, .null, .null]) ?_ (by intro i v hi hn; match i, hi with | 0, hi => exact hi | 1, hi => exact hi | 2, hi => exact hi | 3, hi => exact hi | 4, hi => exact hi | 5, hi => (cases hi; cases hn) | 6, hi => (cases hi; cases hn) | k + 7, hi => (exact absurd hi (by simp)))
  exact t_X7_readNote_251   Q   l1 l2 l3 l4 M26 h
def wb_X7_readNote_163 (Q : Int32 → Mem → Prop) (B163 : Int32 → Int32 → Int32 → Int32 → Int32 → Int32 → Mem → Prop) (l1 : Int32) (l2 : Int32) (l3 : Int32) (l4 : Int32) (l5 : Int32) (l6 : Int32) (M : Mem) : Prop := ((4 < l6) → ((vp_in l1 1200) ∧ (∀ M24 : Mem, M24 = (mset M 60 (Int32.toNatClampNeg l1) l5) → ((l5 < 7) → (w_X7_readNote_243  Q  l1 l2 l3 l4 l5 l6 M24)) ∧ (¬ (l5 < 7) → (((l5 ≤ 55) → (w_X7_readNote_251  Q  l1 l2 l3 l4 M24)) ∧ (¬ (l5 ≤ 55) → (w_X7_readNote_243  Q  l1 l2 l3 l4 l5 l6 M24))))))) ∧ (¬ (4 < l6) → ((¬ ((((M 46 28) + l6) - ((M 46 28) + l6) / 7 * 7) = l4) → (∀ x31 : Int32, x31 = l6 + 1 → B163 l1 l2 l3 l4 l5 x31 M)) ∧ (((((M 46 28) + l6) - ((M 46 28) + l6) / 7 * 7) = l4) → (w_X7_wantsSign (M 46 28) ((M 46 28) + l6) M (fun v32 M33 => ∀ z34 : Int32, z34 = (if v32 = 0 then ((M33 46 28) + l6) else l5) → ∀ x35 : Int32, x35 = l6 + 1 → B163 l1 l2 l3 l4 z34 x35 M33)))))
def w_X7_readNote_163 (Q : Int32 → Mem → Prop) : Nat → Int32 → Int32 → Int32 → Int32 → Int32 → Int32 → Mem → Prop
  | 0 => fun _ _ _ _ _ _ _ => False
  | k + 1 => wb_X7_readNote_163  Q  (w_X7_readNote_163  Q  k)
theorem t_X7_readNote_163 (Q : Int32 → Mem → Prop) : ∀ (k : Nat) (l1 : Int32) (l2 : Int32) (l3 : Int32) (l4 : Int32) (l5 : Int32) (l6 : Int32) (M : Mem), w_X7_readNote_163  Q  k l1 l2 l3 l4 l5 l6 M → Ex true mX7_readNote 78 78 0 0 163 [.ref 46, .int l1, .int l2, .int l3, .int l4, .int l5, .int l6] [] M Q := by
  intro k
  induction k with
  | zero => intro l1 l2 l3 l4 l5 l6 M h; exact False.elim h
  | succ k hB163 =>
    intro l1 l2 l3 l4 l5 l6 M h
    replace h : wb_X7_readNote_163  Q  (w_X7_readNote_163  Q  k) l1 l2 l3 l4 l5 l6 M := h
    generalize w_X7_readNote_163  Q  k = B163 at hB163 h
    unfold wb_X7_readNote_163 at h
    refine ex_iload dX7_readNote_163 rfl ?_
    refine ex_iconst (v := 4) dX7_readNote_165 (by decide) ?_
    refine ex_icmp_gt (tgt := 221) dX7_readNote_166 (by decide) (fun c_166 => ?_) (fun c_166 => ?_)
    · replace h := h.1 c_166
      refine ex_aload_n dX7_readNote_221 rfl ?_
      refine ex_getR (ci := 7) (j := 15) (v := 60) dX7_readNote_222 (by decide) rfl rfl lk_X7_53 rfl (by decide) ?_
      refine ex_iload_n dX7_readNote_225 rfl ?_
      refine ex_iload dX7_readNote_226 rfl ?_
      obtain ⟨b23, h⟩ := h
      refine ex_iast dX7_readNote_228 (by decide) rfl b23 ?_
      refine ex_nmM (fun M24 eM24 => ?_)
      replace h := h M24 eM24
      refine ex_iload dX7_readNote_229 rfl ?_
      refine ex_bipush (v := 7) dX7_readNote_231 (by decide) ?_
      refine ex_icmp_lt (tgt := 243) dX7_readNote_233 (by decide) (fun c_233 => ?_) (fun c_233 => ?_)
      · replace h := h.1 c_233
        exact t_X7_readNote_243   Q   l1 l2 l3 l4 l5 l6 M24 h
      · replace h := h.2 c_233
        refine ex_iload dX7_readNote_236 rfl ?_
        refine ex_bipush (v := 55) dX7_readNote_238 (by decide) ?_
        refine ex_icmp_le (tgt := 251) dX7_readNote_240 (by decide) (fun c_240 => ?_) (fun c_240 => ?_)
        · replace h := h.1 c_240
          refine ex_less (L2 := [.ref 46, .int l1, .int l2, .int l3, .int l4, .null, .null]) ?_ (by intro i v hi hn; match i, hi with | 0, hi => exact hi | 1, hi => exact hi | 2, hi => exact hi | 3, hi => exact hi | 4, hi => exact hi | 5, hi => (cases hi; cases hn) | 6, hi => (cases hi; cases hn) | k + 7, hi => (exact absurd hi (by simp)))
          exact t_X7_readNote_251   Q   l1 l2 l3 l4 M24 h
        · replace h := h.2 c_240
          exact t_X7_readNote_243   Q   l1 l2 l3 l4 l5 l6 M24 h
    · replace h := h.2 c_166
      refine ex_aload_n dX7_readNote_169 rfl ?_
      refine ex_getI (ci := 7) (j := 28) dX7_readNote_170 (by decide) rfl rfl lk_X7_160 ?_
      refine ex_iload dX7_readNote_173 rfl ?_
      refine ex_iadd dX7_readNote_175 ?_
      refine ex_bipush (v := 7) dX7_readNote_176 (by decide) ?_
      refine ex_irem dX7_readNote_178 (by decide) ?_
      refine ex_iload dX7_readNote_179 rfl ?_
      refine ex_icmp_ne (tgt := 211) dX7_readNote_181 (by decide) (fun c_181 => ?_) (fun c_181 => ?_)
      · replace h := h.1 c_181
        refine ex_iload dX7_readNote_211 rfl ?_
        refine ex_istore (L2 := [.ref 46, .int l1, .int l2, .int l3, .int l4, .int l5, .int l6]) dX7_readNote_213 (by decide) rfl rfl ?_
        refine ex_iinc (v := l6 + 1) (L2 := [.ref 46, .int l1, .int l2, .int l3, .int l4, .int l5, .int (l6 + 1)]) dX7_readNote_215 rfl rfl (by decide) rfl rfl ?_
        obtain ⟨x31, ex31⟩ : ∃ x31 : Int32, x31 = l6 + 1 := ⟨_, rfl⟩
        rw [← ex31]
        replace h := h x31 ex31
        refine ex_goto (tgt := 163) dX7_readNote_218 (by decide) ?_
        exact hB163 l1 l2 l3 l4 l5 x31 M h
      · replace h := h.2 c_181
        refine ex_aload_n dX7_readNote_184 rfl ?_
        refine ex_getI (ci := 7) (j := 28) dX7_readNote_185 (by decide) rfl rfl lk_X7_160 ?_
        refine ex_aload_n dX7_readNote_188 rfl ?_
        refine ex_getI (ci := 7) (j := 28) dX7_readNote_189 (by decide) rfl rfl lk_X7_160 ?_
        refine ex_iload dX7_readNote_192 rfl ?_
        refine ex_iadd dX7_readNote_194 ?_
        refine ex_invS (as := [.int (M 46 28), .int ((M 46 28) + l6)]) (L2 := [.int (M 46 28), .int ((M 46 28) + l6), .null]) (st := []) 0 0 dX7_readNote_195 lk_X7_163 sl_X7_wantsSign (rmK_of rfl) rfl (Nat.le_of_ble_eq_true rfl) (Nat.le_of_ble_eq_true rfl) (t_X7_wantsSign   (M 46 28) ((M 46 28) + l6) M _ h) (fun v32 M33 h => ?_)
        show Ex true mX7_readNote 78 78 0 0 198 [.ref 46, .int l1, .int l2, .int l3, .int l4, .int l5, .int l6] [.int v32] M33 Q
        have hJ36 : ∀ z34 : Int32, z34 = (if v32 = 0 then ((M33 46 28) + l6) else l5) → Ex true mX7_readNote 78 78 0 0 213 [.ref 46, .int l1, .int l2, .int l3, .int l4, .int l5, .int l6] [.int z34] M33 Q := by
          intro z34 ez34
          replace h := h z34 ez34
          refine ex_istore (L2 := [.ref 46, .int l1, .int l2, .int l3, .int l4, .int z34, .int l6]) dX7_readNote_213 (by decide) rfl rfl ?_
          refine ex_iinc (v := l6 + 1) (L2 := [.ref 46, .int l1, .int l2, .int l3, .int l4, .int z34, .int (l6 + 1)]) dX7_readNote_215 rfl rfl (by decide) rfl rfl ?_
          obtain ⟨x35, ex35⟩ : ∃ x35 : Int32, x35 = l6 + 1 := ⟨_, rfl⟩
          rw [← ex35]
          replace h := h x35 ex35
          refine ex_goto (tgt := 163) dX7_readNote_218 (by decide) ?_
          exact hB163 l1 l2 l3 l4 z34 x35 M33 h
        refine ex_if_ne (tgt := 211) dX7_readNote_198 (by decide) (fun c_198 => ?_) (fun c_198 => ?_)
        ·
          refine ex_iload dX7_readNote_211 rfl ?_
          exact hJ36 _ (by rw [if_neg c_198])
        ·
          refine ex_aload_n dX7_readNote_201 rfl ?_
          refine ex_getI (ci := 7) (j := 28) dX7_readNote_202 (by decide) rfl rfl lk_X7_160 ?_
          refine ex_iload dX7_readNote_205 rfl ?_
          refine ex_iadd dX7_readNote_207 ?_
          refine ex_goto (tgt := 213) dX7_readNote_208 (by decide) ?_
          exact hJ36 _ (by rw [if_pos c_198])
def w_X7_readNote (p1 : Int32) (M : Mem) (Q : Int32 → Mem → Prop) : Prop := w_X7_peek (M 46 24) M (fun v1 M2 => w_X7_signOf v1 M2 (fun v3 M4 => (vp_in p1 1200) ∧ (∀ M6 : Mem, M6 = (mset M4 61 (Int32.toNatClampNeg p1) v3) → (vp_in p1 1200) ∧ (∀ z8 : Int32, z8 = (if (M6 61 (Int32.toNatClampNeg p1)) ≤ 0 then 0 else 1) → ∀ M9 : Mem, M9 = (mset M6 46 24 ((M6 46 24) + z8)) → w_X7_peek (M9 46 24) M9 (fun v10 M11 => w_X7_find 50 v10 M11 (fun v12 M13 => ∀ z14 : Int32, z14 = (if v12 < 0 then 0 else 1) → ∀ M15 : Mem, M15 = (mset M13 46 24 ((M13 46 24) + z14)) → w_X7_peek (M15 46 24) M15 (fun v16 M17 => w_X7_noteOf v16 M17 (fun v18 M19 => ((0 ≤ v18) → ((vp_in p1 1200) ∧ (∀ M21 : Mem, M21 = (mset M19 62 (Int32.toNatClampNeg p1) (v18 / 7)) → ∀ x22 : Int32, x22 = (v18 - v18 / 7 * 7) → ((v12 < 0) → ((((M21 46 27) = 0) → (∃ k, w_X7_readNote_163  Q  k p1 v12 v18 x22 (-1) (-4) M21)) ∧ (¬ ((M21 46 27) = 0) → (w_X7_fail (M21 46 24) M21 (fun v37 M38 => w_X7_readNote_251  Q  p1 v12 v18 x22 M38))))) ∧ (¬ (v12 < 0) → ((vp_in p1 1200) ∧ (∀ M40 : Mem, M40 = (mset M21 60 (Int32.toNatClampNeg p1) ((7 * (v12 + 1)) + x22)) → w_X7_readNote_251  Q  p1 v12 v18 x22 M40)))))) ∧ (¬ (0 ≤ v18) → (w_X7_fail (M19 46 24) M19 (fun v41 M42 => Q 0 M42)))))))))))
theorem t_X7_readNote (p1 : Int32) (M : Mem) (Q : Int32 → Mem → Prop) (h : w_X7_readNote  p1 M Q) : Ex true mX7_readNote 78 78 0 0 0 [.ref 46, .int p1, .null, .null, .null, .null, .null] [] M Q := by
  unfold w_X7_readNote at h
  refine ex_aload_n dX7_readNote_0 rfl ?_
  refine ex_getR (ci := 7) (j := 16) (v := 61) dX7_readNote_1 (by decide) rfl rfl lk_X7_56 rfl (by decide) ?_
  refine ex_iload_n dX7_readNote_4 rfl ?_
  refine ex_aload_n dX7_readNote_5 rfl ?_
  refine ex_aload_n dX7_readNote_6 rfl ?_
  refine ex_getI (ci := 7) (j := 24) dX7_readNote_7 (by decide) rfl rfl lk_X7_130 ?_
  refine ex_invV (k := 46) (ci := 7) (as := [.int (M 46 24)]) (L2 := [.ref 46, .int (M 46 24)]) (st := [.int p1, .ref 61]) 0 0 dX7_readNote_10 lk_X7_133 sl_X7_peek (rmK_of rfl) (by decide) rfl ⟨by decide, rfl⟩ rfl (Nat.le_of_ble_eq_true rfl) (Nat.le_of_ble_eq_true rfl) (t_X7_peek   (M 46 24) M _ h) (fun v1 M2 h => ?_)
  show Ex true mX7_readNote 78 78 0 0 13 [.ref 46, .int p1, .null, .null, .null, .null, .null] [.int v1, .int p1, .ref 61] M2 Q
  refine ex_invS (as := [.int v1]) (L2 := [.int v1]) (st := [.int p1, .ref 61]) 0 0 dX7_readNote_13 lk_X7_140 sl_X7_signOf (rmK_of rfl) rfl (Nat.le_of_ble_eq_true rfl) (Nat.le_of_ble_eq_true rfl) (t_X7_signOf   v1 M2 _ h) (fun v3 M4 h => ?_)
  show Ex true mX7_readNote 78 78 0 0 16 [.ref 46, .int p1, .null, .null, .null, .null, .null] [.int v3, .int p1, .ref 61] M4 Q
  obtain ⟨b5, h⟩ := h
  refine ex_iast dX7_readNote_16 (by decide) rfl b5 ?_
  refine ex_nmM (fun M6 eM6 => ?_)
  replace h := h M6 eM6
  refine ex_aload_n dX7_readNote_17 rfl ?_
  refine ex_dup dX7_readNote_18 rfl ?_
  refine ex_getI (ci := 7) (j := 24) dX7_readNote_19 (by decide) rfl rfl lk_X7_130 ?_
  refine ex_aload_n dX7_readNote_22 rfl ?_
  refine ex_getR (ci := 7) (j := 16) (v := 61) dX7_readNote_23 (by decide) rfl rfl lk_X7_56 rfl (by decide) ?_
  refine ex_iload_n dX7_readNote_26 rfl ?_
  obtain ⟨b7, h⟩ := h
  refine ex_iald dX7_readNote_27 (by decide) rfl b7 ?_
  have hJ44 : ∀ z8 : Int32, z8 = (if (M6 61 (Int32.toNatClampNeg p1)) ≤ 0 then 0 else 1) → Ex true mX7_readNote 78 78 0 0 36 [.ref 46, .int p1, .null, .null, .null, .null, .null] [.int z8, .int (M6 46 24), .ref 46] M6 Q := by
    intro z8 ez8
    replace h := h z8 ez8
    refine ex_iadd dX7_readNote_36 ?_
    refine ex_putI (ci := 7) (j := 24) dX7_readNote_37 (by decide) rfl rfl lk_X7_130 ⟨rfl, rfl⟩ ?_
    refine ex_nmM (fun M9 eM9 => ?_)
    replace h := h M9 eM9
    refine ex_aload_n dX7_readNote_40 rfl ?_
    refine ex_getR (ci := 7) (j := 3) (v := 50) dX7_readNote_41 (by decide) rfl rfl lk_X7_19 rfl (by decide) ?_
    refine ex_aload_n dX7_readNote_44 rfl ?_
    refine ex_aload_n dX7_readNote_45 rfl ?_
    refine ex_getI (ci := 7) (j := 24) dX7_readNote_46 (by decide) rfl rfl lk_X7_130 ?_
    refine ex_invV (k := 46) (ci := 7) (as := [.int (M9 46 24)]) (L2 := [.ref 46, .int (M9 46 24)]) (st := [.ref 50]) 0 0 dX7_readNote_49 lk_X7_133 sl_X7_peek (rmK_of rfl) (by decide) rfl ⟨by decide, rfl⟩ rfl (Nat.le_of_ble_eq_true rfl) (Nat.le_of_ble_eq_true rfl) (t_X7_peek   (M9 46 24) M9 _ h) (fun v10 M11 h => ?_)
    show Ex true mX7_readNote 78 78 0 0 52 [.ref 46, .int p1, .null, .null, .null, .null, .null] [.int v10, .ref 50] M11 Q
    refine ex_invS (as := [.ref 50, .int v10]) (L2 := [.ref 50, .int v10, .null]) (st := []) 0 0 dX7_readNote_52 lk_X7_126 sl_X7_find (rmK_of rfl) rfl (Nat.le_of_ble_eq_true rfl) (Nat.le_of_ble_eq_true rfl) (t_X7_find 50 (fa_d rfl) v10 M11 _ h) (fun v12 M13 h => ?_)
    show Ex true mX7_readNote 78 78 0 0 55 [.ref 46, .int p1, .null, .null, .null, .null, .null] [.int v12] M13 Q
    refine ex_istore_n (L2 := [.ref 46, .int p1, .int v12, .null, .null, .null, .null]) dX7_readNote_55 (by decide) rfl rfl ?_
    refine ex_aload_n dX7_readNote_56 rfl ?_
    refine ex_dup dX7_readNote_57 rfl ?_
    refine ex_getI (ci := 7) (j := 24) dX7_readNote_58 (by decide) rfl rfl lk_X7_130 ?_
    refine ex_iload_n dX7_readNote_61 rfl ?_
    have hJ43 : ∀ z14 : Int32, z14 = (if v12 < 0 then 0 else 1) → Ex true mX7_readNote 78 78 0 0 70 [.ref 46, .int p1, .int v12, .null, .null, .null, .null] [.int z14, .int (M13 46 24), .ref 46] M13 Q := by
      intro z14 ez14
      replace h := h z14 ez14
      refine ex_iadd dX7_readNote_70 ?_
      refine ex_putI (ci := 7) (j := 24) dX7_readNote_71 (by decide) rfl rfl lk_X7_130 ⟨rfl, rfl⟩ ?_
      refine ex_nmM (fun M15 eM15 => ?_)
      replace h := h M15 eM15
      refine ex_aload_n dX7_readNote_74 rfl ?_
      refine ex_aload_n dX7_readNote_75 rfl ?_
      refine ex_aload_n dX7_readNote_76 rfl ?_
      refine ex_getI (ci := 7) (j := 24) dX7_readNote_77 (by decide) rfl rfl lk_X7_130 ?_
      refine ex_invV (k := 46) (ci := 7) (as := [.int (M15 46 24)]) (L2 := [.ref 46, .int (M15 46 24)]) (st := [.ref 46]) 0 0 dX7_readNote_80 lk_X7_133 sl_X7_peek (rmK_of rfl) (by decide) rfl ⟨by decide, rfl⟩ rfl (Nat.le_of_ble_eq_true rfl) (Nat.le_of_ble_eq_true rfl) (t_X7_peek   (M15 46 24) M15 _ h) (fun v16 M17 h => ?_)
      show Ex true mX7_readNote 78 78 0 0 83 [.ref 46, .int p1, .int v12, .null, .null, .null, .null] [.int v16, .ref 46] M17 Q
      refine ex_invV (k := 46) (ci := 7) (as := [.int v16]) (L2 := [.ref 46, .int v16, .null, .null, .null]) (st := []) 0 0 dX7_readNote_83 lk_X7_123 sl_X7_noteOf (rmK_of rfl) (by decide) rfl ⟨by decide, rfl⟩ rfl (Nat.le_of_ble_eq_true rfl) (Nat.le_of_ble_eq_true rfl) (t_X7_noteOf   v16 M17 _ h) (fun v18 M19 h => ?_)
      show Ex true mX7_readNote 78 78 0 0 86 [.ref 46, .int p1, .int v12, .null, .null, .null, .null] [.int v18] M19 Q
      refine ex_istore_n (L2 := [.ref 46, .int p1, .int v12, .int v18, .null, .null, .null]) dX7_readNote_86 (by decide) rfl rfl ?_
      refine ex_iload_n dX7_readNote_87 rfl ?_
      refine ex_if_ge (tgt := 100) dX7_readNote_88 (by decide) (fun c_88 => ?_) (fun c_88 => ?_)
      · replace h := h.1 c_88
        refine ex_aload_n dX7_readNote_100 rfl ?_
        refine ex_getR (ci := 7) (j := 17) (v := 62) dX7_readNote_101 (by decide) rfl rfl lk_X7_59 rfl (by decide) ?_
        refine ex_iload_n dX7_readNote_104 rfl ?_
        refine ex_iload_n dX7_readNote_105 rfl ?_
        refine ex_bipush (v := 7) dX7_readNote_106 (by decide) ?_
        refine ex_idiv dX7_readNote_108 (by decide) ?_
        obtain ⟨b20, h⟩ := h
        refine ex_iast dX7_readNote_109 (by decide) rfl b20 ?_
        refine ex_nmM (fun M21 eM21 => ?_)
        replace h := h M21 eM21
        refine ex_iload_n dX7_readNote_110 rfl ?_
        refine ex_bipush (v := 7) dX7_readNote_111 (by decide) ?_
        refine ex_irem dX7_readNote_113 (by decide) ?_
        refine ex_top (fun x22 ex22 => ?_)
        replace h := h x22 ex22
        refine ex_istore (L2 := [.ref 46, .int p1, .int v12, .int v18, .int x22, .null, .null]) dX7_readNote_114 (by decide) rfl rfl ?_
        refine ex_iload_n dX7_readNote_116 rfl ?_
        refine ex_if_lt (tgt := 138) dX7_readNote_117 (by decide) (fun c_117 => ?_) (fun c_117 => ?_)
        · replace h := h.1 c_117
          refine ex_aload_n dX7_readNote_138 rfl ?_
          refine ex_getI (ci := 7) (j := 27) dX7_readNote_139 (by decide) rfl rfl lk_X7_157 ?_
          refine ex_if_eq (tgt := 156) dX7_readNote_142 (by decide) (fun c_142 => ?_) (fun c_142 => ?_)
          · replace h := h.1 c_142
            refine ex_iconst (v := (-1)) dX7_readNote_156 (by decide) ?_
            refine ex_istore (L2 := [.ref 46, .int p1, .int v12, .int v18, .int x22, .int (-1), .null]) dX7_readNote_157 (by decide) rfl rfl ?_
            refine ex_bipush (v := (-4)) dX7_readNote_159 (by decide) ?_
            refine ex_istore (L2 := [.ref 46, .int p1, .int v12, .int v18, .int x22, .int (-1), .int (-4)]) dX7_readNote_161 (by decide) rfl rfl ?_
            obtain ⟨k_, h⟩ := h
            exact t_X7_readNote_163   Q   k_ p1 v12 v18 x22 (-1) (-4) M21 h
          · replace h := h.2 c_142
            refine ex_aload_n dX7_readNote_145 rfl ?_
            refine ex_aload_n dX7_readNote_146 rfl ?_
            refine ex_getI (ci := 7) (j := 24) dX7_readNote_147 (by decide) rfl rfl lk_X7_130 ?_
            refine ex_invV (k := 46) (ci := 7) (as := [.int (M21 46 24)]) (L2 := [.ref 46, .int (M21 46 24)]) (st := []) 0 0 dX7_readNote_150 lk_X7_146 sl_X7_fail (rmK_of rfl) (by decide) rfl ⟨by decide, rfl⟩ rfl (Nat.le_of_ble_eq_true rfl) (Nat.le_of_ble_eq_true rfl) (t_X7_fail   (M21 46 24) M21 _ h) (fun v37 M38 h => ?_)
            show Ex true mX7_readNote 78 78 0 0 153 [.ref 46, .int p1, .int v12, .int v18, .int x22, .null, .null] [] M38 Q
            refine ex_goto (tgt := 251) dX7_readNote_153 (by decide) ?_
            exact t_X7_readNote_251   Q   p1 v12 v18 x22 M38 h
        · replace h := h.2 c_117
          refine ex_aload_n dX7_readNote_120 rfl ?_
          refine ex_getR (ci := 7) (j := 15) (v := 60) dX7_readNote_121 (by decide) rfl rfl lk_X7_53 rfl (by decide) ?_
          refine ex_iload_n dX7_readNote_124 rfl ?_
          refine ex_bipush (v := 7) dX7_readNote_125 (by decide) ?_
          refine ex_iload_n dX7_readNote_127 rfl ?_
          refine ex_iconst (v := 1) dX7_readNote_128 (by decide) ?_
          refine ex_iadd dX7_readNote_129 ?_
          refine ex_imul dX7_readNote_130 ?_
          refine ex_iload dX7_readNote_131 rfl ?_
          refine ex_iadd dX7_readNote_133 ?_
          obtain ⟨b39, h⟩ := h
          refine ex_iast dX7_readNote_134 (by decide) rfl b39 ?_
          refine ex_nmM (fun M40 eM40 => ?_)
          replace h := h M40 eM40
          refine ex_goto (tgt := 251) dX7_readNote_135 (by decide) ?_
          exact t_X7_readNote_251   Q   p1 v12 v18 x22 M40 h
      · replace h := h.2 c_88
        refine ex_aload_n dX7_readNote_91 rfl ?_
        refine ex_aload_n dX7_readNote_92 rfl ?_
        refine ex_getI (ci := 7) (j := 24) dX7_readNote_93 (by decide) rfl rfl lk_X7_130 ?_
        refine ex_invV (k := 46) (ci := 7) (as := [.int (M19 46 24)]) (L2 := [.ref 46, .int (M19 46 24)]) (st := []) 0 0 dX7_readNote_96 lk_X7_146 sl_X7_fail (rmK_of rfl) (by decide) rfl ⟨by decide, rfl⟩ rfl (Nat.le_of_ble_eq_true rfl) (Nat.le_of_ble_eq_true rfl) (t_X7_fail   (M19 46 24) M19 _ h) (fun v41 M42 h => ?_)
        show Ex true mX7_readNote 78 78 0 0 99 [.ref 46, .int p1, .int v12, .int v18, .null, .null, .null] [] M42 Q
        exact ex_vret dX7_readNote_99 rfl rfl h
    refine ex_if_lt (tgt := 69) dX7_readNote_62 (by decide) (fun c_62 => ?_) (fun c_62 => ?_)
    ·
      refine ex_iconst (v := 0) dX7_readNote_69 (by decide) ?_
      exact hJ43 _ (by rw [if_pos c_62])
    ·
      refine ex_iconst (v := 1) dX7_readNote_65 (by decide) ?_
      refine ex_goto (tgt := 70) dX7_readNote_66 (by decide) ?_
      exact hJ43 _ (by rw [if_neg c_62])
  refine ex_if_le (tgt := 35) dX7_readNote_28 (by decide) (fun c_28 => ?_) (fun c_28 => ?_)
  ·
    refine ex_iconst (v := 0) dX7_readNote_35 (by decide) ?_
    exact hJ44 _ (by rw [if_pos c_28])
  ·
    refine ex_iconst (v := 1) dX7_readNote_31 (by decide) ?_
    refine ex_goto (tgt := 36) dX7_readNote_32 (by decide) ?_
    exact hJ44 _ (by rw [if_neg c_28])
def wb_X7_dotted_0 (Q : Int32 → Mem → Prop) (B0 : Int32 → Mem → Prop) (l1 : Int32) (M : Mem) : Prop := w_X7_peek (M 46 24) M (fun v1 M2 => (¬ (v1 = 4) → (Q 0 M2)) ∧ ((v1 = 4) → ((vp_in l1 1200) ∧ (((2 ≤ (M2 64 (Int32.toNatClampNeg l1))) → (Q 0 M2)) ∧ (¬ (2 ≤ (M2 64 (Int32.toNatClampNeg l1))) → ((vp_in l1 1200) ∧ ((vp_in l1 1200) ∧ (∀ M6 : Mem, M6 = (mset M2 64 (Int32.toNatClampNeg l1) ((M2 64 (Int32.toNatClampNeg l1)) + 1)) → ∀ M7 : Mem, M7 = (mset M6 46 24 ((M6 46 24) + 1)) → B0 l1 M7))))))))
def w_X7_dotted_0 (Q : Int32 → Mem → Prop) : Nat → Int32 → Mem → Prop
  | 0 => fun _ _ => False
  | k + 1 => wb_X7_dotted_0  Q  (w_X7_dotted_0  Q  k)
theorem t_X7_dotted_0 (Q : Int32 → Mem → Prop) : ∀ (k : Nat) (l1 : Int32) (M : Mem), w_X7_dotted_0  Q  k l1 M → Ex true mX7_dotted 78 78 0 0 0 [.ref 46, .int l1] [] M Q := by
  intro k
  induction k with
  | zero => intro l1 M h; exact False.elim h
  | succ k hB0 =>
    intro l1 M h
    replace h : wb_X7_dotted_0  Q  (w_X7_dotted_0  Q  k) l1 M := h
    generalize w_X7_dotted_0  Q  k = B0 at hB0 h
    unfold wb_X7_dotted_0 at h
    refine ex_aload_n dX7_dotted_0 rfl ?_
    refine ex_aload_n dX7_dotted_1 rfl ?_
    refine ex_getI (ci := 7) (j := 24) dX7_dotted_2 (by decide) rfl rfl lk_X7_130 ?_
    refine ex_invV (k := 46) (ci := 7) (as := [.int (M 46 24)]) (L2 := [.ref 46, .int (M 46 24)]) (st := []) 0 0 dX7_dotted_5 lk_X7_133 sl_X7_peek (rmK_of rfl) (by decide) rfl ⟨by decide, rfl⟩ rfl (Nat.le_of_ble_eq_true rfl) (Nat.le_of_ble_eq_true rfl) (t_X7_peek   (M 46 24) M _ h) (fun v1 M2 h => ?_)
    show Ex true mX7_dotted 78 78 0 0 8 [.ref 46, .int l1] [.int v1] M2 Q
    refine ex_iconst (v := 4) dX7_dotted_8 (by decide) ?_
    refine ex_icmp_ne (tgt := 45) dX7_dotted_9 (by decide) (fun c_9 => ?_) (fun c_9 => ?_)
    · replace h := h.1 c_9
      exact ex_vret dX7_dotted_45 rfl rfl h
    · replace h := h.2 c_9
      refine ex_aload_n dX7_dotted_12 rfl ?_
      refine ex_getR (ci := 7) (j := 19) (v := 64) dX7_dotted_13 (by decide) rfl rfl lk_X7_65 rfl (by decide) ?_
      refine ex_iload_n dX7_dotted_16 rfl ?_
      obtain ⟨b3, h⟩ := h
      refine ex_iald dX7_dotted_17 (by decide) rfl b3 ?_
      refine ex_iconst (v := 2) dX7_dotted_18 (by decide) ?_
      refine ex_icmp_ge (tgt := 45) dX7_dotted_19 (by decide) (fun c_19 => ?_) (fun c_19 => ?_)
      · replace h := h.1 c_19
        exact ex_vret dX7_dotted_45 rfl rfl h
      · replace h := h.2 c_19
        refine ex_aload_n dX7_dotted_22 rfl ?_
        refine ex_getR (ci := 7) (j := 19) (v := 64) dX7_dotted_23 (by decide) rfl rfl lk_X7_65 rfl (by decide) ?_
        refine ex_iload_n dX7_dotted_26 rfl ?_
        refine ex_dup2 dX7_dotted_27 rfl rfl ?_
        obtain ⟨b4, h⟩ := h
        refine ex_iald dX7_dotted_28 (by decide) rfl b4 ?_
        refine ex_iconst (v := 1) dX7_dotted_29 (by decide) ?_
        refine ex_iadd dX7_dotted_30 ?_
        obtain ⟨b5, h⟩ := h
        refine ex_iast dX7_dotted_31 (by decide) rfl b5 ?_
        refine ex_nmM (fun M6 eM6 => ?_)
        replace h := h M6 eM6
        refine ex_aload_n dX7_dotted_32 rfl ?_
        refine ex_dup dX7_dotted_33 rfl ?_
        refine ex_getI (ci := 7) (j := 24) dX7_dotted_34 (by decide) rfl rfl lk_X7_130 ?_
        refine ex_iconst (v := 1) dX7_dotted_37 (by decide) ?_
        refine ex_iadd dX7_dotted_38 ?_
        refine ex_putI (ci := 7) (j := 24) dX7_dotted_39 (by decide) rfl rfl lk_X7_130 ⟨rfl, rfl⟩ ?_
        refine ex_nmM (fun M7 eM7 => ?_)
        replace h := h M7 eM7
        refine ex_goto (tgt := 0) dX7_dotted_42 (by decide) ?_
        exact hB0 l1 M7 h
def w_X7_dotted (p1 : Int32) (M : Mem) (Q : Int32 → Mem → Prop) : Prop := ∃ k, w_X7_dotted_0  Q  k p1 M
theorem t_X7_dotted (p1 : Int32) (M : Mem) (Q : Int32 → Mem → Prop) (h : w_X7_dotted  p1 M Q) : Ex true mX7_dotted 78 78 0 0 0 [.ref 46, .int p1] [] M Q := by
  unfold w_X7_dotted at h
  obtain ⟨k_, h⟩ := h
  exact t_X7_dotted_0   Q   k_ p1 M h
def w_X7_intervals_154 (Q : Int32 → Mem → Prop) (B2 : Int32 → Int32 → Mem → Prop) (l1 : Int32) (l2 : Int32) (l3 : Int32) (l4 : Int32) (l5 : Int32) (M : Mem) : Prop := (vp_in l1 1200) ∧ ((vp_in ((4 * l1) + (M 67 (Int32.toNatClampNeg l1))) 4800) ∧ (∀ M22 : Mem, M22 = (mset M 68 (Int32.toNatClampNeg ((4 * l1) + (M 67 (Int32.toNatClampNeg l1)))) ((l4 + 2) + (16 * l3))) → (vp_in l1 1200) ∧ ((vp_in l1 1200) ∧ (∀ M25 : Mem, M25 = (mset M22 67 (Int32.toNatClampNeg l1) ((M22 67 (Int32.toNatClampNeg l1)) + 1)) → ∀ M26 : Mem, M26 = (mset M25 46 24 ((M25 46 24) + 1)) → B2 l1 l2 M26))))
theorem t_X7_intervals_154 (Q : Int32 → Mem → Prop) (B2 : Int32 → Int32 → Mem → Prop) (hB2 : ∀ (l1 : Int32) (l2 : Int32) (M : Mem), B2 l1 l2 M → Ex true mX7_intervals 78 78 0 0 2 [.ref 46, .int l1, .int l2, .null, .null, .null] [] M Q) (l1 : Int32) (l2 : Int32) (l3 : Int32) (l4 : Int32) (l5 : Int32) (M : Mem) (h : w_X7_intervals_154  Q B2 l1 l2 l3 l4 l5 M) : Ex true mX7_intervals 78 78 0 0 154 [.ref 46, .int l1, .int l2, .int l3, .int l4, .int l5] [] M Q := by
  unfold w_X7_intervals_154 at h
  refine ex_aload_n dX7_intervals_154 rfl ?_
  refine ex_getR (ci := 7) (j := 23) (v := 68) dX7_intervals_155 (by decide) rfl rfl lk_X7_77 rfl (by decide) ?_
  refine ex_iconst (v := 4) dX7_intervals_158 (by decide) ?_
  refine ex_iload_n dX7_intervals_159 rfl ?_
  refine ex_imul dX7_intervals_160 ?_
  refine ex_aload_n dX7_intervals_161 rfl ?_
  refine ex_getR (ci := 7) (j := 22) (v := 67) dX7_intervals_162 (by decide) rfl rfl lk_X7_74 rfl (by decide) ?_
  refine ex_iload_n dX7_intervals_165 rfl ?_
  obtain ⟨b20, h⟩ := h
  refine ex_iald dX7_intervals_166 (by decide) rfl b20 ?_
  refine ex_iadd dX7_intervals_167 ?_
  refine ex_iload dX7_intervals_168 rfl ?_
  refine ex_iconst (v := 2) dX7_intervals_170 (by decide) ?_
  refine ex_iadd dX7_intervals_171 ?_
  refine ex_bipush (v := 16) dX7_intervals_172 (by decide) ?_
  refine ex_iload_n dX7_intervals_174 rfl ?_
  refine ex_imul dX7_intervals_175 ?_
  refine ex_iadd dX7_intervals_176 ?_
  obtain ⟨b21, h⟩ := h
  refine ex_iast dX7_intervals_177 (by decide) rfl b21 ?_
  refine ex_nmM (fun M22 eM22 => ?_)
  replace h := h M22 eM22
  refine ex_aload_n dX7_intervals_178 rfl ?_
  refine ex_getR (ci := 7) (j := 22) (v := 67) dX7_intervals_179 (by decide) rfl rfl lk_X7_74 rfl (by decide) ?_
  refine ex_iload_n dX7_intervals_182 rfl ?_
  refine ex_dup2 dX7_intervals_183 rfl rfl ?_
  obtain ⟨b23, h⟩ := h
  refine ex_iald dX7_intervals_184 (by decide) rfl b23 ?_
  refine ex_iconst (v := 1) dX7_intervals_185 (by decide) ?_
  refine ex_iadd dX7_intervals_186 ?_
  obtain ⟨b24, h⟩ := h
  refine ex_iast dX7_intervals_187 (by decide) rfl b24 ?_
  refine ex_nmM (fun M25 eM25 => ?_)
  replace h := h M25 eM25
  refine ex_aload_n dX7_intervals_188 rfl ?_
  refine ex_dup dX7_intervals_189 rfl ?_
  refine ex_getI (ci := 7) (j := 24) dX7_intervals_190 (by decide) rfl rfl lk_X7_130 ?_
  refine ex_iconst (v := 1) dX7_intervals_193 (by decide) ?_
  refine ex_iadd dX7_intervals_194 ?_
  refine ex_putI (ci := 7) (j := 24) dX7_intervals_195 (by decide) rfl rfl lk_X7_130 ⟨rfl, rfl⟩ ?_
  refine ex_nmM (fun M26 eM26 => ?_)
  replace h := h M26 eM26
  refine ex_goto (tgt := 2) dX7_intervals_198 (by decide) ?_
  refine ex_less (L2 := [.ref 46, .int l1, .int l2, .null, .null, .null]) ?_ (by intro i v hi hn; match i, hi with | 0, hi => exact hi | 1, hi => exact hi | 2, hi => exact hi | 3, hi => (cases hi; cases hn) | 4, hi => (cases hi; cases hn) | 5, hi => (cases hi; cases hn) | k + 6, hi => (exact absurd hi (by simp)))
  exact hB2 l1 l2 M26 h
def w_X7_intervals_146 (Q : Int32 → Mem → Prop) (B2 : Int32 → Int32 → Mem → Prop) (l1 : Int32) (l2 : Int32) (l3 : Int32) (l4 : Int32) (l5 : Int32) (M : Mem) : Prop := w_X7_fail (M 46 24) M (fun v18 M19 => w_X7_intervals_154  Q B2 l1 l2 l3 l4 l5 M19)
theorem t_X7_intervals_146 (Q : Int32 → Mem → Prop) (B2 : Int32 → Int32 → Mem → Prop) (hB2 : ∀ (l1 : Int32) (l2 : Int32) (M : Mem), B2 l1 l2 M → Ex true mX7_intervals 78 78 0 0 2 [.ref 46, .int l1, .int l2, .null, .null, .null] [] M Q) (l1 : Int32) (l2 : Int32) (l3 : Int32) (l4 : Int32) (l5 : Int32) (M : Mem) (h : w_X7_intervals_146  Q B2 l1 l2 l3 l4 l5 M) : Ex true mX7_intervals 78 78 0 0 146 [.ref 46, .int l1, .int l2, .int l3, .int l4, .int l5] [] M Q := by
  unfold w_X7_intervals_146 at h
  refine ex_aload_n dX7_intervals_146 rfl ?_
  refine ex_aload_n dX7_intervals_147 rfl ?_
  refine ex_getI (ci := 7) (j := 24) dX7_intervals_148 (by decide) rfl rfl lk_X7_130 ?_
  refine ex_invV (k := 46) (ci := 7) (as := [.int (M 46 24)]) (L2 := [.ref 46, .int (M 46 24)]) (st := []) 0 0 dX7_intervals_151 lk_X7_146 sl_X7_fail (rmK_of rfl) (by decide) rfl ⟨by decide, rfl⟩ rfl (Nat.le_of_ble_eq_true rfl) (Nat.le_of_ble_eq_true rfl) (t_X7_fail   (M 46 24) M _ h) (fun v18 M19 h => ?_)
  show Ex true mX7_intervals 78 78 0 0 154 [.ref 46, .int l1, .int l2, .int l3, .int l4, .int l5] [] M19 Q
  exact t_X7_intervals_154   Q B2 hB2 l1 l2 l3 l4 l5 M19 h
def wb_X7_intervals_2 (Q : Int32 → Mem → Prop) (B2 : Int32 → Int32 → Mem → Prop) (l1 : Int32) (l2 : Int32) (M : Mem) : Prop := ((l2 = 0) → (Q 0 M)) ∧ (¬ (l2 = 0) → ((vp_in l1 1200) ∧ (((4 ≤ (M 67 (Int32.toNatClampNeg l1))) → (Q 0 M)) ∧ (¬ (4 ≤ (M 67 (Int32.toNatClampNeg l1))) → (((0 ≤ (M 46 25)) → (Q 0 M)) ∧ (¬ (0 ≤ (M 46 25)) → (w_X7_peek (M 46 24) M (fun v2 M3 => w_X7_signOf v2 M3 (fun v4 M5 => ∀ z6 : Int32, z6 = (if v4 ≤ 0 then 0 else 1) → w_X7_peek ((M5 46 24) + z6) M5 (fun v7 M8 => w_X7_find 51 v7 M8 (fun v9 M10 => ∀ z11 : Int32, z11 = (if v9 < 0 then 0 else 1) → ((z11 = 0) → (B2 l1 z11 M10)) ∧ (¬ (z11 = 0) → (∀ z12 : Int32, z12 = (if v4 ≤ 0 then 0 else 1) → ∀ M13 : Mem, M13 = (mset M10 46 24 ((M10 46 24) + z12)) → (vp_in 1 2) ∧ (((¬ ((M13 55 (Int32.toNatClampNeg 1)) = 2) → ((vp_in l1 1200) ∧ (True))) ∧ (((M13 55 (Int32.toNatClampNeg 1)) = 2) → ((vp_in l1 1200) ∧ (True)))) ∧ (∀ z17 : Int32, z17 = (if (M13 55 (Int32.toNatClampNeg 1)) = 2 then (((M13 60 (Int32.toNatClampNeg l1)) + v9) + 1) else (((M13 60 (Int32.toNatClampNeg l1)) - v9) - 1)) → ((z17 < 7) → (w_X7_intervals_146  Q B2 l1 z11 v4 v9 z17 M13)) ∧ (¬ (z17 < 7) → (((z17 ≤ 55) → (w_X7_intervals_154  Q B2 l1 z11 v4 v9 z17 M13)) ∧ (¬ (z17 ≤ 55) → (w_X7_intervals_146  Q B2 l1 z11 v4 v9 z17 M13)))))))))))))))))))
def w_X7_intervals_2 (Q : Int32 → Mem → Prop) : Nat → Int32 → Int32 → Mem → Prop
  | 0 => fun _ _ _ => False
  | k + 1 => wb_X7_intervals_2  Q  (w_X7_intervals_2  Q  k)
theorem t_X7_intervals_2 (Q : Int32 → Mem → Prop) : ∀ (k : Nat) (l1 : Int32) (l2 : Int32) (M : Mem), w_X7_intervals_2  Q  k l1 l2 M → Ex true mX7_intervals 78 78 0 0 2 [.ref 46, .int l1, .int l2, .null, .null, .null] [] M Q := by
  intro k
  induction k with
  | zero => intro l1 l2 M h; exact False.elim h
  | succ k hB2 =>
    intro l1 l2 M h
    replace h : wb_X7_intervals_2  Q  (w_X7_intervals_2  Q  k) l1 l2 M := h
    generalize w_X7_intervals_2  Q  k = B2 at hB2 h
    unfold wb_X7_intervals_2 at h
    refine ex_iload_n dX7_intervals_2 rfl ?_
    refine ex_if_eq (tgt := 201) dX7_intervals_3 (by decide) (fun c_3 => ?_) (fun c_3 => ?_)
    · replace h := h.1 c_3
      exact ex_vret dX7_intervals_201 rfl rfl h
    · replace h := h.2 c_3
      refine ex_aload_n dX7_intervals_6 rfl ?_
      refine ex_getR (ci := 7) (j := 22) (v := 67) dX7_intervals_7 (by decide) rfl rfl lk_X7_74 rfl (by decide) ?_
      refine ex_iload_n dX7_intervals_10 rfl ?_
      obtain ⟨b1, h⟩ := h
      refine ex_iald dX7_intervals_11 (by decide) rfl b1 ?_
      refine ex_iconst (v := 4) dX7_intervals_12 (by decide) ?_
      refine ex_icmp_ge (tgt := 201) dX7_intervals_13 (by decide) (fun c_13 => ?_) (fun c_13 => ?_)
      · replace h := h.1 c_13
        exact ex_vret dX7_intervals_201 rfl rfl h
      · replace h := h.2 c_13
        refine ex_aload_n dX7_intervals_16 rfl ?_
        refine ex_getI (ci := 7) (j := 25) dX7_intervals_17 (by decide) rfl rfl lk_X7_120 ?_
        refine ex_if_ge (tgt := 201) dX7_intervals_20 (by decide) (fun c_20 => ?_) (fun c_20 => ?_)
        · replace h := h.1 c_20
          exact ex_vret dX7_intervals_201 rfl rfl h
        · replace h := h.2 c_20
          refine ex_aload_n dX7_intervals_23 rfl ?_
          refine ex_aload_n dX7_intervals_24 rfl ?_
          refine ex_getI (ci := 7) (j := 24) dX7_intervals_25 (by decide) rfl rfl lk_X7_130 ?_
          refine ex_invV (k := 46) (ci := 7) (as := [.int (M 46 24)]) (L2 := [.ref 46, .int (M 46 24)]) (st := []) 0 0 dX7_intervals_28 lk_X7_133 sl_X7_peek (rmK_of rfl) (by decide) rfl ⟨by decide, rfl⟩ rfl (Nat.le_of_ble_eq_true rfl) (Nat.le_of_ble_eq_true rfl) (t_X7_peek   (M 46 24) M _ h) (fun v2 M3 h => ?_)
          show Ex true mX7_intervals 78 78 0 0 31 [.ref 46, .int l1, .int l2, .null, .null, .null] [.int v2] M3 Q
          refine ex_invS (as := [.int v2]) (L2 := [.int v2]) (st := []) 0 0 dX7_intervals_31 lk_X7_140 sl_X7_signOf (rmK_of rfl) rfl (Nat.le_of_ble_eq_true rfl) (Nat.le_of_ble_eq_true rfl) (t_X7_signOf   v2 M3 _ h) (fun v4 M5 h => ?_)
          show Ex true mX7_intervals 78 78 0 0 34 [.ref 46, .int l1, .int l2, .null, .null, .null] [.int v4] M5 Q
          refine ex_istore_n (L2 := [.ref 46, .int l1, .int l2, .int v4, .null, .null]) dX7_intervals_34 (by decide) rfl rfl ?_
          refine ex_aload_n dX7_intervals_35 rfl ?_
          refine ex_getR (ci := 7) (j := 4) (v := 51) dX7_intervals_36 (by decide) rfl rfl lk_X7_22 rfl (by decide) ?_
          refine ex_aload_n dX7_intervals_39 rfl ?_
          refine ex_aload_n dX7_intervals_40 rfl ?_
          refine ex_getI (ci := 7) (j := 24) dX7_intervals_41 (by decide) rfl rfl lk_X7_130 ?_
          refine ex_iload_n dX7_intervals_44 rfl ?_
          have hJ30 : ∀ z6 : Int32, z6 = (if v4 ≤ 0 then 0 else 1) → Ex true mX7_intervals 78 78 0 0 53 [.ref 46, .int l1, .int l2, .int v4, .null, .null] [.int z6, .int (M5 46 24), .ref 46, .ref 51] M5 Q := by
            intro z6 ez6
            replace h := h z6 ez6
            refine ex_iadd dX7_intervals_53 ?_
            refine ex_invV (k := 46) (ci := 7) (as := [.int ((M5 46 24) + z6)]) (L2 := [.ref 46, .int ((M5 46 24) + z6)]) (st := [.ref 51]) 0 0 dX7_intervals_54 lk_X7_133 sl_X7_peek (rmK_of rfl) (by decide) rfl ⟨by decide, rfl⟩ rfl (Nat.le_of_ble_eq_true rfl) (Nat.le_of_ble_eq_true rfl) (t_X7_peek   ((M5 46 24) + z6) M5 _ h) (fun v7 M8 h => ?_)
            show Ex true mX7_intervals 78 78 0 0 57 [.ref 46, .int l1, .int l2, .int v4, .null, .null] [.int v7, .ref 51] M8 Q
            refine ex_invS (as := [.ref 51, .int v7]) (L2 := [.ref 51, .int v7, .null]) (st := []) 0 0 dX7_intervals_57 lk_X7_126 sl_X7_find (rmK_of rfl) rfl (Nat.le_of_ble_eq_true rfl) (Nat.le_of_ble_eq_true rfl) (t_X7_find 51 (fa_d rfl) v7 M8 _ h) (fun v9 M10 h => ?_)
            show Ex true mX7_intervals 78 78 0 0 60 [.ref 46, .int l1, .int l2, .int v4, .null, .null] [.int v9] M10 Q
            refine ex_istore (L2 := [.ref 46, .int l1, .int l2, .int v4, .int v9, .null]) dX7_intervals_60 (by decide) rfl rfl ?_
            refine ex_iload dX7_intervals_62 rfl ?_
            have hJ29 : ∀ z11 : Int32, z11 = (if v9 < 0 then 0 else 1) → Ex true mX7_intervals 78 78 0 0 72 [.ref 46, .int l1, .int l2, .int v4, .int v9, .null] [.int z11] M10 Q := by
              intro z11 ez11
              replace h := h z11 ez11
              refine ex_istore_n (L2 := [.ref 46, .int l1, .int z11, .int v4, .int v9, .null]) dX7_intervals_72 (by decide) rfl rfl ?_
              refine ex_iload_n dX7_intervals_73 rfl ?_
              refine ex_if_eq (tgt := 198) dX7_intervals_74 (by decide) (fun c_74 => ?_) (fun c_74 => ?_)
              · replace h := h.1 c_74
                refine ex_goto (tgt := 2) dX7_intervals_198 (by decide) ?_
                refine ex_less (L2 := [.ref 46, .int l1, .int z11, .null, .null, .null]) ?_ (by intro i v hi hn; match i, hi with | 0, hi => exact hi | 1, hi => exact hi | 2, hi => exact hi | 3, hi => (cases hi; cases hn) | 4, hi => (cases hi; cases hn) | 5, hi => exact hi | k + 6, hi => (exact absurd hi (by simp)))
                exact hB2 l1 z11 M10 h
              · replace h := h.2 c_74
                refine ex_aload_n dX7_intervals_77 rfl ?_
                refine ex_dup dX7_intervals_78 rfl ?_
                refine ex_getI (ci := 7) (j := 24) dX7_intervals_79 (by decide) rfl rfl lk_X7_130 ?_
                refine ex_iload_n dX7_intervals_82 rfl ?_
                have hJ28 : ∀ z12 : Int32, z12 = (if v4 ≤ 0 then 0 else 1) → Ex true mX7_intervals 78 78 0 0 91 [.ref 46, .int l1, .int z11, .int v4, .int v9, .null] [.int z12, .int (M10 46 24), .ref 46] M10 Q := by
                  intro z12 ez12
                  replace h := h z12 ez12
                  refine ex_iadd dX7_intervals_91 ?_
                  refine ex_putI (ci := 7) (j := 24) dX7_intervals_92 (by decide) rfl rfl lk_X7_130 ⟨rfl, rfl⟩ ?_
                  refine ex_nmM (fun M13 eM13 => ?_)
                  replace h := h M13 eM13
                  refine ex_aload_n dX7_intervals_95 rfl ?_
                  refine ex_getR (ci := 7) (j := 10) (v := 55) dX7_intervals_96 (by decide) rfl rfl lk_X7_38 rfl (by decide) ?_
                  refine ex_iconst (v := 1) dX7_intervals_99 (by decide) ?_
                  obtain ⟨b14, h⟩ := h
                  refine ex_iald dX7_intervals_100 (by decide) rfl b14 ?_
                  refine ex_iconst (v := 2) dX7_intervals_101 (by decide) ?_
                  obtain ⟨khJ27, h⟩ := h
                  have hJ27 : ∀ z17 : Int32, z17 = (if (M13 55 (Int32.toNatClampNeg 1)) = 2 then (((M13 60 (Int32.toNatClampNeg l1)) + v9) + 1) else (((M13 60 (Int32.toNatClampNeg l1)) - v9) - 1)) → Ex true mX7_intervals 78 78 0 0 130 [.ref 46, .int l1, .int z11, .int v4, .int v9, .null] [.int z17] M13 Q := by
                    intro z17 ez17
                    replace h := h z17 ez17
                    refine ex_istore (L2 := [.ref 46, .int l1, .int z11, .int v4, .int v9, .int z17]) dX7_intervals_130 (by decide) rfl rfl ?_
                    refine ex_iload dX7_intervals_132 rfl ?_
                    refine ex_bipush (v := 7) dX7_intervals_134 (by decide) ?_
                    refine ex_icmp_lt (tgt := 146) dX7_intervals_136 (by decide) (fun c_136 => ?_) (fun c_136 => ?_)
                    · replace h := h.1 c_136
                      exact t_X7_intervals_146   Q B2 hB2 l1 z11 v4 v9 z17 M13 h
                    · replace h := h.2 c_136
                      refine ex_iload dX7_intervals_139 rfl ?_
                      refine ex_bipush (v := 55) dX7_intervals_141 (by decide) ?_
                      refine ex_icmp_le (tgt := 154) dX7_intervals_143 (by decide) (fun c_143 => ?_) (fun c_143 => ?_)
                      · replace h := h.1 c_143
                        exact t_X7_intervals_154   Q B2 hB2 l1 z11 v4 v9 z17 M13 h
                      · replace h := h.2 c_143
                        exact t_X7_intervals_146   Q B2 hB2 l1 z11 v4 v9 z17 M13 h
                  refine ex_icmp_ne (tgt := 119) dX7_intervals_102 (by decide) (fun c_102 => ?_) (fun c_102 => ?_)
                  · replace h := khJ27.1 c_102
                    refine ex_aload_n dX7_intervals_119 rfl ?_
                    refine ex_getR (ci := 7) (j := 15) (v := 60) dX7_intervals_120 (by decide) rfl rfl lk_X7_53 rfl (by decide) ?_
                    refine ex_iload_n dX7_intervals_123 rfl ?_
                    obtain ⟨b15, h⟩ := h
                    refine ex_iald dX7_intervals_124 (by decide) rfl b15 ?_
                    refine ex_iload dX7_intervals_125 rfl ?_
                    refine ex_isub dX7_intervals_127 ?_
                    refine ex_iconst (v := 1) dX7_intervals_128 (by decide) ?_
                    refine ex_isub dX7_intervals_129 ?_
                    exact hJ27 _ (by rw [if_neg c_102])
                  · replace h := khJ27.2 c_102
                    refine ex_aload_n dX7_intervals_105 rfl ?_
                    refine ex_getR (ci := 7) (j := 15) (v := 60) dX7_intervals_106 (by decide) rfl rfl lk_X7_53 rfl (by decide) ?_
                    refine ex_iload_n dX7_intervals_109 rfl ?_
                    obtain ⟨b16, h⟩ := h
                    refine ex_iald dX7_intervals_110 (by decide) rfl b16 ?_
                    refine ex_iload dX7_intervals_111 rfl ?_
                    refine ex_iadd dX7_intervals_113 ?_
                    refine ex_iconst (v := 1) dX7_intervals_114 (by decide) ?_
                    refine ex_iadd dX7_intervals_115 ?_
                    refine ex_goto (tgt := 130) dX7_intervals_116 (by decide) ?_
                    exact hJ27 _ (by rw [if_pos c_102])
                refine ex_if_le (tgt := 90) dX7_intervals_83 (by decide) (fun c_83 => ?_) (fun c_83 => ?_)
                ·
                  refine ex_iconst (v := 0) dX7_intervals_90 (by decide) ?_
                  exact hJ28 _ (by rw [if_pos c_83])
                ·
                  refine ex_iconst (v := 1) dX7_intervals_86 (by decide) ?_
                  refine ex_goto (tgt := 91) dX7_intervals_87 (by decide) ?_
                  exact hJ28 _ (by rw [if_neg c_83])
            refine ex_if_lt (tgt := 71) dX7_intervals_64 (by decide) (fun c_64 => ?_) (fun c_64 => ?_)
            ·
              refine ex_iconst (v := 0) dX7_intervals_71 (by decide) ?_
              exact hJ29 _ (by rw [if_pos c_64])
            ·
              refine ex_iconst (v := 1) dX7_intervals_67 (by decide) ?_
              refine ex_goto (tgt := 72) dX7_intervals_68 (by decide) ?_
              exact hJ29 _ (by rw [if_neg c_64])
          refine ex_if_le (tgt := 52) dX7_intervals_45 (by decide) (fun c_45 => ?_) (fun c_45 => ?_)
          ·
            refine ex_iconst (v := 0) dX7_intervals_52 (by decide) ?_
            exact hJ30 _ (by rw [if_pos c_45])
          ·
            refine ex_iconst (v := 1) dX7_intervals_48 (by decide) ?_
            refine ex_goto (tgt := 53) dX7_intervals_49 (by decide) ?_
            exact hJ30 _ (by rw [if_neg c_45])
def w_X7_intervals (p1 : Int32) (M : Mem) (Q : Int32 → Mem → Prop) : Prop := ∃ k, w_X7_intervals_2  Q  k p1 1 M
theorem t_X7_intervals (p1 : Int32) (M : Mem) (Q : Int32 → Mem → Prop) (h : w_X7_intervals  p1 M Q) : Ex true mX7_intervals 78 78 0 0 0 [.ref 46, .int p1, .null, .null, .null, .null] [] M Q := by
  unfold w_X7_intervals at h
  refine ex_iconst (v := 1) dX7_intervals_0 (by decide) ?_
  refine ex_istore_n (L2 := [.ref 46, .int p1, .int 1, .null, .null, .null]) dX7_intervals_1 (by decide) rfl rfl ?_
  obtain ⟨k_, h⟩ := h
  exact t_X7_intervals_2   Q   k_ p1 1 M h
def w_X7_readSlur_98 (Q : Int32 → Mem → Prop) (l1 : Int32) (M : Mem) : Prop := (((M 46 26) = 0) → (Q 0 M)) ∧ (¬ ((M 46 26) = 0) → ((vp_in l1 1200) ∧ (∀ M4 : Mem, M4 = (mset M 66 (Int32.toNatClampNeg l1) 1) → Q 0 M4)))
theorem t_X7_readSlur_98 (Q : Int32 → Mem → Prop) (l1 : Int32) (M : Mem) (h : w_X7_readSlur_98  Q  l1 M) : Ex true mX7_readSlur 78 78 0 0 98 [.ref 46, .int l1] [] M Q := by
  unfold w_X7_readSlur_98 at h
  refine ex_aload_n dX7_readSlur_98 rfl ?_
  refine ex_getI (ci := 7) (j := 26) dX7_readSlur_99 (by decide) rfl rfl lk_X7_153 ?_
  refine ex_if_eq (tgt := 112) dX7_readSlur_102 (by decide) (fun c_102 => ?_) (fun c_102 => ?_)
  · replace h := h.1 c_102
    exact ex_vret dX7_readSlur_112 rfl rfl h
  · replace h := h.2 c_102
    refine ex_aload_n dX7_readSlur_105 rfl ?_
    refine ex_getR (ci := 7) (j := 21) (v := 66) dX7_readSlur_106 (by decide) rfl rfl lk_X7_71 rfl (by decide) ?_
    refine ex_iload_n dX7_readSlur_109 rfl ?_
    refine ex_iconst (v := 1) dX7_readSlur_110 (by decide) ?_
    obtain ⟨b3, h⟩ := h
    refine ex_iast dX7_readSlur_111 (by decide) rfl b3 ?_
    refine ex_nmM (fun M4 eM4 => ?_)
    replace h := h M4 eM4
    exact ex_vret dX7_readSlur_112 rfl rfl h
def w_X7_readSlur_45 (Q : Int32 → Mem → Prop) (l1 : Int32) (M : Mem) : Prop := (((M 46 26) = 0) → (w_X7_readSlur_98  Q  l1 M)) ∧ (¬ ((M 46 26) = 0) → (w_X7_peek (M 46 24) M (fun v5 M6 => (¬ (v5 = 24) → (w_X7_readSlur_98  Q  l1 M6)) ∧ ((v5 = 24) → (w_X7_peek ((M6 46 24) + 1) M6 (fun v7 M8 => (¬ (v7 = 6) → (w_X7_readSlur_98  Q  l1 M8)) ∧ ((v7 = 6) → (∀ M9 : Mem, M9 = (mset M8 46 26 0) → ∀ M10 : Mem, M10 = (mset M9 46 24 ((M9 46 24) + 2)) → Q 0 M10))))))))
theorem t_X7_readSlur_45 (Q : Int32 → Mem → Prop) (l1 : Int32) (M : Mem) (h : w_X7_readSlur_45  Q  l1 M) : Ex true mX7_readSlur 78 78 0 0 45 [.ref 46, .int l1] [] M Q := by
  unfold w_X7_readSlur_45 at h
  refine ex_aload_n dX7_readSlur_45 rfl ?_
  refine ex_getI (ci := 7) (j := 26) dX7_readSlur_46 (by decide) rfl rfl lk_X7_153 ?_
  refine ex_if_eq (tgt := 98) dX7_readSlur_49 (by decide) (fun c_49 => ?_) (fun c_49 => ?_)
  · replace h := h.1 c_49
    exact t_X7_readSlur_98   Q   l1 M h
  · replace h := h.2 c_49
    refine ex_aload_n dX7_readSlur_52 rfl ?_
    refine ex_aload_n dX7_readSlur_53 rfl ?_
    refine ex_getI (ci := 7) (j := 24) dX7_readSlur_54 (by decide) rfl rfl lk_X7_130 ?_
    refine ex_invV (k := 46) (ci := 7) (as := [.int (M 46 24)]) (L2 := [.ref 46, .int (M 46 24)]) (st := []) 0 0 dX7_readSlur_57 lk_X7_133 sl_X7_peek (rmK_of rfl) (by decide) rfl ⟨by decide, rfl⟩ rfl (Nat.le_of_ble_eq_true rfl) (Nat.le_of_ble_eq_true rfl) (t_X7_peek   (M 46 24) M _ h) (fun v5 M6 h => ?_)
    show Ex true mX7_readSlur 78 78 0 0 60 [.ref 46, .int l1] [.int v5] M6 Q
    refine ex_bipush (v := 24) dX7_readSlur_60 (by decide) ?_
    refine ex_icmp_ne (tgt := 98) dX7_readSlur_62 (by decide) (fun c_62 => ?_) (fun c_62 => ?_)
    · replace h := h.1 c_62
      exact t_X7_readSlur_98   Q   l1 M6 h
    · replace h := h.2 c_62
      refine ex_aload_n dX7_readSlur_65 rfl ?_
      refine ex_aload_n dX7_readSlur_66 rfl ?_
      refine ex_getI (ci := 7) (j := 24) dX7_readSlur_67 (by decide) rfl rfl lk_X7_130 ?_
      refine ex_iconst (v := 1) dX7_readSlur_70 (by decide) ?_
      refine ex_iadd dX7_readSlur_71 ?_
      refine ex_invV (k := 46) (ci := 7) (as := [.int ((M6 46 24) + 1)]) (L2 := [.ref 46, .int ((M6 46 24) + 1)]) (st := []) 0 0 dX7_readSlur_72 lk_X7_133 sl_X7_peek (rmK_of rfl) (by decide) rfl ⟨by decide, rfl⟩ rfl (Nat.le_of_ble_eq_true rfl) (Nat.le_of_ble_eq_true rfl) (t_X7_peek   ((M6 46 24) + 1) M6 _ h) (fun v7 M8 h => ?_)
      show Ex true mX7_readSlur 78 78 0 0 75 [.ref 46, .int l1] [.int v7] M8 Q
      refine ex_bipush (v := 6) dX7_readSlur_75 (by decide) ?_
      refine ex_icmp_ne (tgt := 98) dX7_readSlur_77 (by decide) (fun c_77 => ?_) (fun c_77 => ?_)
      · replace h := h.1 c_77
        exact t_X7_readSlur_98   Q   l1 M8 h
      · replace h := h.2 c_77
        refine ex_aload_n dX7_readSlur_80 rfl ?_
        refine ex_iconst (v := 0) dX7_readSlur_81 (by decide) ?_
        refine ex_putI (ci := 7) (j := 26) dX7_readSlur_82 (by decide) rfl rfl lk_X7_153 ⟨rfl, rfl⟩ ?_
        refine ex_nmM (fun M9 eM9 => ?_)
        replace h := h M9 eM9
        refine ex_aload_n dX7_readSlur_85 rfl ?_
        refine ex_dup dX7_readSlur_86 rfl ?_
        refine ex_getI (ci := 7) (j := 24) dX7_readSlur_87 (by decide) rfl rfl lk_X7_130 ?_
        refine ex_iconst (v := 2) dX7_readSlur_90 (by decide) ?_
        refine ex_iadd dX7_readSlur_91 ?_
        refine ex_putI (ci := 7) (j := 24) dX7_readSlur_92 (by decide) rfl rfl lk_X7_130 ⟨rfl, rfl⟩ ?_
        refine ex_nmM (fun M10 eM10 => ?_)
        replace h := h M10 eM10
        refine ex_goto (tgt := 112) dX7_readSlur_95 (by decide) ?_
        exact ex_vret dX7_readSlur_112 rfl rfl h
def w_X7_readSlur_28 (Q : Int32 → Mem → Prop) (l1 : Int32) (M : Mem) : Prop := (vp_in l1 1200) ∧ (∀ M12 : Mem, M12 = (mset M 66 (Int32.toNatClampNeg l1) 1) → ∀ M13 : Mem, M13 = (mset M12 46 24 ((M12 46 24) + 1)) → w_X7_readSlur_45  Q  l1 M13)
theorem t_X7_readSlur_28 (Q : Int32 → Mem → Prop) (l1 : Int32) (M : Mem) (h : w_X7_readSlur_28  Q  l1 M) : Ex true mX7_readSlur 78 78 0 0 28 [.ref 46, .int l1] [] M Q := by
  unfold w_X7_readSlur_28 at h
  refine ex_aload_n dX7_readSlur_28 rfl ?_
  refine ex_getR (ci := 7) (j := 21) (v := 66) dX7_readSlur_29 (by decide) rfl rfl lk_X7_71 rfl (by decide) ?_
  refine ex_iload_n dX7_readSlur_32 rfl ?_
  refine ex_iconst (v := 1) dX7_readSlur_33 (by decide) ?_
  obtain ⟨b11, h⟩ := h
  refine ex_iast dX7_readSlur_34 (by decide) rfl b11 ?_
  refine ex_nmM (fun M12 eM12 => ?_)
  replace h := h M12 eM12
  refine ex_aload_n dX7_readSlur_35 rfl ?_
  refine ex_dup dX7_readSlur_36 rfl ?_
  refine ex_getI (ci := 7) (j := 24) dX7_readSlur_37 (by decide) rfl rfl lk_X7_130 ?_
  refine ex_iconst (v := 1) dX7_readSlur_40 (by decide) ?_
  refine ex_iadd dX7_readSlur_41 ?_
  refine ex_putI (ci := 7) (j := 24) dX7_readSlur_42 (by decide) rfl rfl lk_X7_130 ⟨rfl, rfl⟩ ?_
  refine ex_nmM (fun M13 eM13 => ?_)
  replace h := h M13 eM13
  exact t_X7_readSlur_45   Q   l1 M13 h
def w_X7_readSlur (p1 : Int32) (M : Mem) (Q : Int32 → Mem → Prop) : Prop := w_X7_peek (M 46 24) M (fun v1 M2 => (¬ (v1 = 9) → (w_X7_readSlur_45  Q  p1 M2)) ∧ ((v1 = 9) → ((((M2 46 26) = 0) → (w_X7_readSlur_28  Q  p1 M2)) ∧ (¬ ((M2 46 26) = 0) → (w_X7_fail (M2 46 24) M2 (fun v14 M15 => w_X7_readSlur_28  Q  p1 M15))))))
theorem t_X7_readSlur (p1 : Int32) (M : Mem) (Q : Int32 → Mem → Prop) (h : w_X7_readSlur  p1 M Q) : Ex true mX7_readSlur 78 78 0 0 0 [.ref 46, .int p1] [] M Q := by
  unfold w_X7_readSlur at h
  refine ex_aload_n dX7_readSlur_0 rfl ?_
  refine ex_aload_n dX7_readSlur_1 rfl ?_
  refine ex_getI (ci := 7) (j := 24) dX7_readSlur_2 (by decide) rfl rfl lk_X7_130 ?_
  refine ex_invV (k := 46) (ci := 7) (as := [.int (M 46 24)]) (L2 := [.ref 46, .int (M 46 24)]) (st := []) 0 0 dX7_readSlur_5 lk_X7_133 sl_X7_peek (rmK_of rfl) (by decide) rfl ⟨by decide, rfl⟩ rfl (Nat.le_of_ble_eq_true rfl) (Nat.le_of_ble_eq_true rfl) (t_X7_peek   (M 46 24) M _ h) (fun v1 M2 h => ?_)
  show Ex true mX7_readSlur 78 78 0 0 8 [.ref 46, .int p1] [.int v1] M2 Q
  refine ex_bipush (v := 9) dX7_readSlur_8 (by decide) ?_
  refine ex_icmp_ne (tgt := 45) dX7_readSlur_10 (by decide) (fun c_10 => ?_) (fun c_10 => ?_)
  · replace h := h.1 c_10
    exact t_X7_readSlur_45   Q   p1 M2 h
  · replace h := h.2 c_10
    refine ex_aload_n dX7_readSlur_13 rfl ?_
    refine ex_getI (ci := 7) (j := 26) dX7_readSlur_14 (by decide) rfl rfl lk_X7_153 ?_
    refine ex_if_eq (tgt := 28) dX7_readSlur_17 (by decide) (fun c_17 => ?_) (fun c_17 => ?_)
    · replace h := h.1 c_17
      exact t_X7_readSlur_28   Q   p1 M2 h
    · replace h := h.2 c_17
      refine ex_aload_n dX7_readSlur_20 rfl ?_
      refine ex_aload_n dX7_readSlur_21 rfl ?_
      refine ex_getI (ci := 7) (j := 24) dX7_readSlur_22 (by decide) rfl rfl lk_X7_130 ?_
      refine ex_invV (k := 46) (ci := 7) (as := [.int (M2 46 24)]) (L2 := [.ref 46, .int (M2 46 24)]) (st := []) 0 0 dX7_readSlur_25 lk_X7_146 sl_X7_fail (rmK_of rfl) (by decide) rfl ⟨by decide, rfl⟩ rfl (Nat.le_of_ble_eq_true rfl) (Nat.le_of_ble_eq_true rfl) (t_X7_fail   (M2 46 24) M2 _ h) (fun v14 M15 h => ?_)
      show Ex true mX7_readSlur 78 78 0 0 28 [.ref 46, .int p1] [] M15 Q
      exact t_X7_readSlur_28   Q   p1 M15 h
def w_X7_readItem_223 (Q : Int32 → Mem → Prop) (l1 : Int32) (l2 : Int32) (l3 : Int32) (l4 : Int32) (M : Mem) : Prop := (vp_in 1 2) ∧ ((vp_in 1 2) ∧ (∀ M31 : Mem, M31 = (mset M 54 (Int32.toNatClampNeg 1) ((M 54 (Int32.toNatClampNeg 1)) + 1)) → Q 0 M31))
theorem t_X7_readItem_223 (Q : Int32 → Mem → Prop) (l1 : Int32) (l2 : Int32) (l3 : Int32) (l4 : Int32) (M : Mem) (h : w_X7_readItem_223  Q  l1 l2 l3 l4 M) : Ex true mX7_readItem 78 78 0 0 223 [.ref 46, .int l1, .int l2, .int l3, .int l4] [] M Q := by
  unfold w_X7_readItem_223 at h
  refine ex_aload_n dX7_readItem_223 rfl ?_
  refine ex_getR (ci := 7) (j := 9) (v := 54) dX7_readItem_224 (by decide) rfl rfl lk_X7_35 rfl (by decide) ?_
  refine ex_iconst (v := 1) dX7_readItem_227 (by decide) ?_
  refine ex_dup2 dX7_readItem_228 rfl rfl ?_
  obtain ⟨b29, h⟩ := h
  refine ex_iald dX7_readItem_229 (by decide) rfl b29 ?_
  refine ex_iconst (v := 1) dX7_readItem_230 (by decide) ?_
  refine ex_iadd dX7_readItem_231 ?_
  obtain ⟨b30, h⟩ := h
  refine ex_iast dX7_readItem_232 (by decide) rfl b30 ?_
  refine ex_nmM (fun M31 eM31 => ?_)
  replace h := h M31 eM31
  exact ex_vret dX7_readItem_233 rfl rfl h
def w_X7_readItem_211 (Q : Int32 → Mem → Prop) (l1 : Int32) (l2 : Int32) (l3 : Int32) (l4 : Int32) (M : Mem) : Prop := ((0 ≤ (M 46 25)) → (w_X7_readItem_223  Q  l1 l2 l3 l4 M)) ∧ (¬ (0 ≤ (M 46 25)) → (w_X7_readSlur l3 M (fun v32 M33 => w_X7_readItem_223  Q  l1 l2 l3 l4 M33)))
theorem t_X7_readItem_211 (Q : Int32 → Mem → Prop) (l1 : Int32) (l2 : Int32) (l3 : Int32) (l4 : Int32) (M : Mem) (h : w_X7_readItem_211  Q  l1 l2 l3 l4 M) : Ex true mX7_readItem 78 78 0 0 211 [.ref 46, .int l1, .int l2, .int l3, .int l4] [] M Q := by
  unfold w_X7_readItem_211 at h
  refine ex_aload_n dX7_readItem_211 rfl ?_
  refine ex_getI (ci := 7) (j := 25) dX7_readItem_212 (by decide) rfl rfl lk_X7_120 ?_
  refine ex_if_ge (tgt := 223) dX7_readItem_215 (by decide) (fun c_215 => ?_) (fun c_215 => ?_)
  · replace h := h.1 c_215
    exact t_X7_readItem_223   Q   l1 l2 l3 l4 M h
  · replace h := h.2 c_215
    refine ex_aload_n dX7_readItem_218 rfl ?_
    refine ex_iload_n dX7_readItem_219 rfl ?_
    refine ex_invV (k := 46) (ci := 7) (as := [.int l3]) (L2 := [.ref 46, .int l3]) (st := []) 0 0 dX7_readItem_220 lk_X7_179 sl_X7_readSlur (rmK_of rfl) (by decide) rfl ⟨by decide, rfl⟩ rfl (Nat.le_of_ble_eq_true rfl) (Nat.le_of_ble_eq_true rfl) (t_X7_readSlur   l3 M _ h) (fun v32 M33 h => ?_)
    show Ex true mX7_readItem 78 78 0 0 223 [.ref 46, .int l1, .int l2, .int l3, .int l4] [] M33 Q
    exact t_X7_readItem_223   Q   l1 l2 l3 l4 M33 h
def w_X7_readItem_159 (Q : Int32 → Mem → Prop) (l1 : Int32) (l2 : Int32) (l3 : Int32) (l4 : Int32) (M : Mem) : Prop := ((0 ≤ (M 46 25)) → (w_X7_readItem_211  Q  l1 l2 l3 l4 M)) ∧ (¬ (0 ≤ (M 46 25)) → (w_X7_peek (M 46 24) M (fun v34 M35 => (¬ (v34 = 8) → (w_X7_readItem_211  Q  l1 l2 l3 l4 M35)) ∧ ((v34 = 8) → (w_X7_peek ((M35 46 24) + 1) M35 (fun v36 M37 => (¬ (v36 = 9) → (w_X7_readItem_211  Q  l1 l2 l3 l4 M37)) ∧ ((v36 = 9) → ((vp_in l3 1200) ∧ (∀ M39 : Mem, M39 = (mset M37 65 (Int32.toNatClampNeg l3) 1) → ∀ M40 : Mem, M40 = (mset M39 46 24 ((M39 46 24) + 2)) → w_X7_readItem_211  Q  l1 l2 l3 l4 M40)))))))))
theorem t_X7_readItem_159 (Q : Int32 → Mem → Prop) (l1 : Int32) (l2 : Int32) (l3 : Int32) (l4 : Int32) (M : Mem) (h : w_X7_readItem_159  Q  l1 l2 l3 l4 M) : Ex true mX7_readItem 78 78 0 0 159 [.ref 46, .int l1, .int l2, .int l3, .int l4] [] M Q := by
  unfold w_X7_readItem_159 at h
  refine ex_aload_n dX7_readItem_159 rfl ?_
  refine ex_getI (ci := 7) (j := 25) dX7_readItem_160 (by decide) rfl rfl lk_X7_120 ?_
  refine ex_if_ge (tgt := 211) dX7_readItem_163 (by decide) (fun c_163 => ?_) (fun c_163 => ?_)
  · replace h := h.1 c_163
    exact t_X7_readItem_211   Q   l1 l2 l3 l4 M h
  · replace h := h.2 c_163
    refine ex_aload_n dX7_readItem_166 rfl ?_
    refine ex_aload_n dX7_readItem_167 rfl ?_
    refine ex_getI (ci := 7) (j := 24) dX7_readItem_168 (by decide) rfl rfl lk_X7_130 ?_
    refine ex_invV (k := 46) (ci := 7) (as := [.int (M 46 24)]) (L2 := [.ref 46, .int (M 46 24)]) (st := []) 0 0 dX7_readItem_171 lk_X7_133 sl_X7_peek (rmK_of rfl) (by decide) rfl ⟨by decide, rfl⟩ rfl (Nat.le_of_ble_eq_true rfl) (Nat.le_of_ble_eq_true rfl) (t_X7_peek   (M 46 24) M _ h) (fun v34 M35 h => ?_)
    show Ex true mX7_readItem 78 78 0 0 174 [.ref 46, .int l1, .int l2, .int l3, .int l4] [.int v34] M35 Q
    refine ex_bipush (v := 8) dX7_readItem_174 (by decide) ?_
    refine ex_icmp_ne (tgt := 211) dX7_readItem_176 (by decide) (fun c_176 => ?_) (fun c_176 => ?_)
    · replace h := h.1 c_176
      exact t_X7_readItem_211   Q   l1 l2 l3 l4 M35 h
    · replace h := h.2 c_176
      refine ex_aload_n dX7_readItem_179 rfl ?_
      refine ex_aload_n dX7_readItem_180 rfl ?_
      refine ex_getI (ci := 7) (j := 24) dX7_readItem_181 (by decide) rfl rfl lk_X7_130 ?_
      refine ex_iconst (v := 1) dX7_readItem_184 (by decide) ?_
      refine ex_iadd dX7_readItem_185 ?_
      refine ex_invV (k := 46) (ci := 7) (as := [.int ((M35 46 24) + 1)]) (L2 := [.ref 46, .int ((M35 46 24) + 1)]) (st := []) 0 0 dX7_readItem_186 lk_X7_133 sl_X7_peek (rmK_of rfl) (by decide) rfl ⟨by decide, rfl⟩ rfl (Nat.le_of_ble_eq_true rfl) (Nat.le_of_ble_eq_true rfl) (t_X7_peek   ((M35 46 24) + 1) M35 _ h) (fun v36 M37 h => ?_)
      show Ex true mX7_readItem 78 78 0 0 189 [.ref 46, .int l1, .int l2, .int l3, .int l4] [.int v36] M37 Q
      refine ex_bipush (v := 9) dX7_readItem_189 (by decide) ?_
      refine ex_icmp_ne (tgt := 211) dX7_readItem_191 (by decide) (fun c_191 => ?_) (fun c_191 => ?_)
      · replace h := h.1 c_191
        exact t_X7_readItem_211   Q   l1 l2 l3 l4 M37 h
      · replace h := h.2 c_191
        refine ex_aload_n dX7_readItem_194 rfl ?_
        refine ex_getR (ci := 7) (j := 20) (v := 65) dX7_readItem_195 (by decide) rfl rfl lk_X7_68 rfl (by decide) ?_
        refine ex_iload_n dX7_readItem_198 rfl ?_
        refine ex_iconst (v := 1) dX7_readItem_199 (by decide) ?_
        obtain ⟨b38, h⟩ := h
        refine ex_iast dX7_readItem_200 (by decide) rfl b38 ?_
        refine ex_nmM (fun M39 eM39 => ?_)
        replace h := h M39 eM39
        refine ex_aload_n dX7_readItem_201 rfl ?_
        refine ex_dup dX7_readItem_202 rfl ?_
        refine ex_getI (ci := 7) (j := 24) dX7_readItem_203 (by decide) rfl rfl lk_X7_130 ?_
        refine ex_iconst (v := 2) dX7_readItem_206 (by decide) ?_
        refine ex_iadd dX7_readItem_207 ?_
        refine ex_putI (ci := 7) (j := 24) dX7_readItem_208 (by decide) rfl rfl lk_X7_130 ⟨rfl, rfl⟩ ?_
        refine ex_nmM (fun M40 eM40 => ?_)
        replace h := h M40 eM40
        exact t_X7_readItem_211   Q   l1 l2 l3 l4 M40 h
def w_X7_readItem (p1 : Int32) (p2 : Int32) (M : Mem) (Q : Int32 → Mem → Prop) : Prop := (vp_in 1 2) ∧ (∀ x2 : Int32, x2 = (600 + (M 54 (Int32.toNatClampNeg 1))) → (vp_in x2 1200) ∧ (∀ M4 : Mem, M4 = (mset M 58 (Int32.toNatClampNeg x2) p1) → (vp_in x2 1200) ∧ (∀ M6 : Mem, M6 = (mset M4 59 (Int32.toNatClampNeg x2) p2) → (vp_in x2 1200) ∧ (∀ M8 : Mem, M8 = (mset M6 60 (Int32.toNatClampNeg x2) (-1)) → (vp_in x2 1200) ∧ (∀ M10 : Mem, M10 = (mset M8 61 (Int32.toNatClampNeg x2) 0) → (vp_in x2 1200) ∧ (∀ M12 : Mem, M12 = (mset M10 64 (Int32.toNatClampNeg x2) 0) → (vp_in x2 1200) ∧ (∀ M14 : Mem, M14 = (mset M12 65 (Int32.toNatClampNeg x2) 0) → (vp_in x2 1200) ∧ (∀ M16 : Mem, M16 = (mset M14 66 (Int32.toNatClampNeg x2) 0) → (vp_in x2 1200) ∧ (∀ M18 : Mem, M18 = (mset M16 67 (Int32.toNatClampNeg x2) 0) → w_X7_ahead M18 (fun v19 M20 => (((M20 46 25) < 0) → ((vp_in x2 1200) ∧ (∀ M22 : Mem, M22 = (mset M20 63 (Int32.toNatClampNeg x2) (M20 46 39)) → w_X7_peek (M22 46 24) M22 (fun v23 M24 => w_X7_find 49 v23 M24 (fun v25 M26 => ((v25 < 0) → (w_X7_readNote x2 M26 (fun v27 M28 => ((0 ≤ (M28 46 25)) → (w_X7_readItem_159  Q  p1 p2 x2 v25 M28)) ∧ (¬ (0 ≤ (M28 46 25)) → (w_X7_dotted x2 M28 (fun v41 M42 => w_X7_intervals x2 M42 (fun v43 M44 => w_X7_readItem_159  Q  p1 p2 x2 v25 M44))))))) ∧ (¬ (v25 < 0) → ((vp_in x2 1200) ∧ (∀ M46 : Mem, M46 = (mset M26 62 (Int32.toNatClampNeg x2) v25) → ∀ M47 : Mem, M47 = (mset M46 46 24 ((M46 46 24) + 1)) → w_X7_dotted x2 M47 (fun v48 M49 => w_X7_readItem_211  Q  p1 p2 x2 v25 M49))))))))) ∧ (¬ ((M20 46 25) < 0) → (Q 0 M20))))))))))))
theorem t_X7_readItem (p1 : Int32) (p2 : Int32) (M : Mem) (Q : Int32 → Mem → Prop) (h : w_X7_readItem  p1 p2 M Q) : Ex true mX7_readItem 78 78 0 0 0 [.ref 46, .int p1, .int p2, .null, .null] [] M Q := by
  unfold w_X7_readItem at h
  refine ex_sipush (v := 600) dX7_readItem_0 (by decide) ?_
  refine ex_aload_n dX7_readItem_3 rfl ?_
  refine ex_getR (ci := 7) (j := 9) (v := 54) dX7_readItem_4 (by decide) rfl rfl lk_X7_35 rfl (by decide) ?_
  refine ex_iconst (v := 1) dX7_readItem_7 (by decide) ?_
  obtain ⟨b1, h⟩ := h
  refine ex_iald dX7_readItem_8 (by decide) rfl b1 ?_
  refine ex_iadd dX7_readItem_9 ?_
  refine ex_top (fun x2 ex2 => ?_)
  replace h := h x2 ex2
  refine ex_istore_n (L2 := [.ref 46, .int p1, .int p2, .int x2, .null]) dX7_readItem_10 (by decide) rfl rfl ?_
  refine ex_aload_n dX7_readItem_11 rfl ?_
  refine ex_getR (ci := 7) (j := 13) (v := 58) dX7_readItem_12 (by decide) rfl rfl lk_X7_47 rfl (by decide) ?_
  refine ex_iload_n dX7_readItem_15 rfl ?_
  refine ex_iload_n dX7_readItem_16 rfl ?_
  obtain ⟨b3, h⟩ := h
  refine ex_iast dX7_readItem_17 (by decide) rfl b3 ?_
  refine ex_nmM (fun M4 eM4 => ?_)
  replace h := h M4 eM4
  refine ex_aload_n dX7_readItem_18 rfl ?_
  refine ex_getR (ci := 7) (j := 14) (v := 59) dX7_readItem_19 (by decide) rfl rfl lk_X7_50 rfl (by decide) ?_
  refine ex_iload_n dX7_readItem_22 rfl ?_
  refine ex_iload_n dX7_readItem_23 rfl ?_
  obtain ⟨b5, h⟩ := h
  refine ex_iast dX7_readItem_24 (by decide) rfl b5 ?_
  refine ex_nmM (fun M6 eM6 => ?_)
  replace h := h M6 eM6
  refine ex_aload_n dX7_readItem_25 rfl ?_
  refine ex_getR (ci := 7) (j := 15) (v := 60) dX7_readItem_26 (by decide) rfl rfl lk_X7_53 rfl (by decide) ?_
  refine ex_iload_n dX7_readItem_29 rfl ?_
  refine ex_iconst (v := (-1)) dX7_readItem_30 (by decide) ?_
  obtain ⟨b7, h⟩ := h
  refine ex_iast dX7_readItem_31 (by decide) rfl b7 ?_
  refine ex_nmM (fun M8 eM8 => ?_)
  replace h := h M8 eM8
  refine ex_aload_n dX7_readItem_32 rfl ?_
  refine ex_getR (ci := 7) (j := 16) (v := 61) dX7_readItem_33 (by decide) rfl rfl lk_X7_56 rfl (by decide) ?_
  refine ex_iload_n dX7_readItem_36 rfl ?_
  refine ex_iconst (v := 0) dX7_readItem_37 (by decide) ?_
  obtain ⟨b9, h⟩ := h
  refine ex_iast dX7_readItem_38 (by decide) rfl b9 ?_
  refine ex_nmM (fun M10 eM10 => ?_)
  replace h := h M10 eM10
  refine ex_aload_n dX7_readItem_39 rfl ?_
  refine ex_getR (ci := 7) (j := 19) (v := 64) dX7_readItem_40 (by decide) rfl rfl lk_X7_65 rfl (by decide) ?_
  refine ex_iload_n dX7_readItem_43 rfl ?_
  refine ex_iconst (v := 0) dX7_readItem_44 (by decide) ?_
  obtain ⟨b11, h⟩ := h
  refine ex_iast dX7_readItem_45 (by decide) rfl b11 ?_
  refine ex_nmM (fun M12 eM12 => ?_)
  replace h := h M12 eM12
  refine ex_aload_n dX7_readItem_46 rfl ?_
  refine ex_getR (ci := 7) (j := 20) (v := 65) dX7_readItem_47 (by decide) rfl rfl lk_X7_68 rfl (by decide) ?_
  refine ex_iload_n dX7_readItem_50 rfl ?_
  refine ex_iconst (v := 0) dX7_readItem_51 (by decide) ?_
  obtain ⟨b13, h⟩ := h
  refine ex_iast dX7_readItem_52 (by decide) rfl b13 ?_
  refine ex_nmM (fun M14 eM14 => ?_)
  replace h := h M14 eM14
  refine ex_aload_n dX7_readItem_53 rfl ?_
  refine ex_getR (ci := 7) (j := 21) (v := 66) dX7_readItem_54 (by decide) rfl rfl lk_X7_71 rfl (by decide) ?_
  refine ex_iload_n dX7_readItem_57 rfl ?_
  refine ex_iconst (v := 0) dX7_readItem_58 (by decide) ?_
  obtain ⟨b15, h⟩ := h
  refine ex_iast dX7_readItem_59 (by decide) rfl b15 ?_
  refine ex_nmM (fun M16 eM16 => ?_)
  replace h := h M16 eM16
  refine ex_aload_n dX7_readItem_60 rfl ?_
  refine ex_getR (ci := 7) (j := 22) (v := 67) dX7_readItem_61 (by decide) rfl rfl lk_X7_74 rfl (by decide) ?_
  refine ex_iload_n dX7_readItem_64 rfl ?_
  refine ex_iconst (v := 0) dX7_readItem_65 (by decide) ?_
  obtain ⟨b17, h⟩ := h
  refine ex_iast dX7_readItem_66 (by decide) rfl b17 ?_
  refine ex_nmM (fun M18 eM18 => ?_)
  replace h := h M18 eM18
  refine ex_aload_n dX7_readItem_67 rfl ?_
  refine ex_invV (k := 46) (ci := 7) (as := []) (L2 := [.ref 46, .null]) (st := []) 0 0 dX7_readItem_68 lk_X7_167 sl_X7_ahead (rmK_of rfl) (by decide) rfl ⟨by decide, rfl⟩ rfl (Nat.le_of_ble_eq_true rfl) (Nat.le_of_ble_eq_true rfl) (t_X7_ahead   M18 _ h) (fun v19 M20 h => ?_)
  show Ex true mX7_readItem 78 78 0 0 71 [.ref 46, .int p1, .int p2, .int x2, .null] [] M20 Q
  refine ex_aload_n dX7_readItem_71 rfl ?_
  refine ex_getI (ci := 7) (j := 25) dX7_readItem_72 (by decide) rfl rfl lk_X7_120 ?_
  refine ex_if_lt (tgt := 79) dX7_readItem_75 (by decide) (fun c_75 => ?_) (fun c_75 => ?_)
  · replace h := h.1 c_75
    refine ex_aload_n dX7_readItem_79 rfl ?_
    refine ex_getR (ci := 7) (j := 18) (v := 63) dX7_readItem_80 (by decide) rfl rfl lk_X7_62 rfl (by decide) ?_
    refine ex_iload_n dX7_readItem_83 rfl ?_
    refine ex_aload_n dX7_readItem_84 rfl ?_
    refine ex_getI (ci := 7) (j := 39) dX7_readItem_85 (by decide) rfl rfl lk_X7_150 ?_
    obtain ⟨b21, h⟩ := h
    refine ex_iast dX7_readItem_88 (by decide) rfl b21 ?_
    refine ex_nmM (fun M22 eM22 => ?_)
    replace h := h M22 eM22
    refine ex_aload_n dX7_readItem_89 rfl ?_
    refine ex_getR (ci := 7) (j := 2) (v := 49) dX7_readItem_90 (by decide) rfl rfl lk_X7_16 rfl (by decide) ?_
    refine ex_aload_n dX7_readItem_93 rfl ?_
    refine ex_aload_n dX7_readItem_94 rfl ?_
    refine ex_getI (ci := 7) (j := 24) dX7_readItem_95 (by decide) rfl rfl lk_X7_130 ?_
    refine ex_invV (k := 46) (ci := 7) (as := [.int (M22 46 24)]) (L2 := [.ref 46, .int (M22 46 24)]) (st := [.ref 49]) 0 0 dX7_readItem_98 lk_X7_133 sl_X7_peek (rmK_of rfl) (by decide) rfl ⟨by decide, rfl⟩ rfl (Nat.le_of_ble_eq_true rfl) (Nat.le_of_ble_eq_true rfl) (t_X7_peek   (M22 46 24) M22 _ h) (fun v23 M24 h => ?_)
    show Ex true mX7_readItem 78 78 0 0 101 [.ref 46, .int p1, .int p2, .int x2, .null] [.int v23, .ref 49] M24 Q
    refine ex_invS (as := [.ref 49, .int v23]) (L2 := [.ref 49, .int v23, .null]) (st := []) 0 0 dX7_readItem_101 lk_X7_126 sl_X7_find (rmK_of rfl) rfl (Nat.le_of_ble_eq_true rfl) (Nat.le_of_ble_eq_true rfl) (t_X7_find 49 (fa_d rfl) v23 M24 _ h) (fun v25 M26 h => ?_)
    show Ex true mX7_readItem 78 78 0 0 104 [.ref 46, .int p1, .int p2, .int x2, .null] [.int v25] M26 Q
    refine ex_istore (L2 := [.ref 46, .int p1, .int p2, .int x2, .int v25]) dX7_readItem_104 (by decide) rfl rfl ?_
    refine ex_iload dX7_readItem_106 rfl ?_
    refine ex_if_lt (tgt := 137) dX7_readItem_108 (by decide) (fun c_108 => ?_) (fun c_108 => ?_)
    · replace h := h.1 c_108
      refine ex_aload_n dX7_readItem_137 rfl ?_
      refine ex_iload_n dX7_readItem_138 rfl ?_
      refine ex_invV (k := 46) (ci := 7) (as := [.int x2]) (L2 := [.ref 46, .int x2, .null, .null, .null, .null, .null]) (st := []) 0 0 dX7_readItem_139 lk_X7_173 sl_X7_readNote (rmK_of rfl) (by decide) rfl ⟨by decide, rfl⟩ rfl (Nat.le_of_ble_eq_true rfl) (Nat.le_of_ble_eq_true rfl) (t_X7_readNote   x2 M26 _ h) (fun v27 M28 h => ?_)
      show Ex true mX7_readItem 78 78 0 0 142 [.ref 46, .int p1, .int p2, .int x2, .int v25] [] M28 Q
      refine ex_aload_n dX7_readItem_142 rfl ?_
      refine ex_getI (ci := 7) (j := 25) dX7_readItem_143 (by decide) rfl rfl lk_X7_120 ?_
      refine ex_if_ge (tgt := 159) dX7_readItem_146 (by decide) (fun c_146 => ?_) (fun c_146 => ?_)
      · replace h := h.1 c_146
        exact t_X7_readItem_159   Q   p1 p2 x2 v25 M28 h
      · replace h := h.2 c_146
        refine ex_aload_n dX7_readItem_149 rfl ?_
        refine ex_iload_n dX7_readItem_150 rfl ?_
        refine ex_invV (k := 46) (ci := 7) (as := [.int x2]) (L2 := [.ref 46, .int x2]) (st := []) 0 0 dX7_readItem_151 lk_X7_170 sl_X7_dotted (rmK_of rfl) (by decide) rfl ⟨by decide, rfl⟩ rfl (Nat.le_of_ble_eq_true rfl) (Nat.le_of_ble_eq_true rfl) (t_X7_dotted   x2 M28 _ h) (fun v41 M42 h => ?_)
        show Ex true mX7_readItem 78 78 0 0 154 [.ref 46, .int p1, .int p2, .int x2, .int v25] [] M42 Q
        refine ex_aload_n dX7_readItem_154 rfl ?_
        refine ex_iload_n dX7_readItem_155 rfl ?_
        refine ex_invV (k := 46) (ci := 7) (as := [.int x2]) (L2 := [.ref 46, .int x2, .null, .null, .null, .null]) (st := []) 0 0 dX7_readItem_156 lk_X7_176 sl_X7_intervals (rmK_of rfl) (by decide) rfl ⟨by decide, rfl⟩ rfl (Nat.le_of_ble_eq_true rfl) (Nat.le_of_ble_eq_true rfl) (t_X7_intervals   x2 M42 _ h) (fun v43 M44 h => ?_)
        show Ex true mX7_readItem 78 78 0 0 159 [.ref 46, .int p1, .int p2, .int x2, .int v25] [] M44 Q
        exact t_X7_readItem_159   Q   p1 p2 x2 v25 M44 h
    · replace h := h.2 c_108
      refine ex_aload_n dX7_readItem_111 rfl ?_
      refine ex_getR (ci := 7) (j := 17) (v := 62) dX7_readItem_112 (by decide) rfl rfl lk_X7_59 rfl (by decide) ?_
      refine ex_iload_n dX7_readItem_115 rfl ?_
      refine ex_iload dX7_readItem_116 rfl ?_
      obtain ⟨b45, h⟩ := h
      refine ex_iast dX7_readItem_118 (by decide) rfl b45 ?_
      refine ex_nmM (fun M46 eM46 => ?_)
      replace h := h M46 eM46
      refine ex_aload_n dX7_readItem_119 rfl ?_
      refine ex_dup dX7_readItem_120 rfl ?_
      refine ex_getI (ci := 7) (j := 24) dX7_readItem_121 (by decide) rfl rfl lk_X7_130 ?_
      refine ex_iconst (v := 1) dX7_readItem_124 (by decide) ?_
      refine ex_iadd dX7_readItem_125 ?_
      refine ex_putI (ci := 7) (j := 24) dX7_readItem_126 (by decide) rfl rfl lk_X7_130 ⟨rfl, rfl⟩ ?_
      refine ex_nmM (fun M47 eM47 => ?_)
      replace h := h M47 eM47
      refine ex_aload_n dX7_readItem_129 rfl ?_
      refine ex_iload_n dX7_readItem_130 rfl ?_
      refine ex_invV (k := 46) (ci := 7) (as := [.int x2]) (L2 := [.ref 46, .int x2]) (st := []) 0 0 dX7_readItem_131 lk_X7_170 sl_X7_dotted (rmK_of rfl) (by decide) rfl ⟨by decide, rfl⟩ rfl (Nat.le_of_ble_eq_true rfl) (Nat.le_of_ble_eq_true rfl) (t_X7_dotted   x2 M47 _ h) (fun v48 M49 h => ?_)
      show Ex true mX7_readItem 78 78 0 0 134 [.ref 46, .int p1, .int p2, .int x2, .int v25] [] M49 Q
      refine ex_goto (tgt := 211) dX7_readItem_134 (by decide) ?_
      exact t_X7_readItem_211   Q   p1 p2 x2 v25 M49 h
  · replace h := h.2 c_75
    exact ex_vret dX7_readItem_78 rfl rfl h
def w_X7_full_70 (Q : Int32 → Mem → Prop) (l1 : Int32) (l2 : Int32) (l3 : Int32) (M : Mem) : Prop := ((l3 = 0) → (Q 0 M)) ∧ (¬ (l3 = 0) → ((((M 46 26) = 0) → (Q 0 M)) ∧ (¬ ((M 46 26) = 0) → (w_X7_fail ((M 46 24) + 1) M (fun v5 M6 => Q 0 M6)))))
theorem t_X7_full_70 (Q : Int32 → Mem → Prop) (l1 : Int32) (l2 : Int32) (l3 : Int32) (M : Mem) (h : w_X7_full_70  Q  l1 l2 l3 M) : Ex true mX7_full 78 78 0 0 70 [.ref 46, .int l1, .int l2, .int l3] [] M Q := by
  unfold w_X7_full_70 at h
  refine ex_iload_n dX7_full_70 rfl ?_
  refine ex_if_eq (tgt := 91) dX7_full_71 (by decide) (fun c_71 => ?_) (fun c_71 => ?_)
  · replace h := h.1 c_71
    exact ex_vret dX7_full_91 rfl rfl h
  · replace h := h.2 c_71
    refine ex_aload_n dX7_full_74 rfl ?_
    refine ex_getI (ci := 7) (j := 26) dX7_full_75 (by decide) rfl rfl lk_X7_153 ?_
    refine ex_if_eq (tgt := 91) dX7_full_78 (by decide) (fun c_78 => ?_) (fun c_78 => ?_)
    · replace h := h.1 c_78
      exact ex_vret dX7_full_91 rfl rfl h
    · replace h := h.2 c_78
      refine ex_aload_n dX7_full_81 rfl ?_
      refine ex_aload_n dX7_full_82 rfl ?_
      refine ex_getI (ci := 7) (j := 24) dX7_full_83 (by decide) rfl rfl lk_X7_130 ?_
      refine ex_iconst (v := 1) dX7_full_86 (by decide) ?_
      refine ex_iadd dX7_full_87 ?_
      refine ex_invV (k := 46) (ci := 7) (as := [.int ((M 46 24) + 1)]) (L2 := [.ref 46, .int ((M 46 24) + 1)]) (st := []) 0 0 dX7_full_88 lk_X7_146 sl_X7_fail (rmK_of rfl) (by decide) rfl ⟨by decide, rfl⟩ rfl (Nat.le_of_ble_eq_true rfl) (Nat.le_of_ble_eq_true rfl) (t_X7_fail   ((M 46 24) + 1) M _ h) (fun v5 M6 h => ?_)
      show Ex true mX7_full 78 78 0 0 91 [.ref 46, .int l1, .int l2, .int l3] [] M6 Q
      exact ex_vret dX7_full_91 rfl rfl h
def w_X7_full (p1 : Int32) (M : Mem) (Q : Int32 → Mem → Prop) : Prop := w_X7_peek (M 46 24) M (fun v1 M2 => (¬ (v1 = 35) → (((p1 = 0) → (w_X7_fail (M2 46 24) M2 (fun v3 M4 => Q 0 M4))) ∧ (¬ (p1 = 0) → ((¬ ((0 : Int32) = 0) → (w_X7_full_70  Q  p1 v1 0 M2)) ∧ (((0 : Int32) = 0) → (((v1 = 0) → (w_X7_full_70  Q  p1 v1 0 M2)) ∧ (¬ (v1 = 0) → (((v1 = 64) → (w_X7_full_70  Q  p1 v1 0 M2)) ∧ (¬ (v1 = 64) → (((v1 = (-1)) → (w_X7_full_70  Q  p1 v1 0 M2)) ∧ (¬ (v1 = (-1)) → (w_X7_fail (M2 46 24) M2 (fun v7 M8 => Q 0 M8))))))))))))) ∧ ((v1 = 35) → (w_X7_peek ((M2 46 24) + 1) M2 (fun v9 M10 => ∀ z11 : Int32, z11 = (if v9 = 28 then 1 else 0) → ((p1 = 0) → (w_X7_fail (M10 46 24) M10 (fun v12 M13 => Q 0 M13))) ∧ (¬ (p1 = 0) → ((¬ (z11 = 0) → (w_X7_full_70  Q  p1 v1 z11 M10)) ∧ ((z11 = 0) → (((v1 = 0) → (w_X7_full_70  Q  p1 v1 z11 M10)) ∧ (¬ (v1 = 0) → (((v1 = 64) → (w_X7_full_70  Q  p1 v1 z11 M10)) ∧ (¬ (v1 = 64) → (((v1 = (-1)) → (w_X7_full_70  Q  p1 v1 z11 M10)) ∧ (¬ (v1 = (-1)) → (w_X7_fail (M10 46 24) M10 (fun v14 M15 => Q 0 M15)))))))))))))))
theorem t_X7_full (p1 : Int32) (M : Mem) (Q : Int32 → Mem → Prop) (h : w_X7_full  p1 M Q) : Ex true mX7_full 78 78 0 0 0 [.ref 46, .int p1, .null, .null] [] M Q := by
  unfold w_X7_full at h
  refine ex_aload_n dX7_full_0 rfl ?_
  refine ex_aload_n dX7_full_1 rfl ?_
  refine ex_getI (ci := 7) (j := 24) dX7_full_2 (by decide) rfl rfl lk_X7_130 ?_
  refine ex_invV (k := 46) (ci := 7) (as := [.int (M 46 24)]) (L2 := [.ref 46, .int (M 46 24)]) (st := []) 0 0 dX7_full_5 lk_X7_133 sl_X7_peek (rmK_of rfl) (by decide) rfl ⟨by decide, rfl⟩ rfl (Nat.le_of_ble_eq_true rfl) (Nat.le_of_ble_eq_true rfl) (t_X7_peek   (M 46 24) M _ h) (fun v1 M2 h => ?_)
  show Ex true mX7_full 78 78 0 0 8 [.ref 46, .int p1, .null, .null] [.int v1] M2 Q
  refine ex_istore_n (L2 := [.ref 46, .int p1, .int v1, .null]) dX7_full_8 (by decide) rfl rfl ?_
  refine ex_iload_n dX7_full_9 rfl ?_
  refine ex_bipush (v := 35) dX7_full_10 (by decide) ?_
  refine ex_icmp_ne (tgt := 34) dX7_full_12 (by decide) (fun c_12 => ?_) (fun c_12 => ?_)
  · replace h := h.1 c_12
    refine ex_iconst (v := 0) dX7_full_34 (by decide) ?_
    refine ex_istore_n (L2 := [.ref 46, .int p1, .int v1, .int 0]) dX7_full_35 (by decide) rfl rfl ?_
    refine ex_iload_n dX7_full_36 rfl ?_
    refine ex_if_eq (tgt := 59) dX7_full_37 (by decide) (fun c_37 => ?_) (fun c_37 => ?_)
    · replace h := h.1 c_37
      refine ex_aload_n dX7_full_59 rfl ?_
      refine ex_aload_n dX7_full_60 rfl ?_
      refine ex_getI (ci := 7) (j := 24) dX7_full_61 (by decide) rfl rfl lk_X7_130 ?_
      refine ex_invV (k := 46) (ci := 7) (as := [.int (M2 46 24)]) (L2 := [.ref 46, .int (M2 46 24)]) (st := []) 0 0 dX7_full_64 lk_X7_146 sl_X7_fail (rmK_of rfl) (by decide) rfl ⟨by decide, rfl⟩ rfl (Nat.le_of_ble_eq_true rfl) (Nat.le_of_ble_eq_true rfl) (t_X7_fail   (M2 46 24) M2 _ h) (fun v3 M4 h => ?_)
      show Ex true mX7_full 78 78 0 0 67 [.ref 46, .int p1, .int v1, .int 0] [] M4 Q
      refine ex_goto (tgt := 91) dX7_full_67 (by decide) ?_
      exact ex_vret dX7_full_91 rfl rfl h
    · replace h := h.2 c_37
      refine ex_iload_n dX7_full_40 rfl ?_
      refine ex_if_ne (tgt := 70) dX7_full_41 (by decide) (fun c_41 => ?_) (fun c_41 => ?_)
      · replace h := h.1 c_41
        exact t_X7_full_70   Q   p1 v1 0 M2 h
      · replace h := h.2 c_41
        refine ex_iload_n dX7_full_44 rfl ?_
        refine ex_if_eq (tgt := 70) dX7_full_45 (by decide) (fun c_45 => ?_) (fun c_45 => ?_)
        · replace h := h.1 c_45
          exact t_X7_full_70   Q   p1 v1 0 M2 h
        · replace h := h.2 c_45
          refine ex_iload_n dX7_full_48 rfl ?_
          refine ex_bipush (v := 64) dX7_full_49 (by decide) ?_
          refine ex_icmp_eq (tgt := 70) dX7_full_51 (by decide) (fun c_51 => ?_) (fun c_51 => ?_)
          · replace h := h.1 c_51
            exact t_X7_full_70   Q   p1 v1 0 M2 h
          · replace h := h.2 c_51
            refine ex_iload_n dX7_full_54 rfl ?_
            refine ex_iconst (v := (-1)) dX7_full_55 (by decide) ?_
            refine ex_icmp_eq (tgt := 70) dX7_full_56 (by decide) (fun c_56 => ?_) (fun c_56 => ?_)
            · replace h := h.1 c_56
              exact t_X7_full_70   Q   p1 v1 0 M2 h
            · replace h := h.2 c_56
              refine ex_aload_n dX7_full_59 rfl ?_
              refine ex_aload_n dX7_full_60 rfl ?_
              refine ex_getI (ci := 7) (j := 24) dX7_full_61 (by decide) rfl rfl lk_X7_130 ?_
              refine ex_invV (k := 46) (ci := 7) (as := [.int (M2 46 24)]) (L2 := [.ref 46, .int (M2 46 24)]) (st := []) 0 0 dX7_full_64 lk_X7_146 sl_X7_fail (rmK_of rfl) (by decide) rfl ⟨by decide, rfl⟩ rfl (Nat.le_of_ble_eq_true rfl) (Nat.le_of_ble_eq_true rfl) (t_X7_fail   (M2 46 24) M2 _ h) (fun v7 M8 h => ?_)
              show Ex true mX7_full 78 78 0 0 67 [.ref 46, .int p1, .int v1, .int 0] [] M8 Q
              refine ex_goto (tgt := 91) dX7_full_67 (by decide) ?_
              exact ex_vret dX7_full_91 rfl rfl h
  · replace h := h.2 c_12
    refine ex_aload_n dX7_full_15 rfl ?_
    refine ex_aload_n dX7_full_16 rfl ?_
    refine ex_getI (ci := 7) (j := 24) dX7_full_17 (by decide) rfl rfl lk_X7_130 ?_
    refine ex_iconst (v := 1) dX7_full_20 (by decide) ?_
    refine ex_iadd dX7_full_21 ?_
    refine ex_invV (k := 46) (ci := 7) (as := [.int ((M2 46 24) + 1)]) (L2 := [.ref 46, .int ((M2 46 24) + 1)]) (st := []) 0 0 dX7_full_22 lk_X7_133 sl_X7_peek (rmK_of rfl) (by decide) rfl ⟨by decide, rfl⟩ rfl (Nat.le_of_ble_eq_true rfl) (Nat.le_of_ble_eq_true rfl) (t_X7_peek   ((M2 46 24) + 1) M2 _ h) (fun v9 M10 h => ?_)
    show Ex true mX7_full 78 78 0 0 25 [.ref 46, .int p1, .int v1, .null] [.int v9] M10 Q
    refine ex_bipush (v := 28) dX7_full_25 (by decide) ?_
    have hJ16 : ∀ z11 : Int32, z11 = (if v9 = 28 then 1 else 0) → Ex true mX7_full 78 78 0 0 35 [.ref 46, .int p1, .int v1, .null] [.int z11] M10 Q := by
      intro z11 ez11
      replace h := h z11 ez11
      refine ex_istore_n (L2 := [.ref 46, .int p1, .int v1, .int z11]) dX7_full_35 (by decide) rfl rfl ?_
      refine ex_iload_n dX7_full_36 rfl ?_
      refine ex_if_eq (tgt := 59) dX7_full_37 (by decide) (fun c_37 => ?_) (fun c_37 => ?_)
      · replace h := h.1 c_37
        refine ex_aload_n dX7_full_59 rfl ?_
        refine ex_aload_n dX7_full_60 rfl ?_
        refine ex_getI (ci := 7) (j := 24) dX7_full_61 (by decide) rfl rfl lk_X7_130 ?_
        refine ex_invV (k := 46) (ci := 7) (as := [.int (M10 46 24)]) (L2 := [.ref 46, .int (M10 46 24)]) (st := []) 0 0 dX7_full_64 lk_X7_146 sl_X7_fail (rmK_of rfl) (by decide) rfl ⟨by decide, rfl⟩ rfl (Nat.le_of_ble_eq_true rfl) (Nat.le_of_ble_eq_true rfl) (t_X7_fail   (M10 46 24) M10 _ h) (fun v12 M13 h => ?_)
        show Ex true mX7_full 78 78 0 0 67 [.ref 46, .int p1, .int v1, .int z11] [] M13 Q
        refine ex_goto (tgt := 91) dX7_full_67 (by decide) ?_
        exact ex_vret dX7_full_91 rfl rfl h
      · replace h := h.2 c_37
        refine ex_iload_n dX7_full_40 rfl ?_
        refine ex_if_ne (tgt := 70) dX7_full_41 (by decide) (fun c_41 => ?_) (fun c_41 => ?_)
        · replace h := h.1 c_41
          exact t_X7_full_70   Q   p1 v1 z11 M10 h
        · replace h := h.2 c_41
          refine ex_iload_n dX7_full_44 rfl ?_
          refine ex_if_eq (tgt := 70) dX7_full_45 (by decide) (fun c_45 => ?_) (fun c_45 => ?_)
          · replace h := h.1 c_45
            exact t_X7_full_70   Q   p1 v1 z11 M10 h
          · replace h := h.2 c_45
            refine ex_iload_n dX7_full_48 rfl ?_
            refine ex_bipush (v := 64) dX7_full_49 (by decide) ?_
            refine ex_icmp_eq (tgt := 70) dX7_full_51 (by decide) (fun c_51 => ?_) (fun c_51 => ?_)
            · replace h := h.1 c_51
              exact t_X7_full_70   Q   p1 v1 z11 M10 h
            · replace h := h.2 c_51
              refine ex_iload_n dX7_full_54 rfl ?_
              refine ex_iconst (v := (-1)) dX7_full_55 (by decide) ?_
              refine ex_icmp_eq (tgt := 70) dX7_full_56 (by decide) (fun c_56 => ?_) (fun c_56 => ?_)
              · replace h := h.1 c_56
                exact t_X7_full_70   Q   p1 v1 z11 M10 h
              · replace h := h.2 c_56
                refine ex_aload_n dX7_full_59 rfl ?_
                refine ex_aload_n dX7_full_60 rfl ?_
                refine ex_getI (ci := 7) (j := 24) dX7_full_61 (by decide) rfl rfl lk_X7_130 ?_
                refine ex_invV (k := 46) (ci := 7) (as := [.int (M10 46 24)]) (L2 := [.ref 46, .int (M10 46 24)]) (st := []) 0 0 dX7_full_64 lk_X7_146 sl_X7_fail (rmK_of rfl) (by decide) rfl ⟨by decide, rfl⟩ rfl (Nat.le_of_ble_eq_true rfl) (Nat.le_of_ble_eq_true rfl) (t_X7_fail   (M10 46 24) M10 _ h) (fun v14 M15 h => ?_)
                show Ex true mX7_full 78 78 0 0 67 [.ref 46, .int p1, .int v1, .int z11] [] M15 Q
                refine ex_goto (tgt := 91) dX7_full_67 (by decide) ?_
                exact ex_vret dX7_full_91 rfl rfl h
    refine ex_icmp_ne (tgt := 34) dX7_full_27 (by decide) (fun c_27 => ?_) (fun c_27 => ?_)
    ·
      refine ex_iconst (v := 0) dX7_full_34 (by decide) ?_
      exact hJ16 _ (by rw [if_neg c_27])
    ·
      refine ex_iconst (v := 1) dX7_full_30 (by decide) ?_
      refine ex_goto (tgt := 35) dX7_full_31 (by decide) ?_
      exact hJ16 _ (by rw [if_pos c_27])
def wb_X7_whole_87 (Q : Int32 → Mem → Prop) (B87 : Int32 → Int32 → Int32 → Int32 → Mem → Prop) (l1 : Int32) (l2 : Int32) (l3 : Int32) (l4 : Int32) (M : Mem) : Prop := ((l2 ≤ l4) → ((l3 = 0 ∨ l3 = 1) ∧ (Q l3 M))) ∧ (¬ (l2 ≤ l4) → (((l3 = 0) → ((l3 = 0 ∨ l3 = 1) ∧ (Q l3 M))) ∧ (¬ (l3 = 0) → ((vp_in l4 40) ∧ ((vp_in (l1 + l4) 1200) ∧ (∀ M7 : Mem, M7 = (mset M 63 (Int32.toNatClampNeg (l1 + l4)) (M 71 (Int32.toNatClampNeg l4))) → ∀ x8 : Int32, x8 = l4 + 1 → B87 l1 l2 l3 x8 M7))))))
def w_X7_whole_87 (Q : Int32 → Mem → Prop) : Nat → Int32 → Int32 → Int32 → Int32 → Mem → Prop
  | 0 => fun _ _ _ _ _ => False
  | k + 1 => wb_X7_whole_87  Q  (w_X7_whole_87  Q  k)
theorem t_X7_whole_87 (Q : Int32 → Mem → Prop) : ∀ (k : Nat) (l1 : Int32) (l2 : Int32) (l3 : Int32) (l4 : Int32) (M : Mem), w_X7_whole_87  Q  k l1 l2 l3 l4 M → Ex true mX7_whole 78 78 0 0 87 [.ref 46, .int l1, .int l2, .int l3, .int l4] [] M Q := by
  intro k
  induction k with
  | zero => intro l1 l2 l3 l4 M h; exact False.elim h
  | succ k hB87 =>
    intro l1 l2 l3 l4 M h
    replace h : wb_X7_whole_87  Q  (w_X7_whole_87  Q  k) l1 l2 l3 l4 M := h
    generalize w_X7_whole_87  Q  k = B87 at hB87 h
    unfold wb_X7_whole_87 at h
    refine ex_iload dX7_whole_87 rfl ?_
    refine ex_iload_n dX7_whole_89 rfl ?_
    refine ex_icmp_ge (tgt := 119) dX7_whole_90 (by decide) (fun c_90 => ?_) (fun c_90 => ?_)
    · replace h := h.1 c_90
      refine ex_iload_n dX7_whole_119 rfl ?_
      obtain ⟨b3, h⟩ := h
      exact ex_iret dX7_whole_120 rfl (nr01 b3) rfl h
    · replace h := h.2 c_90
      refine ex_iload_n dX7_whole_93 rfl ?_
      refine ex_if_eq (tgt := 119) dX7_whole_94 (by decide) (fun c_94 => ?_) (fun c_94 => ?_)
      · replace h := h.1 c_94
        refine ex_iload_n dX7_whole_119 rfl ?_
        obtain ⟨b4, h⟩ := h
        exact ex_iret dX7_whole_120 rfl (nr01 b4) rfl h
      · replace h := h.2 c_94
        refine ex_aload_n dX7_whole_97 rfl ?_
        refine ex_getR (ci := 7) (j := 18) (v := 63) dX7_whole_98 (by decide) rfl rfl lk_X7_62 rfl (by decide) ?_
        refine ex_iload_n dX7_whole_101 rfl ?_
        refine ex_iload dX7_whole_102 rfl ?_
        refine ex_iadd dX7_whole_104 ?_
        refine ex_aload_n dX7_whole_105 rfl ?_
        refine ex_getR (ci := 7) (j := 31) (v := 71) dX7_whole_106 (by decide) rfl rfl lk_X7_87 rfl (by decide) ?_
        refine ex_iload dX7_whole_109 rfl ?_
        obtain ⟨b5, h⟩ := h
        refine ex_iald dX7_whole_111 (by decide) rfl b5 ?_
        obtain ⟨b6, h⟩ := h
        refine ex_iast dX7_whole_112 (by decide) rfl b6 ?_
        refine ex_nmM (fun M7 eM7 => ?_)
        replace h := h M7 eM7
        refine ex_iinc (v := l4 + 1) (L2 := [.ref 46, .int l1, .int l2, .int l3, .int (l4 + 1)]) dX7_whole_113 rfl rfl (by decide) rfl rfl ?_
        obtain ⟨x8, ex8⟩ : ∃ x8 : Int32, x8 = l4 + 1 := ⟨_, rfl⟩
        rw [← ex8]
        replace h := h x8 ex8
        refine ex_goto (tgt := 87) dX7_whole_116 (by decide) ?_
        exact hB87 l1 l2 l3 x8 M7 h
def wb_X7_whole_52 (Q : Int32 → Mem → Prop) (B52 : Int32 → Int32 → Int32 → Mem → Prop) (l1 : Int32) (l2 : Int32) (l3 : Int32) (M : Mem) : Prop := ((l2 ≤ l3) → (w_X7_canBe l1 l2 M (fun v1 M2 => ∃ k, w_X7_whole_87  Q  k l1 l2 v1 0 M2))) ∧ (¬ (l2 ≤ l3) → ((vp_in (l1 + l3) 1200) ∧ ((vp_in l3 40) ∧ (∀ M11 : Mem, M11 = (mset M 70 (Int32.toNatClampNeg l3) (M 63 (Int32.toNatClampNeg (l1 + l3)))) → ∀ x12 : Int32, x12 = l3 + 1 → B52 l1 l2 x12 M11))))
def w_X7_whole_52 (Q : Int32 → Mem → Prop) : Nat → Int32 → Int32 → Int32 → Mem → Prop
  | 0 => fun _ _ _ _ => False
  | k + 1 => wb_X7_whole_52  Q  (w_X7_whole_52  Q  k)
theorem t_X7_whole_52 (Q : Int32 → Mem → Prop) : ∀ (k : Nat) (l1 : Int32) (l2 : Int32) (l3 : Int32) (M : Mem), w_X7_whole_52  Q  k l1 l2 l3 M → Ex true mX7_whole 78 78 0 0 52 [.ref 46, .int l1, .int l2, .int l3, .null] [] M Q := by
  intro k
  induction k with
  | zero => intro l1 l2 l3 M h; exact False.elim h
  | succ k hB52 =>
    intro l1 l2 l3 M h
    replace h : wb_X7_whole_52  Q  (w_X7_whole_52  Q  k) l1 l2 l3 M := h
    generalize w_X7_whole_52  Q  k = B52 at hB52 h
    unfold wb_X7_whole_52 at h
    refine ex_iload_n dX7_whole_52 rfl ?_
    refine ex_iload_n dX7_whole_53 rfl ?_
    refine ex_icmp_ge (tgt := 77) dX7_whole_54 (by decide) (fun c_54 => ?_) (fun c_54 => ?_)
    · replace h := h.1 c_54
      refine ex_aload_n dX7_whole_77 rfl ?_
      refine ex_iload_n dX7_whole_78 rfl ?_
      refine ex_iload_n dX7_whole_79 rfl ?_
      refine ex_invV (k := 46) (ci := 7) (as := [.int l1, .int l2]) (L2 := [.ref 46, .int l1, .int l2, .null, .null, .null, .null, .null, .null, .null]) (st := []) 0 0 dX7_whole_80 lk_X7_196 sl_X7_canBe (rmK_of rfl) (by decide) rfl ⟨by decide, rfl⟩ rfl (Nat.le_of_ble_eq_true rfl) (Nat.le_of_ble_eq_true rfl) (t_X7_canBe   l1 l2 M _ h) (fun v1 M2 h => ?_)
      show Ex true mX7_whole 78 78 0 0 83 [.ref 46, .int l1, .int l2, .int l3, .null] [.int v1] M2 Q
      refine ex_istore_n (L2 := [.ref 46, .int l1, .int l2, .int v1, .null]) dX7_whole_83 (by decide) rfl rfl ?_
      refine ex_iconst (v := 0) dX7_whole_84 (by decide) ?_
      refine ex_istore (L2 := [.ref 46, .int l1, .int l2, .int v1, .int 0]) dX7_whole_85 (by decide) rfl rfl ?_
      obtain ⟨k_, h⟩ := h
      exact t_X7_whole_87   Q   k_ l1 l2 v1 0 M2 h
    · replace h := h.2 c_54
      refine ex_aload_n dX7_whole_57 rfl ?_
      refine ex_getR (ci := 7) (j := 30) (v := 70) dX7_whole_58 (by decide) rfl rfl lk_X7_84 rfl (by decide) ?_
      refine ex_iload_n dX7_whole_61 rfl ?_
      refine ex_aload_n dX7_whole_62 rfl ?_
      refine ex_getR (ci := 7) (j := 18) (v := 63) dX7_whole_63 (by decide) rfl rfl lk_X7_62 rfl (by decide) ?_
      refine ex_iload_n dX7_whole_66 rfl ?_
      refine ex_iload_n dX7_whole_67 rfl ?_
      refine ex_iadd dX7_whole_68 ?_
      obtain ⟨b9, h⟩ := h
      refine ex_iald dX7_whole_69 (by decide) rfl b9 ?_
      obtain ⟨b10, h⟩ := h
      refine ex_iast dX7_whole_70 (by decide) rfl b10 ?_
      refine ex_nmM (fun M11 eM11 => ?_)
      replace h := h M11 eM11
      refine ex_iinc (v := l3 + 1) (L2 := [.ref 46, .int l1, .int l2, .int (l3 + 1), .null]) dX7_whole_71 rfl rfl (by decide) rfl rfl ?_
      obtain ⟨x12, ex12⟩ : ∃ x12 : Int32, x12 = l3 + 1 := ⟨_, rfl⟩
      rw [← ex12]
      replace h := h x12 ex12
      refine ex_goto (tgt := 52) dX7_whole_74 (by decide) ?_
      exact hB52 l1 l2 x12 M11 h
def w_X7_whole (p1 : Int32) (p2 : Int32) (M : Mem) (Q : Int32 → Mem → Prop) : Prop := (¬ (p2 = 1) → (∃ k, w_X7_whole_52  Q  k p1 p2 0 M)) ∧ ((p2 = 1) → ((vp_in p1 1200) ∧ (((0 ≤ (M 60 (Int32.toNatClampNeg p1))) → (∃ k, w_X7_whole_52  Q  k p1 p2 0 M)) ∧ (¬ (0 ≤ (M 60 (Int32.toNatClampNeg p1))) → ((vp_in p1 1200) ∧ ((¬ ((M 62 (Int32.toNatClampNeg p1)) = 0) → (∃ k, w_X7_whole_52  Q  k p1 p2 0 M)) ∧ (((M 62 (Int32.toNatClampNeg p1)) = 0) → ((vp_in p1 1200) ∧ ((¬ ((M 64 (Int32.toNatClampNeg p1)) = 0) → (∃ k, w_X7_whole_52  Q  k p1 p2 0 M)) ∧ (((M 64 (Int32.toNatClampNeg p1)) = 0) → ((vp_in p1 1200) ∧ (((0 ≤ (M 63 (Int32.toNatClampNeg p1))) → (∃ k, w_X7_whole_52  Q  k p1 p2 0 M)) ∧ (¬ (0 ≤ (M 63 (Int32.toNatClampNeg p1))) → ((vp_in p1 1200) ∧ (∀ M18 : Mem, M18 = (mset M 63 (Int32.toNatClampNeg p1) 2) → Q 1 M18)))))))))))))))
theorem t_X7_whole (p1 : Int32) (p2 : Int32) (M : Mem) (Q : Int32 → Mem → Prop) (h : w_X7_whole  p1 p2 M Q) : Ex true mX7_whole 78 78 0 0 0 [.ref 46, .int p1, .int p2, .null, .null] [] M Q := by
  unfold w_X7_whole at h
  refine ex_iload_n dX7_whole_0 rfl ?_
  refine ex_iconst (v := 1) dX7_whole_1 (by decide) ?_
  refine ex_icmp_ne (tgt := 50) dX7_whole_2 (by decide) (fun c_2 => ?_) (fun c_2 => ?_)
  · replace h := h.1 c_2
    refine ex_iconst (v := 0) dX7_whole_50 (by decide) ?_
    refine ex_istore_n (L2 := [.ref 46, .int p1, .int p2, .int 0, .null]) dX7_whole_51 (by decide) rfl rfl ?_
    obtain ⟨k_, h⟩ := h
    exact t_X7_whole_52   Q   k_ p1 p2 0 M h
  · replace h := h.2 c_2
    refine ex_aload_n dX7_whole_5 rfl ?_
    refine ex_getR (ci := 7) (j := 15) (v := 60) dX7_whole_6 (by decide) rfl rfl lk_X7_53 rfl (by decide) ?_
    refine ex_iload_n dX7_whole_9 rfl ?_
    obtain ⟨b13, h⟩ := h
    refine ex_iald dX7_whole_10 (by decide) rfl b13 ?_
    refine ex_if_ge (tgt := 50) dX7_whole_11 (by decide) (fun c_11 => ?_) (fun c_11 => ?_)
    · replace h := h.1 c_11
      refine ex_iconst (v := 0) dX7_whole_50 (by decide) ?_
      refine ex_istore_n (L2 := [.ref 46, .int p1, .int p2, .int 0, .null]) dX7_whole_51 (by decide) rfl rfl ?_
      obtain ⟨k_, h⟩ := h
      exact t_X7_whole_52   Q   k_ p1 p2 0 M h
    · replace h := h.2 c_11
      refine ex_aload_n dX7_whole_14 rfl ?_
      refine ex_getR (ci := 7) (j := 17) (v := 62) dX7_whole_15 (by decide) rfl rfl lk_X7_59 rfl (by decide) ?_
      refine ex_iload_n dX7_whole_18 rfl ?_
      obtain ⟨b14, h⟩ := h
      refine ex_iald dX7_whole_19 (by decide) rfl b14 ?_
      refine ex_if_ne (tgt := 50) dX7_whole_20 (by decide) (fun c_20 => ?_) (fun c_20 => ?_)
      · replace h := h.1 c_20
        refine ex_iconst (v := 0) dX7_whole_50 (by decide) ?_
        refine ex_istore_n (L2 := [.ref 46, .int p1, .int p2, .int 0, .null]) dX7_whole_51 (by decide) rfl rfl ?_
        obtain ⟨k_, h⟩ := h
        exact t_X7_whole_52   Q   k_ p1 p2 0 M h
      · replace h := h.2 c_20
        refine ex_aload_n dX7_whole_23 rfl ?_
        refine ex_getR (ci := 7) (j := 19) (v := 64) dX7_whole_24 (by decide) rfl rfl lk_X7_65 rfl (by decide) ?_
        refine ex_iload_n dX7_whole_27 rfl ?_
        obtain ⟨b15, h⟩ := h
        refine ex_iald dX7_whole_28 (by decide) rfl b15 ?_
        refine ex_if_ne (tgt := 50) dX7_whole_29 (by decide) (fun c_29 => ?_) (fun c_29 => ?_)
        · replace h := h.1 c_29
          refine ex_iconst (v := 0) dX7_whole_50 (by decide) ?_
          refine ex_istore_n (L2 := [.ref 46, .int p1, .int p2, .int 0, .null]) dX7_whole_51 (by decide) rfl rfl ?_
          obtain ⟨k_, h⟩ := h
          exact t_X7_whole_52   Q   k_ p1 p2 0 M h
        · replace h := h.2 c_29
          refine ex_aload_n dX7_whole_32 rfl ?_
          refine ex_getR (ci := 7) (j := 18) (v := 63) dX7_whole_33 (by decide) rfl rfl lk_X7_62 rfl (by decide) ?_
          refine ex_iload_n dX7_whole_36 rfl ?_
          obtain ⟨b16, h⟩ := h
          refine ex_iald dX7_whole_37 (by decide) rfl b16 ?_
          refine ex_if_ge (tgt := 50) dX7_whole_38 (by decide) (fun c_38 => ?_) (fun c_38 => ?_)
          · replace h := h.1 c_38
            refine ex_iconst (v := 0) dX7_whole_50 (by decide) ?_
            refine ex_istore_n (L2 := [.ref 46, .int p1, .int p2, .int 0, .null]) dX7_whole_51 (by decide) rfl rfl ?_
            obtain ⟨k_, h⟩ := h
            exact t_X7_whole_52   Q   k_ p1 p2 0 M h
          · replace h := h.2 c_38
            refine ex_aload_n dX7_whole_41 rfl ?_
            refine ex_getR (ci := 7) (j := 18) (v := 63) dX7_whole_42 (by decide) rfl rfl lk_X7_62 rfl (by decide) ?_
            refine ex_iload_n dX7_whole_45 rfl ?_
            refine ex_iconst (v := 2) dX7_whole_46 (by decide) ?_
            obtain ⟨b17, h⟩ := h
            refine ex_iast dX7_whole_47 (by decide) rfl b17 ?_
            refine ex_nmM (fun M18 eM18 => ?_)
            replace h := h M18 eM18
            refine ex_iconst (v := 1) dX7_whole_48 (by decide) ?_
            exact ex_iret dX7_whole_49 rfl rfl rfl h
def w_X7_readVoice_114 (Q : Int32 → Mem → Prop) (l1 : Int32) (l2 : Int32) (l3 : Int32) (l4 : Int32) (l5 : Int32) (M : Mem) : Prop := ((0 ≤ (M 46 25)) → (Q 0 M)) ∧ (¬ (0 ≤ (M 46 25)) → (((l4 = 0) → (w_X7_fail (M 46 24) M (fun v4 M5 => Q 0 M5))) ∧ (¬ (l4 = 0) → (w_X7_whole l3 l4 M (fun v6 M7 => (¬ (v6 = 0) → (Q 0 M7)) ∧ ((v6 = 0) → (w_X7_fail (M7 46 24) M7 (fun v8 M9 => Q 0 M9))))))))
theorem t_X7_readVoice_114 (Q : Int32 → Mem → Prop) (l1 : Int32) (l2 : Int32) (l3 : Int32) (l4 : Int32) (l5 : Int32) (M : Mem) (h : w_X7_readVoice_114  Q  l1 l2 l3 l4 l5 M) : Ex true mX7_readVoice 78 78 0 0 114 [.ref 46, .int l1, .int l2, .int l3, .int l4, .int l5] [] M Q := by
  unfold w_X7_readVoice_114 at h
  refine ex_aload_n dX7_readVoice_114 rfl ?_
  refine ex_getI (ci := 7) (j := 25) dX7_readVoice_115 (by decide) rfl rfl lk_X7_120 ?_
  refine ex_if_ge (tgt := 144) dX7_readVoice_118 (by decide) (fun c_118 => ?_) (fun c_118 => ?_)
  · replace h := h.1 c_118
    exact ex_vret dX7_readVoice_144 rfl rfl h
  · replace h := h.2 c_118
    refine ex_iload dX7_readVoice_121 rfl ?_
    refine ex_if_eq (tgt := 136) dX7_readVoice_123 (by decide) (fun c_123 => ?_) (fun c_123 => ?_)
    · replace h := h.1 c_123
      refine ex_aload_n dX7_readVoice_136 rfl ?_
      refine ex_aload_n dX7_readVoice_137 rfl ?_
      refine ex_getI (ci := 7) (j := 24) dX7_readVoice_138 (by decide) rfl rfl lk_X7_130 ?_
      refine ex_invV (k := 46) (ci := 7) (as := [.int (M 46 24)]) (L2 := [.ref 46, .int (M 46 24)]) (st := []) 0 0 dX7_readVoice_141 lk_X7_146 sl_X7_fail (rmK_of rfl) (by decide) rfl ⟨by decide, rfl⟩ rfl (Nat.le_of_ble_eq_true rfl) (Nat.le_of_ble_eq_true rfl) (t_X7_fail   (M 46 24) M _ h) (fun v4 M5 h => ?_)
      show Ex true mX7_readVoice 78 78 0 0 144 [.ref 46, .int l1, .int l2, .int l3, .int l4, .int l5] [] M5 Q
      exact ex_vret dX7_readVoice_144 rfl rfl h
    · replace h := h.2 c_123
      refine ex_aload_n dX7_readVoice_126 rfl ?_
      refine ex_iload_n dX7_readVoice_127 rfl ?_
      refine ex_iload dX7_readVoice_128 rfl ?_
      refine ex_invV (k := 46) (ci := 7) (as := [.int l3, .int l4]) (L2 := [.ref 46, .int l3, .int l4, .null, .null]) (st := []) 0 0 dX7_readVoice_130 lk_X7_193 sl_X7_whole (rmK_of rfl) (by decide) rfl ⟨by decide, rfl⟩ rfl (Nat.le_of_ble_eq_true rfl) (Nat.le_of_ble_eq_true rfl) (t_X7_whole   l3 l4 M _ h) (fun v6 M7 h => ?_)
      show Ex true mX7_readVoice 78 78 0 0 133 [.ref 46, .int l1, .int l2, .int l3, .int l4, .int l5] [.int v6] M7 Q
      refine ex_if_ne (tgt := 144) dX7_readVoice_133 (by decide) (fun c_133 => ?_) (fun c_133 => ?_)
      · replace h := h.1 c_133
        exact ex_vret dX7_readVoice_144 rfl rfl h
      · replace h := h.2 c_133
        refine ex_aload_n dX7_readVoice_136 rfl ?_
        refine ex_aload_n dX7_readVoice_137 rfl ?_
        refine ex_getI (ci := 7) (j := 24) dX7_readVoice_138 (by decide) rfl rfl lk_X7_130 ?_
        refine ex_invV (k := 46) (ci := 7) (as := [.int (M7 46 24)]) (L2 := [.ref 46, .int (M7 46 24)]) (st := []) 0 0 dX7_readVoice_141 lk_X7_146 sl_X7_fail (rmK_of rfl) (by decide) rfl ⟨by decide, rfl⟩ rfl (Nat.le_of_ble_eq_true rfl) (Nat.le_of_ble_eq_true rfl) (t_X7_fail   (M7 46 24) M7 _ h) (fun v8 M9 h => ?_)
        show Ex true mX7_readVoice 78 78 0 0 144 [.ref 46, .int l1, .int l2, .int l3, .int l4, .int l5] [] M9 Q
        exact ex_vret dX7_readVoice_144 rfl rfl h
def wb_X7_readVoice_22 (Q : Int32 → Mem → Prop) (B22 : Int32 → Int32 → Int32 → Int32 → Int32 → Mem → Prop) (l1 : Int32) (l2 : Int32) (l3 : Int32) (l4 : Int32) (l5 : Int32) (M : Mem) : Prop := ((l5 = 0) → (w_X7_readVoice_114  Q  l1 l2 l3 l4 l5 M)) ∧ (¬ (l5 = 0) → (((0 ≤ (M 46 25)) → (w_X7_readVoice_114  Q  l1 l2 l3 l4 l5 M)) ∧ (¬ (0 ≤ (M 46 25)) → (((l4 = 40) → (w_X7_full l4 M (fun v10 M11 => B22 l1 l2 l3 l4 0 M11))) ∧ (¬ (l4 = 40) → ((vp_in 1 2) ∧ ((¬ ((M 54 (Int32.toNatClampNeg 1)) = 600) → (∀ z13 : Int32, z13 = (if l4 ≤ 0 then 0 else (if (M 46 26) = 0 then 1 else 0)) → w_X7_begins z13 M (fun v14 M15 => ∀ z16 : Int32, z16 = (if v14 = 1 then 1 else 0) → ((z16 = 0) → (B22 l1 l2 l3 l4 z16 M15)) ∧ (¬ (z16 = 0) → (w_X7_readItem l1 l2 M15 (fun v17 M18 => ∀ x19 : Int32, x19 = l4 + 1 → B22 l1 l2 l3 x19 z16 M18)))))) ∧ (((M 54 (Int32.toNatClampNeg 1)) = 600) → (w_X7_full l4 M (fun v22 M23 => B22 l1 l2 l3 l4 0 M23))))))))))
def w_X7_readVoice_22 (Q : Int32 → Mem → Prop) : Nat → Int32 → Int32 → Int32 → Int32 → Int32 → Mem → Prop
  | 0 => fun _ _ _ _ _ _ => False
  | k + 1 => wb_X7_readVoice_22  Q  (w_X7_readVoice_22  Q  k)
theorem t_X7_readVoice_22 (Q : Int32 → Mem → Prop) : ∀ (k : Nat) (l1 : Int32) (l2 : Int32) (l3 : Int32) (l4 : Int32) (l5 : Int32) (M : Mem), w_X7_readVoice_22  Q  k l1 l2 l3 l4 l5 M → Ex true mX7_readVoice 78 78 0 0 22 [.ref 46, .int l1, .int l2, .int l3, .int l4, .int l5] [] M Q := by
  intro k
  induction k with
  | zero => intro l1 l2 l3 l4 l5 M h; exact False.elim h
  | succ k hB22 =>
    intro l1 l2 l3 l4 l5 M h
    replace h : wb_X7_readVoice_22  Q  (w_X7_readVoice_22  Q  k) l1 l2 l3 l4 l5 M := h
    generalize w_X7_readVoice_22  Q  k = B22 at hB22 h
    unfold wb_X7_readVoice_22 at h
    refine ex_iload dX7_readVoice_22 rfl ?_
    refine ex_if_eq (tgt := 114) dX7_readVoice_24 (by decide) (fun c_24 => ?_) (fun c_24 => ?_)
    · replace h := h.1 c_24
      exact t_X7_readVoice_114   Q   l1 l2 l3 l4 l5 M h
    · replace h := h.2 c_24
      refine ex_aload_n dX7_readVoice_27 rfl ?_
      refine ex_getI (ci := 7) (j := 25) dX7_readVoice_28 (by decide) rfl rfl lk_X7_120 ?_
      refine ex_if_ge (tgt := 114) dX7_readVoice_31 (by decide) (fun c_31 => ?_) (fun c_31 => ?_)
      · replace h := h.1 c_31
        exact t_X7_readVoice_114   Q   l1 l2 l3 l4 l5 M h
      · replace h := h.2 c_31
        refine ex_iload dX7_readVoice_34 rfl ?_
        refine ex_bipush (v := 40) dX7_readVoice_36 (by decide) ?_
        refine ex_icmp_eq (tgt := 53) dX7_readVoice_38 (by decide) (fun c_38 => ?_) (fun c_38 => ?_)
        · replace h := h.1 c_38
          refine ex_iconst (v := 0) dX7_readVoice_53 (by decide) ?_
          refine ex_istore (L2 := [.ref 46, .int l1, .int l2, .int l3, .int l4, .int 0]) dX7_readVoice_54 (by decide) rfl rfl ?_
          refine ex_aload_n dX7_readVoice_56 rfl ?_
          refine ex_iload dX7_readVoice_57 rfl ?_
          refine ex_invV (k := 46) (ci := 7) (as := [.int l4]) (L2 := [.ref 46, .int l4, .null, .null]) (st := []) 0 0 dX7_readVoice_59 lk_X7_182 sl_X7_full (rmK_of rfl) (by decide) rfl ⟨by decide, rfl⟩ rfl (Nat.le_of_ble_eq_true rfl) (Nat.le_of_ble_eq_true rfl) (t_X7_full   l4 M _ h) (fun v10 M11 h => ?_)
          show Ex true mX7_readVoice 78 78 0 0 62 [.ref 46, .int l1, .int l2, .int l3, .int l4, .int 0] [] M11 Q
          refine ex_goto (tgt := 22) dX7_readVoice_62 (by decide) ?_
          exact hB22 l1 l2 l3 l4 0 M11 h
        · replace h := h.2 c_38
          refine ex_aload_n dX7_readVoice_41 rfl ?_
          refine ex_getR (ci := 7) (j := 9) (v := 54) dX7_readVoice_42 (by decide) rfl rfl lk_X7_35 rfl (by decide) ?_
          refine ex_iconst (v := 1) dX7_readVoice_45 (by decide) ?_
          obtain ⟨b12, h⟩ := h
          refine ex_iald dX7_readVoice_46 (by decide) rfl b12 ?_
          refine ex_sipush (v := 600) dX7_readVoice_47 (by decide) ?_
          refine ex_icmp_ne (tgt := 65) dX7_readVoice_50 (by decide) (fun c_50 => ?_) (fun c_50 => ?_)
          · replace h := h.1 c_50
            refine ex_aload_n dX7_readVoice_65 rfl ?_
            refine ex_iload dX7_readVoice_66 rfl ?_
            have hJ21 : ∀ z13 : Int32, z13 = (if l4 ≤ 0 then 0 else (if (M 46 26) = 0 then 1 else 0)) → Ex true mX7_readVoice 78 78 0 0 83 [.ref 46, .int l1, .int l2, .int l3, .int l4, .int l5] [.int z13, .ref 46] M Q := by
              intro z13 ez13
              replace h := h z13 ez13
              refine ex_invV (k := 46) (ci := 7) (as := [.int z13]) (L2 := [.ref 46, .int z13, .null, .null, .null, .null]) (st := []) 0 0 dX7_readVoice_83 lk_X7_185 sl_X7_begins (rmK_of rfl) (by decide) rfl ⟨by decide, rfl⟩ rfl (Nat.le_of_ble_eq_true rfl) (Nat.le_of_ble_eq_true rfl) (t_X7_begins   z13 M _ h) (fun v14 M15 h => ?_)
              show Ex true mX7_readVoice 78 78 0 0 86 [.ref 46, .int l1, .int l2, .int l3, .int l4, .int l5] [.int v14] M15 Q
              refine ex_iconst (v := 1) dX7_readVoice_86 (by decide) ?_
              have hJ20 : ∀ z16 : Int32, z16 = (if v14 = 1 then 1 else 0) → Ex true mX7_readVoice 78 78 0 0 95 [.ref 46, .int l1, .int l2, .int l3, .int l4, .int l5] [.int z16] M15 Q := by
                intro z16 ez16
                replace h := h z16 ez16
                refine ex_istore (L2 := [.ref 46, .int l1, .int l2, .int l3, .int l4, .int z16]) dX7_readVoice_95 (by decide) rfl rfl ?_
                refine ex_iload dX7_readVoice_97 rfl ?_
                refine ex_if_eq (tgt := 22) dX7_readVoice_99 (by decide) (fun c_99 => ?_) (fun c_99 => ?_)
                · replace h := h.1 c_99
                  exact hB22 l1 l2 l3 l4 z16 M15 h
                · replace h := h.2 c_99
                  refine ex_aload_n dX7_readVoice_102 rfl ?_
                  refine ex_iload_n dX7_readVoice_103 rfl ?_
                  refine ex_iload_n dX7_readVoice_104 rfl ?_
                  refine ex_invV (k := 46) (ci := 7) (as := [.int l1, .int l2]) (L2 := [.ref 46, .int l1, .int l2, .null, .null]) (st := []) 0 0 dX7_readVoice_105 lk_X7_189 sl_X7_readItem (rmK_of rfl) (by decide) rfl ⟨by decide, rfl⟩ rfl (Nat.le_of_ble_eq_true rfl) (Nat.le_of_ble_eq_true rfl) (t_X7_readItem   l1 l2 M15 _ h) (fun v17 M18 h => ?_)
                  show Ex true mX7_readVoice 78 78 0 0 108 [.ref 46, .int l1, .int l2, .int l3, .int l4, .int z16] [] M18 Q
                  refine ex_iinc (v := l4 + 1) (L2 := [.ref 46, .int l1, .int l2, .int l3, .int (l4 + 1), .int z16]) dX7_readVoice_108 rfl rfl (by decide) rfl rfl ?_
                  obtain ⟨x19, ex19⟩ : ∃ x19 : Int32, x19 = l4 + 1 := ⟨_, rfl⟩
                  rw [← ex19]
                  replace h := h x19 ex19
                  refine ex_goto (tgt := 22) dX7_readVoice_111 (by decide) ?_
                  exact hB22 l1 l2 l3 x19 z16 M18 h
              refine ex_icmp_ne (tgt := 94) dX7_readVoice_87 (by decide) (fun c_87 => ?_) (fun c_87 => ?_)
              ·
                refine ex_iconst (v := 0) dX7_readVoice_94 (by decide) ?_
                exact hJ20 _ (by rw [if_neg c_87])
              ·
                refine ex_iconst (v := 1) dX7_readVoice_90 (by decide) ?_
                refine ex_goto (tgt := 95) dX7_readVoice_91 (by decide) ?_
                exact hJ20 _ (by rw [if_pos c_87])
            refine ex_if_le (tgt := 82) dX7_readVoice_68 (by decide) (fun c_68 => ?_) (fun c_68 => ?_)
            ·
              refine ex_iconst (v := 0) dX7_readVoice_82 (by decide) ?_
              exact hJ21 _ (by rw [if_pos c_68])
            ·
              refine ex_aload_n dX7_readVoice_71 rfl ?_
              refine ex_getI (ci := 7) (j := 26) dX7_readVoice_72 (by decide) rfl rfl lk_X7_153 ?_
              refine ex_if_ne (tgt := 82) dX7_readVoice_75 (by decide) (fun c_75 => ?_) (fun c_75 => ?_)
              ·
                refine ex_iconst (v := 0) dX7_readVoice_82 (by decide) ?_
                exact hJ21 _ (by rw [if_neg c_68, if_neg c_75])
              ·
                refine ex_iconst (v := 1) dX7_readVoice_78 (by decide) ?_
                refine ex_goto (tgt := 83) dX7_readVoice_79 (by decide) ?_
                exact hJ21 _ (by rw [if_neg c_68, if_pos c_75])
          · replace h := h.2 c_50
            refine ex_iconst (v := 0) dX7_readVoice_53 (by decide) ?_
            refine ex_istore (L2 := [.ref 46, .int l1, .int l2, .int l3, .int l4, .int 0]) dX7_readVoice_54 (by decide) rfl rfl ?_
            refine ex_aload_n dX7_readVoice_56 rfl ?_
            refine ex_iload dX7_readVoice_57 rfl ?_
            refine ex_invV (k := 46) (ci := 7) (as := [.int l4]) (L2 := [.ref 46, .int l4, .null, .null]) (st := []) 0 0 dX7_readVoice_59 lk_X7_182 sl_X7_full (rmK_of rfl) (by decide) rfl ⟨by decide, rfl⟩ rfl (Nat.le_of_ble_eq_true rfl) (Nat.le_of_ble_eq_true rfl) (t_X7_full   l4 M _ h) (fun v22 M23 h => ?_)
            show Ex true mX7_readVoice 78 78 0 0 62 [.ref 46, .int l1, .int l2, .int l3, .int l4, .int 0] [] M23 Q
            refine ex_goto (tgt := 22) dX7_readVoice_62 (by decide) ?_
            exact hB22 l1 l2 l3 l4 0 M23 h
def w_X7_readVoice (p1 : Int32) (p2 : Int32) (M : Mem) (Q : Int32 → Mem → Prop) : Prop := (vp_in 1 2) ∧ (∀ x2 : Int32, x2 = (600 + (M 54 (Int32.toNatClampNeg 1))) → ∀ M3 : Mem, M3 = (mset M 46 39 (-1)) → ∃ k, w_X7_readVoice_22  Q  k p1 p2 x2 0 1 M3)
theorem t_X7_readVoice (p1 : Int32) (p2 : Int32) (M : Mem) (Q : Int32 → Mem → Prop) (h : w_X7_readVoice  p1 p2 M Q) : Ex true mX7_readVoice 78 78 0 0 0 [.ref 46, .int p1, .int p2, .null, .null, .null] [] M Q := by
  unfold w_X7_readVoice at h
  refine ex_sipush (v := 600) dX7_readVoice_0 (by decide) ?_
  refine ex_aload_n dX7_readVoice_3 rfl ?_
  refine ex_getR (ci := 7) (j := 9) (v := 54) dX7_readVoice_4 (by decide) rfl rfl lk_X7_35 rfl (by decide) ?_
  refine ex_iconst (v := 1) dX7_readVoice_7 (by decide) ?_
  obtain ⟨b1, h⟩ := h
  refine ex_iald dX7_readVoice_8 (by decide) rfl b1 ?_
  refine ex_iadd dX7_readVoice_9 ?_
  refine ex_top (fun x2 ex2 => ?_)
  replace h := h x2 ex2
  refine ex_istore_n (L2 := [.ref 46, .int p1, .int p2, .int x2, .null, .null]) dX7_readVoice_10 (by decide) rfl rfl ?_
  refine ex_iconst (v := 0) dX7_readVoice_11 (by decide) ?_
  refine ex_istore (L2 := [.ref 46, .int p1, .int p2, .int x2, .int 0, .null]) dX7_readVoice_12 (by decide) rfl rfl ?_
  refine ex_aload_n dX7_readVoice_14 rfl ?_
  refine ex_iconst (v := (-1)) dX7_readVoice_15 (by decide) ?_
  refine ex_putI (ci := 7) (j := 39) dX7_readVoice_16 (by decide) rfl rfl lk_X7_150 ⟨rfl, rfl⟩ ?_
  refine ex_nmM (fun M3 eM3 => ?_)
  replace h := h M3 eM3
  refine ex_iconst (v := 1) dX7_readVoice_19 (by decide) ?_
  refine ex_istore (L2 := [.ref 46, .int p1, .int p2, .int x2, .int 0, .int 1]) dX7_readVoice_20 (by decide) rfl rfl ?_
  obtain ⟨k_, h⟩ := h
  exact t_X7_readVoice_22   Q   k_ p1 p2 x2 0 1 M3 h
def w_X7_readBar_257 (Q : Int32 → Mem → Prop) (l1 : Int32) (l2 : Int32) (M : Mem) : Prop := (vp_in 1 2) ∧ ((vp_in 1 2) ∧ (∀ M16 : Mem, M16 = (mset M 53 (Int32.toNatClampNeg 1) ((M 53 (Int32.toNatClampNeg 1)) + 1)) → Q 0 M16))
theorem t_X7_readBar_257 (Q : Int32 → Mem → Prop) (l1 : Int32) (l2 : Int32) (M : Mem) (h : w_X7_readBar_257  Q  l1 l2 M) : Ex true mX7_readBar 78 78 0 0 257 [.ref 46, .int l1, .int l2, .null] [] M Q := by
  unfold w_X7_readBar_257 at h
  refine ex_aload_n dX7_readBar_257 rfl ?_
  refine ex_getR (ci := 7) (j := 8) (v := 53) dX7_readBar_258 (by decide) rfl rfl lk_X7_32 rfl (by decide) ?_
  refine ex_iconst (v := 1) dX7_readBar_261 (by decide) ?_
  refine ex_dup2 dX7_readBar_262 rfl rfl ?_
  obtain ⟨b14, h⟩ := h
  refine ex_iald dX7_readBar_263 (by decide) rfl b14 ?_
  refine ex_iconst (v := 1) dX7_readBar_264 (by decide) ?_
  refine ex_iadd dX7_readBar_265 ?_
  obtain ⟨b15, h⟩ := h
  refine ex_iast dX7_readBar_266 (by decide) rfl b15 ?_
  refine ex_nmM (fun M16 eM16 => ?_)
  replace h := h M16 eM16
  exact ex_vret dX7_readBar_267 rfl rfl h
def w_X7_readBar_233 (Q : Int32 → Mem → Prop) (l1 : Int32) (l2 : Int32) (l3 : Int32) (M : Mem) : Prop := (vp_in l2 120) ∧ (∀ z11 : Int32, z11 = (if (M 57 (Int32.toNatClampNeg l2)) ≤ 1 then 0 else 1) → (((M 46 27) ||| z11) = 0 ∨ ((M 46 27) ||| z11) = 1) ∧ (∀ M13 : Mem, M13 = (mset M 46 27 ((M 46 27) ||| z11)) → w_X7_readBar_257  Q  l1 l2 M13))
theorem t_X7_readBar_233 (Q : Int32 → Mem → Prop) (l1 : Int32) (l2 : Int32) (l3 : Int32) (M : Mem) (h : w_X7_readBar_233  Q  l1 l2 l3 M) : Ex true mX7_readBar 78 78 0 0 233 [.ref 46, .int l1, .int l2, .int l3] [] M Q := by
  unfold w_X7_readBar_233 at h
  refine ex_aload_n dX7_readBar_233 rfl ?_
  refine ex_dup dX7_readBar_234 rfl ?_
  refine ex_getI (ci := 7) (j := 27) dX7_readBar_235 (by decide) rfl rfl lk_X7_157 ?_
  refine ex_aload_n dX7_readBar_238 rfl ?_
  refine ex_getR (ci := 7) (j := 12) (v := 57) dX7_readBar_239 (by decide) rfl rfl lk_X7_44 rfl (by decide) ?_
  refine ex_iload_n dX7_readBar_242 rfl ?_
  obtain ⟨b10, h⟩ := h
  refine ex_iald dX7_readBar_243 (by decide) rfl b10 ?_
  refine ex_iconst (v := 1) dX7_readBar_244 (by decide) ?_
  have hJ17 : ∀ z11 : Int32, z11 = (if (M 57 (Int32.toNatClampNeg l2)) ≤ 1 then 0 else 1) → Ex true mX7_readBar 78 78 0 0 253 [.ref 46, .int l1, .int l2, .int l3] [.int z11, .int (M 46 27), .ref 46] M Q := by
    intro z11 ez11
    replace h := h z11 ez11
    refine ex_ior dX7_readBar_253 ?_
    obtain ⟨b12, h⟩ := h
    refine ex_putI (ci := 7) (j := 27) dX7_readBar_254 (by decide) rfl rfl lk_X7_157 (nf01 b12) ?_
    refine ex_nmM (fun M13 eM13 => ?_)
    replace h := h M13 eM13
    refine ex_less (L2 := [.ref 46, .int l1, .int l2, .null]) ?_ (by intro i v hi hn; match i, hi with | 0, hi => exact hi | 1, hi => exact hi | 2, hi => exact hi | 3, hi => (cases hi; cases hn) | k + 4, hi => (exact absurd hi (by simp)))
    exact t_X7_readBar_257   Q   l1 l2 M13 h
  refine ex_icmp_le (tgt := 252) dX7_readBar_245 (by decide) (fun c_245 => ?_) (fun c_245 => ?_)
  ·
    refine ex_iconst (v := 0) dX7_readBar_252 (by decide) ?_
    exact hJ17 _ (by rw [if_pos c_245])
  ·
    refine ex_iconst (v := 1) dX7_readBar_248 (by decide) ?_
    refine ex_goto (tgt := 253) dX7_readBar_249 (by decide) ?_
    exact hJ17 _ (by rw [if_neg c_245])
def w_X7_readBar_215 (Q : Int32 → Mem → Prop) (B100 : Int32 → Int32 → Int32 → Mem → Prop) (l1 : Int32) (l2 : Int32) (l3 : Int32) (M : Mem) : Prop := ∀ M25 : Mem, M25 = (mset M 46 24 ((M 46 24) + 2)) → ∀ M26 : Mem, M26 = (mset M25 46 27 1) → B100 l1 l2 l3 M26
theorem t_X7_readBar_215 (Q : Int32 → Mem → Prop) (B100 : Int32 → Int32 → Int32 → Mem → Prop) (hB100 : ∀ (l1 : Int32) (l2 : Int32) (l3 : Int32) (M : Mem), B100 l1 l2 l3 M → Ex true mX7_readBar 78 78 0 0 100 [.ref 46, .int l1, .int l2, .int l3] [] M Q) (l1 : Int32) (l2 : Int32) (l3 : Int32) (M : Mem) (h : w_X7_readBar_215  Q B100 l1 l2 l3 M) : Ex true mX7_readBar 78 78 0 0 215 [.ref 46, .int l1, .int l2, .int l3] [] M Q := by
  unfold w_X7_readBar_215 at h
  refine ex_aload_n dX7_readBar_215 rfl ?_
  refine ex_dup dX7_readBar_216 rfl ?_
  refine ex_getI (ci := 7) (j := 24) dX7_readBar_217 (by decide) rfl rfl lk_X7_130 ?_
  refine ex_iconst (v := 2) dX7_readBar_220 (by decide) ?_
  refine ex_iadd dX7_readBar_221 ?_
  refine ex_putI (ci := 7) (j := 24) dX7_readBar_222 (by decide) rfl rfl lk_X7_130 ⟨rfl, rfl⟩ ?_
  refine ex_nmM (fun M25 eM25 => ?_)
  replace h := h M25 eM25
  refine ex_aload_n dX7_readBar_225 rfl ?_
  refine ex_iconst (v := 1) dX7_readBar_226 (by decide) ?_
  refine ex_putI (ci := 7) (j := 27) dX7_readBar_227 (by decide) rfl rfl lk_X7_157 ⟨rfl, rfl⟩ ?_
  refine ex_nmM (fun M26 eM26 => ?_)
  replace h := h M26 eM26
  refine ex_goto (tgt := 100) dX7_readBar_230 (by decide) ?_
  exact hB100 l1 l2 l3 M26 h
def w_X7_readBar_153 (Q : Int32 → Mem → Prop) (B100 : Int32 → Int32 → Int32 → Mem → Prop) (l1 : Int32) (l2 : Int32) (l3 : Int32) (M : Mem) : Prop := ((0 ≤ (M 46 25)) → ((((0 : Int32) = 0) → (B100 l1 l2 0 M)) ∧ (¬ ((0 : Int32) = 0) → ((((M 46 26) = 0) → (w_X7_readBar_215  Q B100 l1 l2 0 M)) ∧ (¬ ((M 46 26) = 0) → (w_X7_fail ((M 46 24) + 1) M (fun v27 M28 => w_X7_readBar_215  Q B100 l1 l2 0 M28))))))) ∧ (¬ (0 ≤ (M 46 25)) → (w_X7_peek (M 46 24) M (fun v29 M30 => (¬ (v29 = 35) → ((((0 : Int32) = 0) → (B100 l1 l2 0 M30)) ∧ (¬ ((0 : Int32) = 0) → ((((M30 46 26) = 0) → (w_X7_readBar_215  Q B100 l1 l2 0 M30)) ∧ (¬ ((M30 46 26) = 0) → (w_X7_fail ((M30 46 24) + 1) M30 (fun v31 M32 => w_X7_readBar_215  Q B100 l1 l2 0 M32))))))) ∧ ((v29 = 35) → (w_X7_peek ((M30 46 24) + 1) M30 (fun v33 M34 => ∀ z35 : Int32, z35 = (if v33 = 28 then 1 else 0) → ((z35 = 0) → (B100 l1 l2 z35 M34)) ∧ (¬ (z35 = 0) → ((((M34 46 26) = 0) → (w_X7_readBar_215  Q B100 l1 l2 z35 M34)) ∧ (¬ ((M34 46 26) = 0) → (w_X7_fail ((M34 46 24) + 1) M34 (fun v36 M37 => w_X7_readBar_215  Q B100 l1 l2 z35 M37)))))))))))
theorem t_X7_readBar_153 (Q : Int32 → Mem → Prop) (B100 : Int32 → Int32 → Int32 → Mem → Prop) (hB100 : ∀ (l1 : Int32) (l2 : Int32) (l3 : Int32) (M : Mem), B100 l1 l2 l3 M → Ex true mX7_readBar 78 78 0 0 100 [.ref 46, .int l1, .int l2, .int l3] [] M Q) (l1 : Int32) (l2 : Int32) (l3 : Int32) (M : Mem) (h : w_X7_readBar_153  Q B100 l1 l2 l3 M) : Ex true mX7_readBar 78 78 0 0 153 [.ref 46, .int l1, .int l2, .int l3] [] M Q := by
  unfold w_X7_readBar_153 at h
  refine ex_aload_n dX7_readBar_153 rfl ?_
  refine ex_getI (ci := 7) (j := 25) dX7_readBar_154 (by decide) rfl rfl lk_X7_120 ?_
  refine ex_if_ge (tgt := 192) dX7_readBar_157 (by decide) (fun c_157 => ?_) (fun c_157 => ?_)
  · replace h := h.1 c_157
    refine ex_iconst (v := 0) dX7_readBar_192 (by decide) ?_
    refine ex_istore_n (L2 := [.ref 46, .int l1, .int l2, .int 0]) dX7_readBar_193 (by decide) rfl rfl ?_
    refine ex_iload_n dX7_readBar_194 rfl ?_
    refine ex_if_eq (tgt := 100) dX7_readBar_195 (by decide) (fun c_195 => ?_) (fun c_195 => ?_)
    · replace h := h.1 c_195
      exact hB100 l1 l2 0 M h
    · replace h := h.2 c_195
      refine ex_aload_n dX7_readBar_198 rfl ?_
      refine ex_getI (ci := 7) (j := 26) dX7_readBar_199 (by decide) rfl rfl lk_X7_153 ?_
      refine ex_if_eq (tgt := 215) dX7_readBar_202 (by decide) (fun c_202 => ?_) (fun c_202 => ?_)
      · replace h := h.1 c_202
        exact t_X7_readBar_215   Q B100 hB100 l1 l2 0 M h
      · replace h := h.2 c_202
        refine ex_aload_n dX7_readBar_205 rfl ?_
        refine ex_aload_n dX7_readBar_206 rfl ?_
        refine ex_getI (ci := 7) (j := 24) dX7_readBar_207 (by decide) rfl rfl lk_X7_130 ?_
        refine ex_iconst (v := 1) dX7_readBar_210 (by decide) ?_
        refine ex_iadd dX7_readBar_211 ?_
        refine ex_invV (k := 46) (ci := 7) (as := [.int ((M 46 24) + 1)]) (L2 := [.ref 46, .int ((M 46 24) + 1)]) (st := []) 0 0 dX7_readBar_212 lk_X7_146 sl_X7_fail (rmK_of rfl) (by decide) rfl ⟨by decide, rfl⟩ rfl (Nat.le_of_ble_eq_true rfl) (Nat.le_of_ble_eq_true rfl) (t_X7_fail   ((M 46 24) + 1) M _ h) (fun v27 M28 h => ?_)
        show Ex true mX7_readBar 78 78 0 0 215 [.ref 46, .int l1, .int l2, .int 0] [] M28 Q
        exact t_X7_readBar_215   Q B100 hB100 l1 l2 0 M28 h
  · replace h := h.2 c_157
    refine ex_aload_n dX7_readBar_160 rfl ?_
    refine ex_aload_n dX7_readBar_161 rfl ?_
    refine ex_getI (ci := 7) (j := 24) dX7_readBar_162 (by decide) rfl rfl lk_X7_130 ?_
    refine ex_invV (k := 46) (ci := 7) (as := [.int (M 46 24)]) (L2 := [.ref 46, .int (M 46 24)]) (st := []) 0 0 dX7_readBar_165 lk_X7_133 sl_X7_peek (rmK_of rfl) (by decide) rfl ⟨by decide, rfl⟩ rfl (Nat.le_of_ble_eq_true rfl) (Nat.le_of_ble_eq_true rfl) (t_X7_peek   (M 46 24) M _ h) (fun v29 M30 h => ?_)
    show Ex true mX7_readBar 78 78 0 0 168 [.ref 46, .int l1, .int l2, .int l3] [.int v29] M30 Q
    refine ex_bipush (v := 35) dX7_readBar_168 (by decide) ?_
    refine ex_icmp_ne (tgt := 192) dX7_readBar_170 (by decide) (fun c_170 => ?_) (fun c_170 => ?_)
    · replace h := h.1 c_170
      refine ex_iconst (v := 0) dX7_readBar_192 (by decide) ?_
      refine ex_istore_n (L2 := [.ref 46, .int l1, .int l2, .int 0]) dX7_readBar_193 (by decide) rfl rfl ?_
      refine ex_iload_n dX7_readBar_194 rfl ?_
      refine ex_if_eq (tgt := 100) dX7_readBar_195 (by decide) (fun c_195 => ?_) (fun c_195 => ?_)
      · replace h := h.1 c_195
        exact hB100 l1 l2 0 M30 h
      · replace h := h.2 c_195
        refine ex_aload_n dX7_readBar_198 rfl ?_
        refine ex_getI (ci := 7) (j := 26) dX7_readBar_199 (by decide) rfl rfl lk_X7_153 ?_
        refine ex_if_eq (tgt := 215) dX7_readBar_202 (by decide) (fun c_202 => ?_) (fun c_202 => ?_)
        · replace h := h.1 c_202
          exact t_X7_readBar_215   Q B100 hB100 l1 l2 0 M30 h
        · replace h := h.2 c_202
          refine ex_aload_n dX7_readBar_205 rfl ?_
          refine ex_aload_n dX7_readBar_206 rfl ?_
          refine ex_getI (ci := 7) (j := 24) dX7_readBar_207 (by decide) rfl rfl lk_X7_130 ?_
          refine ex_iconst (v := 1) dX7_readBar_210 (by decide) ?_
          refine ex_iadd dX7_readBar_211 ?_
          refine ex_invV (k := 46) (ci := 7) (as := [.int ((M30 46 24) + 1)]) (L2 := [.ref 46, .int ((M30 46 24) + 1)]) (st := []) 0 0 dX7_readBar_212 lk_X7_146 sl_X7_fail (rmK_of rfl) (by decide) rfl ⟨by decide, rfl⟩ rfl (Nat.le_of_ble_eq_true rfl) (Nat.le_of_ble_eq_true rfl) (t_X7_fail   ((M30 46 24) + 1) M30 _ h) (fun v31 M32 h => ?_)
          show Ex true mX7_readBar 78 78 0 0 215 [.ref 46, .int l1, .int l2, .int 0] [] M32 Q
          exact t_X7_readBar_215   Q B100 hB100 l1 l2 0 M32 h
    · replace h := h.2 c_170
      refine ex_aload_n dX7_readBar_173 rfl ?_
      refine ex_aload_n dX7_readBar_174 rfl ?_
      refine ex_getI (ci := 7) (j := 24) dX7_readBar_175 (by decide) rfl rfl lk_X7_130 ?_
      refine ex_iconst (v := 1) dX7_readBar_178 (by decide) ?_
      refine ex_iadd dX7_readBar_179 ?_
      refine ex_invV (k := 46) (ci := 7) (as := [.int ((M30 46 24) + 1)]) (L2 := [.ref 46, .int ((M30 46 24) + 1)]) (st := []) 0 0 dX7_readBar_180 lk_X7_133 sl_X7_peek (rmK_of rfl) (by decide) rfl ⟨by decide, rfl⟩ rfl (Nat.le_of_ble_eq_true rfl) (Nat.le_of_ble_eq_true rfl) (t_X7_peek   ((M30 46 24) + 1) M30 _ h) (fun v33 M34 h => ?_)
      show Ex true mX7_readBar 78 78 0 0 183 [.ref 46, .int l1, .int l2, .int l3] [.int v33] M34 Q
      refine ex_bipush (v := 28) dX7_readBar_183 (by decide) ?_
      have hJ38 : ∀ z35 : Int32, z35 = (if v33 = 28 then 1 else 0) → Ex true mX7_readBar 78 78 0 0 193 [.ref 46, .int l1, .int l2, .int l3] [.int z35] M34 Q := by
        intro z35 ez35
        replace h := h z35 ez35
        refine ex_istore_n (L2 := [.ref 46, .int l1, .int l2, .int z35]) dX7_readBar_193 (by decide) rfl rfl ?_
        refine ex_iload_n dX7_readBar_194 rfl ?_
        refine ex_if_eq (tgt := 100) dX7_readBar_195 (by decide) (fun c_195 => ?_) (fun c_195 => ?_)
        · replace h := h.1 c_195
          exact hB100 l1 l2 z35 M34 h
        · replace h := h.2 c_195
          refine ex_aload_n dX7_readBar_198 rfl ?_
          refine ex_getI (ci := 7) (j := 26) dX7_readBar_199 (by decide) rfl rfl lk_X7_153 ?_
          refine ex_if_eq (tgt := 215) dX7_readBar_202 (by decide) (fun c_202 => ?_) (fun c_202 => ?_)
          · replace h := h.1 c_202
            exact t_X7_readBar_215   Q B100 hB100 l1 l2 z35 M34 h
          · replace h := h.2 c_202
            refine ex_aload_n dX7_readBar_205 rfl ?_
            refine ex_aload_n dX7_readBar_206 rfl ?_
            refine ex_getI (ci := 7) (j := 24) dX7_readBar_207 (by decide) rfl rfl lk_X7_130 ?_
            refine ex_iconst (v := 1) dX7_readBar_210 (by decide) ?_
            refine ex_iadd dX7_readBar_211 ?_
            refine ex_invV (k := 46) (ci := 7) (as := [.int ((M34 46 24) + 1)]) (L2 := [.ref 46, .int ((M34 46 24) + 1)]) (st := []) 0 0 dX7_readBar_212 lk_X7_146 sl_X7_fail (rmK_of rfl) (by decide) rfl ⟨by decide, rfl⟩ rfl (Nat.le_of_ble_eq_true rfl) (Nat.le_of_ble_eq_true rfl) (t_X7_fail   ((M34 46 24) + 1) M34 _ h) (fun v36 M37 h => ?_)
            show Ex true mX7_readBar 78 78 0 0 215 [.ref 46, .int l1, .int l2, .int z35] [] M37 Q
            exact t_X7_readBar_215   Q B100 hB100 l1 l2 z35 M37 h
      refine ex_icmp_ne (tgt := 192) dX7_readBar_185 (by decide) (fun c_185 => ?_) (fun c_185 => ?_)
      ·
        refine ex_iconst (v := 0) dX7_readBar_192 (by decide) ?_
        exact hJ38 _ (by rw [if_neg c_185])
      ·
        refine ex_iconst (v := 1) dX7_readBar_188 (by decide) ?_
        refine ex_goto (tgt := 193) dX7_readBar_189 (by decide) ?_
        exact hJ38 _ (by rw [if_pos c_185])
def wb_X7_readBar_100 (Q : Int32 → Mem → Prop) (B100 : Int32 → Int32 → Int32 → Mem → Prop) (l1 : Int32) (l2 : Int32) (l3 : Int32) (M : Mem) : Prop := ((l3 = 0) → (w_X7_readBar_233  Q  l1 l2 l3 M)) ∧ (¬ (l3 = 0) → (((0 ≤ (M 46 25)) → (w_X7_readBar_233  Q  l1 l2 l3 M)) ∧ (¬ (0 ≤ (M 46 25)) → ((vp_in l2 120) ∧ ((¬ ((M 57 (Int32.toNatClampNeg l2)) = 3) → ((vp_in l2 120) ∧ (w_X7_readVoice l1 (M 57 (Int32.toNatClampNeg l2)) M (fun v20 M21 => (vp_in l2 120) ∧ ((vp_in l2 120) ∧ (∀ M24 : Mem, M24 = (mset M21 57 (Int32.toNatClampNeg l2) ((M21 57 (Int32.toNatClampNeg l2)) + 1)) → w_X7_readBar_153  Q B100 l1 l2 l3 M24)))))) ∧ (((M 57 (Int32.toNatClampNeg l2)) = 3) → (w_X7_fail (M 46 24) M (fun v39 M40 => w_X7_readBar_153  Q B100 l1 l2 l3 M40))))))))
def w_X7_readBar_100 (Q : Int32 → Mem → Prop) : Nat → Int32 → Int32 → Int32 → Mem → Prop
  | 0 => fun _ _ _ _ => False
  | k + 1 => wb_X7_readBar_100  Q  (w_X7_readBar_100  Q  k)
theorem t_X7_readBar_100 (Q : Int32 → Mem → Prop) : ∀ (k : Nat) (l1 : Int32) (l2 : Int32) (l3 : Int32) (M : Mem), w_X7_readBar_100  Q  k l1 l2 l3 M → Ex true mX7_readBar 78 78 0 0 100 [.ref 46, .int l1, .int l2, .int l3] [] M Q := by
  intro k
  induction k with
  | zero => intro l1 l2 l3 M h; exact False.elim h
  | succ k hB100 =>
    intro l1 l2 l3 M h
    replace h : wb_X7_readBar_100  Q  (w_X7_readBar_100  Q  k) l1 l2 l3 M := h
    generalize w_X7_readBar_100  Q  k = B100 at hB100 h
    unfold wb_X7_readBar_100 at h
    refine ex_iload_n dX7_readBar_100 rfl ?_
    refine ex_if_eq (tgt := 233) dX7_readBar_101 (by decide) (fun c_101 => ?_) (fun c_101 => ?_)
    · replace h := h.1 c_101
      exact t_X7_readBar_233   Q   l1 l2 l3 M h
    · replace h := h.2 c_101
      refine ex_aload_n dX7_readBar_104 rfl ?_
      refine ex_getI (ci := 7) (j := 25) dX7_readBar_105 (by decide) rfl rfl lk_X7_120 ?_
      refine ex_if_ge (tgt := 233) dX7_readBar_108 (by decide) (fun c_108 => ?_) (fun c_108 => ?_)
      · replace h := h.1 c_108
        exact t_X7_readBar_233   Q   l1 l2 l3 M h
      · replace h := h.2 c_108
        refine ex_aload_n dX7_readBar_111 rfl ?_
        refine ex_getR (ci := 7) (j := 12) (v := 57) dX7_readBar_112 (by decide) rfl rfl lk_X7_44 rfl (by decide) ?_
        refine ex_iload_n dX7_readBar_115 rfl ?_
        obtain ⟨b18, h⟩ := h
        refine ex_iald dX7_readBar_116 (by decide) rfl b18 ?_
        refine ex_iconst (v := 3) dX7_readBar_117 (by decide) ?_
        refine ex_icmp_ne (tgt := 132) dX7_readBar_118 (by decide) (fun c_118 => ?_) (fun c_118 => ?_)
        · replace h := h.1 c_118
          refine ex_aload_n dX7_readBar_132 rfl ?_
          refine ex_iload_n dX7_readBar_133 rfl ?_
          refine ex_aload_n dX7_readBar_134 rfl ?_
          refine ex_getR (ci := 7) (j := 12) (v := 57) dX7_readBar_135 (by decide) rfl rfl lk_X7_44 rfl (by decide) ?_
          refine ex_iload_n dX7_readBar_138 rfl ?_
          obtain ⟨b19, h⟩ := h
          refine ex_iald dX7_readBar_139 (by decide) rfl b19 ?_
          refine ex_invV (k := 46) (ci := 7) (as := [.int l1, .int (M 57 (Int32.toNatClampNeg l2))]) (L2 := [.ref 46, .int l1, .int (M 57 (Int32.toNatClampNeg l2)), .null, .null, .null]) (st := []) 0 0 dX7_readBar_140 lk_X7_199 sl_X7_readVoice (rmK_of rfl) (by decide) rfl ⟨by decide, rfl⟩ rfl (Nat.le_of_ble_eq_true rfl) (Nat.le_of_ble_eq_true rfl) (t_X7_readVoice   l1 (M 57 (Int32.toNatClampNeg l2)) M _ h) (fun v20 M21 h => ?_)
          show Ex true mX7_readBar 78 78 0 0 143 [.ref 46, .int l1, .int l2, .int l3] [] M21 Q
          refine ex_aload_n dX7_readBar_143 rfl ?_
          refine ex_getR (ci := 7) (j := 12) (v := 57) dX7_readBar_144 (by decide) rfl rfl lk_X7_44 rfl (by decide) ?_
          refine ex_iload_n dX7_readBar_147 rfl ?_
          refine ex_dup2 dX7_readBar_148 rfl rfl ?_
          obtain ⟨b22, h⟩ := h
          refine ex_iald dX7_readBar_149 (by decide) rfl b22 ?_
          refine ex_iconst (v := 1) dX7_readBar_150 (by decide) ?_
          refine ex_iadd dX7_readBar_151 ?_
          obtain ⟨b23, h⟩ := h
          refine ex_iast dX7_readBar_152 (by decide) rfl b23 ?_
          refine ex_nmM (fun M24 eM24 => ?_)
          replace h := h M24 eM24
          exact t_X7_readBar_153   Q B100 hB100 l1 l2 l3 M24 h
        · replace h := h.2 c_118
          refine ex_aload_n dX7_readBar_121 rfl ?_
          refine ex_aload_n dX7_readBar_122 rfl ?_
          refine ex_getI (ci := 7) (j := 24) dX7_readBar_123 (by decide) rfl rfl lk_X7_130 ?_
          refine ex_invV (k := 46) (ci := 7) (as := [.int (M 46 24)]) (L2 := [.ref 46, .int (M 46 24)]) (st := []) 0 0 dX7_readBar_126 lk_X7_146 sl_X7_fail (rmK_of rfl) (by decide) rfl ⟨by decide, rfl⟩ rfl (Nat.le_of_ble_eq_true rfl) (Nat.le_of_ble_eq_true rfl) (t_X7_fail   (M 46 24) M _ h) (fun v39 M40 h => ?_)
          show Ex true mX7_readBar 78 78 0 0 129 [.ref 46, .int l1, .int l2, .int l3] [] M40 Q
          refine ex_goto (tgt := 153) dX7_readBar_129 (by decide) ?_
          exact t_X7_readBar_153   Q B100 hB100 l1 l2 l3 M40 h
def w_X7_readBar_73 (Q : Int32 → Mem → Prop) (l1 : Int32) (l2 : Int32) (M : Mem) : Prop := (vp_in l2 120) ∧ (∀ M44 : Mem, M44 = (mset M 56 (Int32.toNatClampNeg l2) 1) → ∀ M45 : Mem, M45 = (mset M44 46 27 1) → ∀ M46 : Mem, M46 = (mset M45 46 24 ((M45 46 24) + 1)) → w_X7_readBar_257  Q  l1 l2 M46)
theorem t_X7_readBar_73 (Q : Int32 → Mem → Prop) (l1 : Int32) (l2 : Int32) (M : Mem) (h : w_X7_readBar_73  Q  l1 l2 M) : Ex true mX7_readBar 78 78 0 0 73 [.ref 46, .int l1, .int l2, .null] [] M Q := by
  unfold w_X7_readBar_73 at h
  refine ex_aload_n dX7_readBar_73 rfl ?_
  refine ex_getR (ci := 7) (j := 11) (v := 56) dX7_readBar_74 (by decide) rfl rfl lk_X7_41 rfl (by decide) ?_
  refine ex_iload_n dX7_readBar_77 rfl ?_
  refine ex_iconst (v := 1) dX7_readBar_78 (by decide) ?_
  obtain ⟨b43, h⟩ := h
  refine ex_iast dX7_readBar_79 (by decide) rfl b43 ?_
  refine ex_nmM (fun M44 eM44 => ?_)
  replace h := h M44 eM44
  refine ex_aload_n dX7_readBar_80 rfl ?_
  refine ex_iconst (v := 1) dX7_readBar_81 (by decide) ?_
  refine ex_putI (ci := 7) (j := 27) dX7_readBar_82 (by decide) rfl rfl lk_X7_157 ⟨rfl, rfl⟩ ?_
  refine ex_nmM (fun M45 eM45 => ?_)
  replace h := h M45 eM45
  refine ex_aload_n dX7_readBar_85 rfl ?_
  refine ex_dup dX7_readBar_86 rfl ?_
  refine ex_getI (ci := 7) (j := 24) dX7_readBar_87 (by decide) rfl rfl lk_X7_130 ?_
  refine ex_iconst (v := 1) dX7_readBar_90 (by decide) ?_
  refine ex_iadd dX7_readBar_91 ?_
  refine ex_putI (ci := 7) (j := 24) dX7_readBar_92 (by decide) rfl rfl lk_X7_130 ⟨rfl, rfl⟩ ?_
  refine ex_nmM (fun M46 eM46 => ?_)
  replace h := h M46 eM46
  refine ex_goto (tgt := 257) dX7_readBar_95 (by decide) ?_
  exact t_X7_readBar_257   Q   l1 l2 M46 h
def w_X7_readBar_65 (Q : Int32 → Mem → Prop) (l1 : Int32) (l2 : Int32) (M : Mem) : Prop := w_X7_fail (M 46 24) M (fun v41 M42 => w_X7_readBar_73  Q  l1 l2 M42)
theorem t_X7_readBar_65 (Q : Int32 → Mem → Prop) (l1 : Int32) (l2 : Int32) (M : Mem) (h : w_X7_readBar_65  Q  l1 l2 M) : Ex true mX7_readBar 78 78 0 0 65 [.ref 46, .int l1, .int l2, .null] [] M Q := by
  unfold w_X7_readBar_65 at h
  refine ex_aload_n dX7_readBar_65 rfl ?_
  refine ex_aload_n dX7_readBar_66 rfl ?_
  refine ex_getI (ci := 7) (j := 24) dX7_readBar_67 (by decide) rfl rfl lk_X7_130 ?_
  refine ex_invV (k := 46) (ci := 7) (as := [.int (M 46 24)]) (L2 := [.ref 46, .int (M 46 24)]) (st := []) 0 0 dX7_readBar_70 lk_X7_146 sl_X7_fail (rmK_of rfl) (by decide) rfl ⟨by decide, rfl⟩ rfl (Nat.le_of_ble_eq_true rfl) (Nat.le_of_ble_eq_true rfl) (t_X7_fail   (M 46 24) M _ h) (fun v41 M42 h => ?_)
  show Ex true mX7_readBar 78 78 0 0 73 [.ref 46, .int l1, .int l2, .null] [] M42 Q
  exact t_X7_readBar_73   Q   l1 l2 M42 h
def w_X7_readBar (M : Mem) (Q : Int32 → Mem → Prop) : Prop := (vp_in 1 2) ∧ (∀ x2 : Int32, x2 = (M 53 (Int32.toNatClampNeg 1)) → (¬ (x2 = 60) → (∀ x3 : Int32, x3 = (60 + x2) → (vp_in x3 120) ∧ (∀ M5 : Mem, M5 = (mset M 56 (Int32.toNatClampNeg x3) 0) → (vp_in x3 120) ∧ (∀ M7 : Mem, M7 = (mset M5 57 (Int32.toNatClampNeg x3) 0) → w_X7_peek (M7 46 24) M7 (fun v8 M9 => (¬ (v8 = 54) → (∃ k, w_X7_readBar_100  Q  k x2 x3 1 M9)) ∧ ((v8 = 54) → (((x2 = 0) → (w_X7_readBar_65  Q  x2 x3 M9)) ∧ (¬ (x2 = 0) → ((((M9 46 26) = 0) → (w_X7_readBar_73  Q  x2 x3 M9)) ∧ (¬ ((M9 46 26) = 0) → (w_X7_readBar_65  Q  x2 x3 M9))))))))))) ∧ ((x2 = 60) → (w_X7_fail (M 46 24) M (fun v47 M48 => Q 0 M48))))
theorem t_X7_readBar (M : Mem) (Q : Int32 → Mem → Prop) (h : w_X7_readBar   M Q) : Ex true mX7_readBar 78 78 0 0 0 [.ref 46, .null, .null, .null] [] M Q := by
  unfold w_X7_readBar at h
  refine ex_aload_n dX7_readBar_0 rfl ?_
  refine ex_getR (ci := 7) (j := 8) (v := 53) dX7_readBar_1 (by decide) rfl rfl lk_X7_32 rfl (by decide) ?_
  refine ex_iconst (v := 1) dX7_readBar_4 (by decide) ?_
  obtain ⟨b1, h⟩ := h
  refine ex_iald dX7_readBar_5 (by decide) rfl b1 ?_
  refine ex_top (fun x2 ex2 => ?_)
  replace h := h x2 ex2
  refine ex_istore_n (L2 := [.ref 46, .int x2, .null, .null]) dX7_readBar_6 (by decide) rfl rfl ?_
  refine ex_iload_n dX7_readBar_7 rfl ?_
  refine ex_bipush (v := 60) dX7_readBar_8 (by decide) ?_
  refine ex_icmp_ne (tgt := 22) dX7_readBar_10 (by decide) (fun c_10 => ?_) (fun c_10 => ?_)
  · replace h := h.1 c_10
    refine ex_bipush (v := 60) dX7_readBar_22 (by decide) ?_
    refine ex_iload_n dX7_readBar_24 rfl ?_
    refine ex_iadd dX7_readBar_25 ?_
    refine ex_top (fun x3 ex3 => ?_)
    replace h := h x3 ex3
    refine ex_istore_n (L2 := [.ref 46, .int x2, .int x3, .null]) dX7_readBar_26 (by decide) rfl rfl ?_
    refine ex_aload_n dX7_readBar_27 rfl ?_
    refine ex_getR (ci := 7) (j := 11) (v := 56) dX7_readBar_28 (by decide) rfl rfl lk_X7_41 rfl (by decide) ?_
    refine ex_iload_n dX7_readBar_31 rfl ?_
    refine ex_iconst (v := 0) dX7_readBar_32 (by decide) ?_
    obtain ⟨b4, h⟩ := h
    refine ex_iast dX7_readBar_33 (by decide) rfl b4 ?_
    refine ex_nmM (fun M5 eM5 => ?_)
    replace h := h M5 eM5
    refine ex_aload_n dX7_readBar_34 rfl ?_
    refine ex_getR (ci := 7) (j := 12) (v := 57) dX7_readBar_35 (by decide) rfl rfl lk_X7_44 rfl (by decide) ?_
    refine ex_iload_n dX7_readBar_38 rfl ?_
    refine ex_iconst (v := 0) dX7_readBar_39 (by decide) ?_
    obtain ⟨b6, h⟩ := h
    refine ex_iast dX7_readBar_40 (by decide) rfl b6 ?_
    refine ex_nmM (fun M7 eM7 => ?_)
    replace h := h M7 eM7
    refine ex_aload_n dX7_readBar_41 rfl ?_
    refine ex_aload_n dX7_readBar_42 rfl ?_
    refine ex_getI (ci := 7) (j := 24) dX7_readBar_43 (by decide) rfl rfl lk_X7_130 ?_
    refine ex_invV (k := 46) (ci := 7) (as := [.int (M7 46 24)]) (L2 := [.ref 46, .int (M7 46 24)]) (st := []) 0 0 dX7_readBar_46 lk_X7_133 sl_X7_peek (rmK_of rfl) (by decide) rfl ⟨by decide, rfl⟩ rfl (Nat.le_of_ble_eq_true rfl) (Nat.le_of_ble_eq_true rfl) (t_X7_peek   (M7 46 24) M7 _ h) (fun v8 M9 h => ?_)
    show Ex true mX7_readBar 78 78 0 0 49 [.ref 46, .int x2, .int x3, .null] [.int v8] M9 Q
    refine ex_bipush (v := 54) dX7_readBar_49 (by decide) ?_
    refine ex_icmp_ne (tgt := 98) dX7_readBar_51 (by decide) (fun c_51 => ?_) (fun c_51 => ?_)
    · replace h := h.1 c_51
      refine ex_iconst (v := 1) dX7_readBar_98 (by decide) ?_
      refine ex_istore_n (L2 := [.ref 46, .int x2, .int x3, .int 1]) dX7_readBar_99 (by decide) rfl rfl ?_
      obtain ⟨k_, h⟩ := h
      exact t_X7_readBar_100   Q   k_ x2 x3 1 M9 h
    · replace h := h.2 c_51
      refine ex_iload_n dX7_readBar_54 rfl ?_
      refine ex_if_eq (tgt := 65) dX7_readBar_55 (by decide) (fun c_55 => ?_) (fun c_55 => ?_)
      · replace h := h.1 c_55
        exact t_X7_readBar_65   Q   x2 x3 M9 h
      · replace h := h.2 c_55
        refine ex_aload_n dX7_readBar_58 rfl ?_
        refine ex_getI (ci := 7) (j := 26) dX7_readBar_59 (by decide) rfl rfl lk_X7_153 ?_
        refine ex_if_eq (tgt := 73) dX7_readBar_62 (by decide) (fun c_62 => ?_) (fun c_62 => ?_)
        · replace h := h.1 c_62
          exact t_X7_readBar_73   Q   x2 x3 M9 h
        · replace h := h.2 c_62
          exact t_X7_readBar_65   Q   x2 x3 M9 h
  · replace h := h.2 c_10
    refine ex_aload_n dX7_readBar_13 rfl ?_
    refine ex_aload_n dX7_readBar_14 rfl ?_
    refine ex_getI (ci := 7) (j := 24) dX7_readBar_15 (by decide) rfl rfl lk_X7_130 ?_
    refine ex_invV (k := 46) (ci := 7) (as := [.int (M 46 24)]) (L2 := [.ref 46, .int (M 46 24)]) (st := []) 0 0 dX7_readBar_18 lk_X7_146 sl_X7_fail (rmK_of rfl) (by decide) rfl ⟨by decide, rfl⟩ rfl (Nat.le_of_ble_eq_true rfl) (Nat.le_of_ble_eq_true rfl) (t_X7_fail   (M 46 24) M _ h) (fun v47 M48 h => ?_)
    show Ex true mX7_readBar 78 78 0 0 21 [.ref 46, .int x2, .null, .null] [] M48 Q
    exact ex_vret dX7_readBar_21 rfl rfl h
def wb_X7_take_128 (Q : Int32 → Mem → Prop) (B128 : Int32 → Int32 → Int32 → Mem → Prop) (l1 : Int32) (l2 : Int32) (l3 : Int32) (M : Mem) : Prop := ((4 ≤ l3) → (Q 0 M)) ∧ (¬ (4 ≤ l3) → ((vp_in ((4 * l2) + l3) 4800) ∧ ((vp_in ((4 * l1) + l3) 4800) ∧ (∀ M34 : Mem, M34 = (mset M 68 (Int32.toNatClampNeg ((4 * l1) + l3)) (M 68 (Int32.toNatClampNeg ((4 * l2) + l3)))) → ∀ x35 : Int32, x35 = l3 + 1 → B128 l1 l2 x35 M34))))
def w_X7_take_128 (Q : Int32 → Mem → Prop) : Nat → Int32 → Int32 → Int32 → Mem → Prop
  | 0 => fun _ _ _ _ => False
  | k + 1 => wb_X7_take_128  Q  (w_X7_take_128  Q  k)
theorem t_X7_take_128 (Q : Int32 → Mem → Prop) : ∀ (k : Nat) (l1 : Int32) (l2 : Int32) (l3 : Int32) (M : Mem), w_X7_take_128  Q  k l1 l2 l3 M → Ex true mX7_take 78 78 0 0 128 [.ref 46, .int l1, .int l2, .int l3] [] M Q := by
  intro k
  induction k with
  | zero => intro l1 l2 l3 M h; exact False.elim h
  | succ k hB128 =>
    intro l1 l2 l3 M h
    replace h : wb_X7_take_128  Q  (w_X7_take_128  Q  k) l1 l2 l3 M := h
    generalize w_X7_take_128  Q  k = B128 at hB128 h
    unfold wb_X7_take_128 at h
    refine ex_iload_n dX7_take_128 rfl ?_
    refine ex_iconst (v := 4) dX7_take_129 (by decide) ?_
    refine ex_icmp_ge (tgt := 159) dX7_take_130 (by decide) (fun c_130 => ?_) (fun c_130 => ?_)
    · replace h := h.1 c_130
      exact ex_vret dX7_take_159 rfl rfl h
    · replace h := h.2 c_130
      refine ex_aload_n dX7_take_133 rfl ?_
      refine ex_getR (ci := 7) (j := 23) (v := 68) dX7_take_134 (by decide) rfl rfl lk_X7_77 rfl (by decide) ?_
      refine ex_iconst (v := 4) dX7_take_137 (by decide) ?_
      refine ex_iload_n dX7_take_138 rfl ?_
      refine ex_imul dX7_take_139 ?_
      refine ex_iload_n dX7_take_140 rfl ?_
      refine ex_iadd dX7_take_141 ?_
      refine ex_aload_n dX7_take_142 rfl ?_
      refine ex_getR (ci := 7) (j := 23) (v := 68) dX7_take_143 (by decide) rfl rfl lk_X7_77 rfl (by decide) ?_
      refine ex_iconst (v := 4) dX7_take_146 (by decide) ?_
      refine ex_iload_n dX7_take_147 rfl ?_
      refine ex_imul dX7_take_148 ?_
      refine ex_iload_n dX7_take_149 rfl ?_
      refine ex_iadd dX7_take_150 ?_
      obtain ⟨b32, h⟩ := h
      refine ex_iald dX7_take_151 (by decide) rfl b32 ?_
      obtain ⟨b33, h⟩ := h
      refine ex_iast dX7_take_152 (by decide) rfl b33 ?_
      refine ex_nmM (fun M34 eM34 => ?_)
      replace h := h M34 eM34
      refine ex_iinc (v := l3 + 1) (L2 := [.ref 46, .int l1, .int l2, .int (l3 + 1)]) dX7_take_153 rfl rfl (by decide) rfl rfl ?_
      obtain ⟨x35, ex35⟩ : ∃ x35 : Int32, x35 = l3 + 1 := ⟨_, rfl⟩
      rw [← ex35]
      replace h := h x35 ex35
      refine ex_goto (tgt := 128) dX7_take_156 (by decide) ?_
      exact hB128 l1 l2 x35 M34 h
def w_X7_take (p1 : Int32) (M : Mem) (Q : Int32 → Mem → Prop) : Prop := ∀ x1 : Int32, x1 = (600 + p1) → (vp_in x1 1200) ∧ ((vp_in p1 1200) ∧ (∀ M4 : Mem, M4 = (mset M 58 (Int32.toNatClampNeg p1) (M 58 (Int32.toNatClampNeg x1))) → (vp_in x1 1200) ∧ ((vp_in p1 1200) ∧ (∀ M7 : Mem, M7 = (mset M4 59 (Int32.toNatClampNeg p1) (M4 59 (Int32.toNatClampNeg x1))) → (vp_in x1 1200) ∧ ((vp_in p1 1200) ∧ (∀ M10 : Mem, M10 = (mset M7 60 (Int32.toNatClampNeg p1) (M7 60 (Int32.toNatClampNeg x1))) → (vp_in x1 1200) ∧ ((vp_in p1 1200) ∧ (∀ M13 : Mem, M13 = (mset M10 61 (Int32.toNatClampNeg p1) (M10 61 (Int32.toNatClampNeg x1))) → (vp_in x1 1200) ∧ ((vp_in p1 1200) ∧ (∀ M16 : Mem, M16 = (mset M13 62 (Int32.toNatClampNeg p1) (M13 62 (Int32.toNatClampNeg x1))) → (vp_in x1 1200) ∧ ((vp_in p1 1200) ∧ (∀ M19 : Mem, M19 = (mset M16 63 (Int32.toNatClampNeg p1) (M16 63 (Int32.toNatClampNeg x1))) → (vp_in x1 1200) ∧ ((vp_in p1 1200) ∧ (∀ M22 : Mem, M22 = (mset M19 64 (Int32.toNatClampNeg p1) (M19 64 (Int32.toNatClampNeg x1))) → (vp_in x1 1200) ∧ ((vp_in p1 1200) ∧ (∀ M25 : Mem, M25 = (mset M22 65 (Int32.toNatClampNeg p1) (M22 65 (Int32.toNatClampNeg x1))) → (vp_in x1 1200) ∧ ((vp_in p1 1200) ∧ (∀ M28 : Mem, M28 = (mset M25 66 (Int32.toNatClampNeg p1) (M25 66 (Int32.toNatClampNeg x1))) → (vp_in x1 1200) ∧ ((vp_in p1 1200) ∧ (∀ M31 : Mem, M31 = (mset M28 67 (Int32.toNatClampNeg p1) (M28 67 (Int32.toNatClampNeg x1))) → ∃ k, w_X7_take_128  Q  k p1 x1 0 M31))))))))))))))))))))
theorem t_X7_take (p1 : Int32) (M : Mem) (Q : Int32 → Mem → Prop) (h : w_X7_take  p1 M Q) : Ex true mX7_take 78 78 0 0 0 [.ref 46, .int p1, .null, .null] [] M Q := by
  unfold w_X7_take at h
  refine ex_sipush (v := 600) dX7_take_0 (by decide) ?_
  refine ex_iload_n dX7_take_3 rfl ?_
  refine ex_iadd dX7_take_4 ?_
  refine ex_top (fun x1 ex1 => ?_)
  replace h := h x1 ex1
  refine ex_istore_n (L2 := [.ref 46, .int p1, .int x1, .null]) dX7_take_5 (by decide) rfl rfl ?_
  refine ex_aload_n dX7_take_6 rfl ?_
  refine ex_getR (ci := 7) (j := 13) (v := 58) dX7_take_7 (by decide) rfl rfl lk_X7_47 rfl (by decide) ?_
  refine ex_iload_n dX7_take_10 rfl ?_
  refine ex_aload_n dX7_take_11 rfl ?_
  refine ex_getR (ci := 7) (j := 13) (v := 58) dX7_take_12 (by decide) rfl rfl lk_X7_47 rfl (by decide) ?_
  refine ex_iload_n dX7_take_15 rfl ?_
  obtain ⟨b2, h⟩ := h
  refine ex_iald dX7_take_16 (by decide) rfl b2 ?_
  obtain ⟨b3, h⟩ := h
  refine ex_iast dX7_take_17 (by decide) rfl b3 ?_
  refine ex_nmM (fun M4 eM4 => ?_)
  replace h := h M4 eM4
  refine ex_aload_n dX7_take_18 rfl ?_
  refine ex_getR (ci := 7) (j := 14) (v := 59) dX7_take_19 (by decide) rfl rfl lk_X7_50 rfl (by decide) ?_
  refine ex_iload_n dX7_take_22 rfl ?_
  refine ex_aload_n dX7_take_23 rfl ?_
  refine ex_getR (ci := 7) (j := 14) (v := 59) dX7_take_24 (by decide) rfl rfl lk_X7_50 rfl (by decide) ?_
  refine ex_iload_n dX7_take_27 rfl ?_
  obtain ⟨b5, h⟩ := h
  refine ex_iald dX7_take_28 (by decide) rfl b5 ?_
  obtain ⟨b6, h⟩ := h
  refine ex_iast dX7_take_29 (by decide) rfl b6 ?_
  refine ex_nmM (fun M7 eM7 => ?_)
  replace h := h M7 eM7
  refine ex_aload_n dX7_take_30 rfl ?_
  refine ex_getR (ci := 7) (j := 15) (v := 60) dX7_take_31 (by decide) rfl rfl lk_X7_53 rfl (by decide) ?_
  refine ex_iload_n dX7_take_34 rfl ?_
  refine ex_aload_n dX7_take_35 rfl ?_
  refine ex_getR (ci := 7) (j := 15) (v := 60) dX7_take_36 (by decide) rfl rfl lk_X7_53 rfl (by decide) ?_
  refine ex_iload_n dX7_take_39 rfl ?_
  obtain ⟨b8, h⟩ := h
  refine ex_iald dX7_take_40 (by decide) rfl b8 ?_
  obtain ⟨b9, h⟩ := h
  refine ex_iast dX7_take_41 (by decide) rfl b9 ?_
  refine ex_nmM (fun M10 eM10 => ?_)
  replace h := h M10 eM10
  refine ex_aload_n dX7_take_42 rfl ?_
  refine ex_getR (ci := 7) (j := 16) (v := 61) dX7_take_43 (by decide) rfl rfl lk_X7_56 rfl (by decide) ?_
  refine ex_iload_n dX7_take_46 rfl ?_
  refine ex_aload_n dX7_take_47 rfl ?_
  refine ex_getR (ci := 7) (j := 16) (v := 61) dX7_take_48 (by decide) rfl rfl lk_X7_56 rfl (by decide) ?_
  refine ex_iload_n dX7_take_51 rfl ?_
  obtain ⟨b11, h⟩ := h
  refine ex_iald dX7_take_52 (by decide) rfl b11 ?_
  obtain ⟨b12, h⟩ := h
  refine ex_iast dX7_take_53 (by decide) rfl b12 ?_
  refine ex_nmM (fun M13 eM13 => ?_)
  replace h := h M13 eM13
  refine ex_aload_n dX7_take_54 rfl ?_
  refine ex_getR (ci := 7) (j := 17) (v := 62) dX7_take_55 (by decide) rfl rfl lk_X7_59 rfl (by decide) ?_
  refine ex_iload_n dX7_take_58 rfl ?_
  refine ex_aload_n dX7_take_59 rfl ?_
  refine ex_getR (ci := 7) (j := 17) (v := 62) dX7_take_60 (by decide) rfl rfl lk_X7_59 rfl (by decide) ?_
  refine ex_iload_n dX7_take_63 rfl ?_
  obtain ⟨b14, h⟩ := h
  refine ex_iald dX7_take_64 (by decide) rfl b14 ?_
  obtain ⟨b15, h⟩ := h
  refine ex_iast dX7_take_65 (by decide) rfl b15 ?_
  refine ex_nmM (fun M16 eM16 => ?_)
  replace h := h M16 eM16
  refine ex_aload_n dX7_take_66 rfl ?_
  refine ex_getR (ci := 7) (j := 18) (v := 63) dX7_take_67 (by decide) rfl rfl lk_X7_62 rfl (by decide) ?_
  refine ex_iload_n dX7_take_70 rfl ?_
  refine ex_aload_n dX7_take_71 rfl ?_
  refine ex_getR (ci := 7) (j := 18) (v := 63) dX7_take_72 (by decide) rfl rfl lk_X7_62 rfl (by decide) ?_
  refine ex_iload_n dX7_take_75 rfl ?_
  obtain ⟨b17, h⟩ := h
  refine ex_iald dX7_take_76 (by decide) rfl b17 ?_
  obtain ⟨b18, h⟩ := h
  refine ex_iast dX7_take_77 (by decide) rfl b18 ?_
  refine ex_nmM (fun M19 eM19 => ?_)
  replace h := h M19 eM19
  refine ex_aload_n dX7_take_78 rfl ?_
  refine ex_getR (ci := 7) (j := 19) (v := 64) dX7_take_79 (by decide) rfl rfl lk_X7_65 rfl (by decide) ?_
  refine ex_iload_n dX7_take_82 rfl ?_
  refine ex_aload_n dX7_take_83 rfl ?_
  refine ex_getR (ci := 7) (j := 19) (v := 64) dX7_take_84 (by decide) rfl rfl lk_X7_65 rfl (by decide) ?_
  refine ex_iload_n dX7_take_87 rfl ?_
  obtain ⟨b20, h⟩ := h
  refine ex_iald dX7_take_88 (by decide) rfl b20 ?_
  obtain ⟨b21, h⟩ := h
  refine ex_iast dX7_take_89 (by decide) rfl b21 ?_
  refine ex_nmM (fun M22 eM22 => ?_)
  replace h := h M22 eM22
  refine ex_aload_n dX7_take_90 rfl ?_
  refine ex_getR (ci := 7) (j := 20) (v := 65) dX7_take_91 (by decide) rfl rfl lk_X7_68 rfl (by decide) ?_
  refine ex_iload_n dX7_take_94 rfl ?_
  refine ex_aload_n dX7_take_95 rfl ?_
  refine ex_getR (ci := 7) (j := 20) (v := 65) dX7_take_96 (by decide) rfl rfl lk_X7_68 rfl (by decide) ?_
  refine ex_iload_n dX7_take_99 rfl ?_
  obtain ⟨b23, h⟩ := h
  refine ex_iald dX7_take_100 (by decide) rfl b23 ?_
  obtain ⟨b24, h⟩ := h
  refine ex_iast dX7_take_101 (by decide) rfl b24 ?_
  refine ex_nmM (fun M25 eM25 => ?_)
  replace h := h M25 eM25
  refine ex_aload_n dX7_take_102 rfl ?_
  refine ex_getR (ci := 7) (j := 21) (v := 66) dX7_take_103 (by decide) rfl rfl lk_X7_71 rfl (by decide) ?_
  refine ex_iload_n dX7_take_106 rfl ?_
  refine ex_aload_n dX7_take_107 rfl ?_
  refine ex_getR (ci := 7) (j := 21) (v := 66) dX7_take_108 (by decide) rfl rfl lk_X7_71 rfl (by decide) ?_
  refine ex_iload_n dX7_take_111 rfl ?_
  obtain ⟨b26, h⟩ := h
  refine ex_iald dX7_take_112 (by decide) rfl b26 ?_
  obtain ⟨b27, h⟩ := h
  refine ex_iast dX7_take_113 (by decide) rfl b27 ?_
  refine ex_nmM (fun M28 eM28 => ?_)
  replace h := h M28 eM28
  refine ex_aload_n dX7_take_114 rfl ?_
  refine ex_getR (ci := 7) (j := 22) (v := 67) dX7_take_115 (by decide) rfl rfl lk_X7_74 rfl (by decide) ?_
  refine ex_iload_n dX7_take_118 rfl ?_
  refine ex_aload_n dX7_take_119 rfl ?_
  refine ex_getR (ci := 7) (j := 22) (v := 67) dX7_take_120 (by decide) rfl rfl lk_X7_74 rfl (by decide) ?_
  refine ex_iload_n dX7_take_123 rfl ?_
  obtain ⟨b29, h⟩ := h
  refine ex_iald dX7_take_124 (by decide) rfl b29 ?_
  obtain ⟨b30, h⟩ := h
  refine ex_iast dX7_take_125 (by decide) rfl b30 ?_
  refine ex_nmM (fun M31 eM31 => ?_)
  replace h := h M31 eM31
  refine ex_iconst (v := 0) dX7_take_126 (by decide) ?_
  refine ex_istore_n (L2 := [.ref 46, .int p1, .int x1, .int 0]) dX7_take_127 (by decide) rfl rfl ?_
  obtain ⟨k_, h⟩ := h
  exact t_X7_take_128   Q   k_ p1 x1 0 M31 h
def wb_X7_read_303 (Q : Int32 → Mem → Prop) (B303 : Int32 → Int32 → Mem → Prop) (l1 : Int32) (l2 : Int32) (M : Mem) : Prop := (vp_in 1 2) ∧ ((((M 54 (Int32.toNatClampNeg 1)) ≤ l2) → ((vp_in 0 2) ∧ (Q (M 53 (Int32.toNatClampNeg 0)) M))) ∧ (¬ ((M 54 (Int32.toNatClampNeg 1)) ≤ l2) → (w_X7_take l2 M (fun v24 M25 => ∀ x26 : Int32, x26 = l2 + 1 → B303 l1 x26 M25))))
def w_X7_read_303 (Q : Int32 → Mem → Prop) : Nat → Int32 → Int32 → Mem → Prop
  | 0 => fun _ _ _ => False
  | k + 1 => wb_X7_read_303  Q  (w_X7_read_303  Q  k)
theorem t_X7_read_303 (Q : Int32 → Mem → Prop) : ∀ (k : Nat) (l1 : Int32) (l2 : Int32) (M : Mem), w_X7_read_303  Q  k l1 l2 M → Ex true mX7_read 78 78 0 0 303 [.ref 46, .int l1, .int l2] [] M Q := by
  intro k
  induction k with
  | zero => intro l1 l2 M h; exact False.elim h
  | succ k hB303 =>
    intro l1 l2 M h
    replace h : wb_X7_read_303  Q  (w_X7_read_303  Q  k) l1 l2 M := h
    generalize w_X7_read_303  Q  k = B303 at hB303 h
    unfold wb_X7_read_303 at h
    refine ex_iload_n dX7_read_303 rfl ?_
    refine ex_aload_n dX7_read_304 rfl ?_
    refine ex_getR (ci := 7) (j := 9) (v := 54) dX7_read_305 (by decide) rfl rfl lk_X7_35 rfl (by decide) ?_
    refine ex_iconst (v := 1) dX7_read_308 (by decide) ?_
    obtain ⟨b22, h⟩ := h
    refine ex_iald dX7_read_309 (by decide) rfl b22 ?_
    refine ex_icmp_ge (tgt := 324) dX7_read_310 (by decide) (fun c_310 => ?_) (fun c_310 => ?_)
    · replace h := h.1 c_310
      refine ex_aload_n dX7_read_324 rfl ?_
      refine ex_getR (ci := 7) (j := 8) (v := 53) dX7_read_325 (by decide) rfl rfl lk_X7_32 rfl (by decide) ?_
      refine ex_iconst (v := 0) dX7_read_328 (by decide) ?_
      obtain ⟨b23, h⟩ := h
      refine ex_iald dX7_read_329 (by decide) rfl b23 ?_
      exact ex_iret dX7_read_330 rfl rfl rfl h
    · replace h := h.2 c_310
      refine ex_aload_n dX7_read_313 rfl ?_
      refine ex_iload_n dX7_read_314 rfl ?_
      refine ex_invV (k := 46) (ci := 7) (as := [.int l2]) (L2 := [.ref 46, .int l2, .null, .null]) (st := []) 0 0 dX7_read_315 lk_X7_205 sl_X7_take (rmK_of rfl) (by decide) rfl ⟨by decide, rfl⟩ rfl (Nat.le_of_ble_eq_true rfl) (Nat.le_of_ble_eq_true rfl) (t_X7_take   l2 M _ h) (fun v24 M25 h => ?_)
      show Ex true mX7_read 78 78 0 0 318 [.ref 46, .int l1, .int l2] [] M25 Q
      refine ex_iinc (v := l2 + 1) (L2 := [.ref 46, .int l1, .int (l2 + 1)]) dX7_read_318 rfl rfl (by decide) rfl rfl ?_
      obtain ⟨x26, ex26⟩ : ∃ x26 : Int32, x26 = l2 + 1 := ⟨_, rfl⟩
      rw [← ex26]
      replace h := h x26 ex26
      refine ex_goto (tgt := 303) dX7_read_321 (by decide) ?_
      exact hB303 l1 x26 M25 h
def wb_X7_read_259 (Q : Int32 → Mem → Prop) (B259 : Int32 → Int32 → Mem → Prop) (l1 : Int32) (l2 : Int32) (M : Mem) : Prop := ((60 ≤ l2) → (∃ k, w_X7_read_303  Q  k l1 0 M)) ∧ (¬ (60 ≤ l2) → ((vp_in (60 + l2) 120) ∧ ((vp_in l2 120) ∧ (∀ M29 : Mem, M29 = (mset M 56 (Int32.toNatClampNeg l2) (M 56 (Int32.toNatClampNeg (60 + l2)))) → (vp_in (60 + l2) 120) ∧ ((vp_in l2 120) ∧ (∀ M32 : Mem, M32 = (mset M29 57 (Int32.toNatClampNeg l2) (M29 57 (Int32.toNatClampNeg (60 + l2)))) → ∀ x33 : Int32, x33 = l2 + 1 → B259 l1 x33 M32))))))
def w_X7_read_259 (Q : Int32 → Mem → Prop) : Nat → Int32 → Int32 → Mem → Prop
  | 0 => fun _ _ _ => False
  | k + 1 => wb_X7_read_259  Q  (w_X7_read_259  Q  k)
theorem t_X7_read_259 (Q : Int32 → Mem → Prop) : ∀ (k : Nat) (l1 : Int32) (l2 : Int32) (M : Mem), w_X7_read_259  Q  k l1 l2 M → Ex true mX7_read 78 78 0 0 259 [.ref 46, .int l1, .int l2] [] M Q := by
  intro k
  induction k with
  | zero => intro l1 l2 M h; exact False.elim h
  | succ k hB259 =>
    intro l1 l2 M h
    replace h : wb_X7_read_259  Q  (w_X7_read_259  Q  k) l1 l2 M := h
    generalize w_X7_read_259  Q  k = B259 at hB259 h
    unfold wb_X7_read_259 at h
    refine ex_iload_n dX7_read_259 rfl ?_
    refine ex_bipush (v := 60) dX7_read_260 (by decide) ?_
    refine ex_icmp_ge (tgt := 301) dX7_read_262 (by decide) (fun c_262 => ?_) (fun c_262 => ?_)
    · replace h := h.1 c_262
      refine ex_iconst (v := 0) dX7_read_301 (by decide) ?_
      refine ex_istore_n (L2 := [.ref 46, .int l1, .int 0]) dX7_read_302 (by decide) rfl rfl ?_
      obtain ⟨k_, h⟩ := h
      exact t_X7_read_303   Q   k_ l1 0 M h
    · replace h := h.2 c_262
      refine ex_aload_n dX7_read_265 rfl ?_
      refine ex_getR (ci := 7) (j := 11) (v := 56) dX7_read_266 (by decide) rfl rfl lk_X7_41 rfl (by decide) ?_
      refine ex_iload_n dX7_read_269 rfl ?_
      refine ex_aload_n dX7_read_270 rfl ?_
      refine ex_getR (ci := 7) (j := 11) (v := 56) dX7_read_271 (by decide) rfl rfl lk_X7_41 rfl (by decide) ?_
      refine ex_bipush (v := 60) dX7_read_274 (by decide) ?_
      refine ex_iload_n dX7_read_276 rfl ?_
      refine ex_iadd dX7_read_277 ?_
      obtain ⟨b27, h⟩ := h
      refine ex_iald dX7_read_278 (by decide) rfl b27 ?_
      obtain ⟨b28, h⟩ := h
      refine ex_iast dX7_read_279 (by decide) rfl b28 ?_
      refine ex_nmM (fun M29 eM29 => ?_)
      replace h := h M29 eM29
      refine ex_aload_n dX7_read_280 rfl ?_
      refine ex_getR (ci := 7) (j := 12) (v := 57) dX7_read_281 (by decide) rfl rfl lk_X7_44 rfl (by decide) ?_
      refine ex_iload_n dX7_read_284 rfl ?_
      refine ex_aload_n dX7_read_285 rfl ?_
      refine ex_getR (ci := 7) (j := 12) (v := 57) dX7_read_286 (by decide) rfl rfl lk_X7_44 rfl (by decide) ?_
      refine ex_bipush (v := 60) dX7_read_289 (by decide) ?_
      refine ex_iload_n dX7_read_291 rfl ?_
      refine ex_iadd dX7_read_292 ?_
      obtain ⟨b30, h⟩ := h
      refine ex_iald dX7_read_293 (by decide) rfl b30 ?_
      obtain ⟨b31, h⟩ := h
      refine ex_iast dX7_read_294 (by decide) rfl b31 ?_
      refine ex_nmM (fun M32 eM32 => ?_)
      replace h := h M32 eM32
      refine ex_iinc (v := l2 + 1) (L2 := [.ref 46, .int l1, .int (l2 + 1)]) dX7_read_295 rfl rfl (by decide) rfl rfl ?_
      obtain ⟨x33, ex33⟩ : ∃ x33 : Int32, x33 = l2 + 1 := ⟨_, rfl⟩
      rw [← ex33]
      replace h := h x33 ex33
      refine ex_goto (tgt := 259) dX7_read_298 (by decide) ?_
      exact hB259 l1 x33 M32 h
def w_X7_read_206 (Q : Int32 → Mem → Prop) (l1 : Int32) (M : Mem) : Prop := (((M 46 25) < 0) → ((vp_in 1 2) ∧ ((vp_in 0 2) ∧ (∀ M15 : Mem, M15 = (mset M 53 (Int32.toNatClampNeg 0) (M 53 (Int32.toNatClampNeg 1))) → (vp_in 1 2) ∧ ((vp_in 0 2) ∧ (∀ M18 : Mem, M18 = (mset M15 54 (Int32.toNatClampNeg 0) (M15 54 (Int32.toNatClampNeg 1))) → (vp_in 1 2) ∧ ((vp_in 0 2) ∧ (∀ M21 : Mem, M21 = (mset M18 55 (Int32.toNatClampNeg 0) (M18 55 (Int32.toNatClampNeg 1))) → ∃ k, w_X7_read_259  Q  k l1 0 M21)))))))) ∧ (¬ ((M 46 25) < 0) → (Q ((-10) - (M 46 25)) M))
theorem t_X7_read_206 (Q : Int32 → Mem → Prop) (l1 : Int32) (M : Mem) (h : w_X7_read_206  Q  l1 M) : Ex true mX7_read 78 78 0 0 206 [.ref 46, .int l1, .null] [] M Q := by
  unfold w_X7_read_206 at h
  refine ex_aload_n dX7_read_206 rfl ?_
  refine ex_getI (ci := 7) (j := 25) dX7_read_207 (by decide) rfl rfl lk_X7_120 ?_
  refine ex_if_lt (tgt := 221) dX7_read_210 (by decide) (fun c_210 => ?_) (fun c_210 => ?_)
  · replace h := h.1 c_210
    refine ex_aload_n dX7_read_221 rfl ?_
    refine ex_getR (ci := 7) (j := 8) (v := 53) dX7_read_222 (by decide) rfl rfl lk_X7_32 rfl (by decide) ?_
    refine ex_iconst (v := 0) dX7_read_225 (by decide) ?_
    refine ex_aload_n dX7_read_226 rfl ?_
    refine ex_getR (ci := 7) (j := 8) (v := 53) dX7_read_227 (by decide) rfl rfl lk_X7_32 rfl (by decide) ?_
    refine ex_iconst (v := 1) dX7_read_230 (by decide) ?_
    obtain ⟨b13, h⟩ := h
    refine ex_iald dX7_read_231 (by decide) rfl b13 ?_
    obtain ⟨b14, h⟩ := h
    refine ex_iast dX7_read_232 (by decide) rfl b14 ?_
    refine ex_nmM (fun M15 eM15 => ?_)
    replace h := h M15 eM15
    refine ex_aload_n dX7_read_233 rfl ?_
    refine ex_getR (ci := 7) (j := 9) (v := 54) dX7_read_234 (by decide) rfl rfl lk_X7_35 rfl (by decide) ?_
    refine ex_iconst (v := 0) dX7_read_237 (by decide) ?_
    refine ex_aload_n dX7_read_238 rfl ?_
    refine ex_getR (ci := 7) (j := 9) (v := 54) dX7_read_239 (by decide) rfl rfl lk_X7_35 rfl (by decide) ?_
    refine ex_iconst (v := 1) dX7_read_242 (by decide) ?_
    obtain ⟨b16, h⟩ := h
    refine ex_iald dX7_read_243 (by decide) rfl b16 ?_
    obtain ⟨b17, h⟩ := h
    refine ex_iast dX7_read_244 (by decide) rfl b17 ?_
    refine ex_nmM (fun M18 eM18 => ?_)
    replace h := h M18 eM18
    refine ex_aload_n dX7_read_245 rfl ?_
    refine ex_getR (ci := 7) (j := 10) (v := 55) dX7_read_246 (by decide) rfl rfl lk_X7_38 rfl (by decide) ?_
    refine ex_iconst (v := 0) dX7_read_249 (by decide) ?_
    refine ex_aload_n dX7_read_250 rfl ?_
    refine ex_getR (ci := 7) (j := 10) (v := 55) dX7_read_251 (by decide) rfl rfl lk_X7_38 rfl (by decide) ?_
    refine ex_iconst (v := 1) dX7_read_254 (by decide) ?_
    obtain ⟨b19, h⟩ := h
    refine ex_iald dX7_read_255 (by decide) rfl b19 ?_
    obtain ⟨b20, h⟩ := h
    refine ex_iast dX7_read_256 (by decide) rfl b20 ?_
    refine ex_nmM (fun M21 eM21 => ?_)
    replace h := h M21 eM21
    refine ex_iconst (v := 0) dX7_read_257 (by decide) ?_
    refine ex_istore_n (L2 := [.ref 46, .int l1, .int 0]) dX7_read_258 (by decide) rfl rfl ?_
    obtain ⟨k_, h⟩ := h
    exact t_X7_read_259   Q   k_ l1 0 M21 h
  · replace h := h.2 c_210
    refine ex_bipush (v := (-10)) dX7_read_213 (by decide) ?_
    refine ex_aload_n dX7_read_215 rfl ?_
    refine ex_getI (ci := 7) (j := 25) dX7_read_216 (by decide) rfl rfl lk_X7_120 ?_
    refine ex_isub dX7_read_219 ?_
    exact ex_iret dX7_read_220 rfl rfl rfl h
def wb_X7_read_99 (Q : Int32 → Mem → Prop) (B99 : Int32 → Mem → Prop) (l1 : Int32) (M : Mem) : Prop := ((l1 = 0) → (w_X7_read_206  Q  l1 M)) ∧ (¬ (l1 = 0) → (((0 ≤ (M 46 25)) → (w_X7_read_206  Q  l1 M)) ∧ (¬ (0 ≤ (M 46 25)) → (w_X7_readBar M (fun v34 M35 => w_X7_peek (M35 46 24) M35 (fun v36 M37 => ∀ z38 : Int32, z38 = (if 0 ≤ (M37 46 25) then 0 else (if v36 = 0 then 1 else (if v36 = 64 then 1 else 0))) → ((z38 = 0) → ((¬ (v36 = (-1)) → (w_X7_fail (M37 46 24) M37 (fun v39 M40 => B99 z38 M40))) ∧ ((v36 = (-1)) → ((((M37 46 26) = 0) → (B99 z38 M37)) ∧ (¬ ((M37 46 26) = 0) → (w_X7_fail (M37 46 24) M37 (fun v41 M42 => B99 z38 M42))))))) ∧ (¬ (z38 = 0) → (∀ z43 : Int32, z43 = (if v36 = 64 then 1 else 0) → (((M37 46 27) ||| z43) = 0 ∨ ((M37 46 27) ||| z43) = 1) ∧ (∀ M45 : Mem, M45 = (mset M37 46 27 ((M37 46 27) ||| z43)) → ∀ M46 : Mem, M46 = (mset M45 46 24 ((M45 46 24) + 1)) → B99 z38 M46)))))))))
def w_X7_read_99 (Q : Int32 → Mem → Prop) : Nat → Int32 → Mem → Prop
  | 0 => fun _ _ => False
  | k + 1 => wb_X7_read_99  Q  (w_X7_read_99  Q  k)
theorem t_X7_read_99 (Q : Int32 → Mem → Prop) : ∀ (k : Nat) (l1 : Int32) (M : Mem), w_X7_read_99  Q  k l1 M → Ex true mX7_read 78 78 0 0 99 [.ref 46, .int l1, .null] [] M Q := by
  intro k
  induction k with
  | zero => intro l1 M h; exact False.elim h
  | succ k hB99 =>
    intro l1 M h
    replace h : wb_X7_read_99  Q  (w_X7_read_99  Q  k) l1 M := h
    generalize w_X7_read_99  Q  k = B99 at hB99 h
    unfold wb_X7_read_99 at h
    refine ex_iload_n dX7_read_99 rfl ?_
    refine ex_if_eq (tgt := 206) dX7_read_100 (by decide) (fun c_100 => ?_) (fun c_100 => ?_)
    · replace h := h.1 c_100
      exact t_X7_read_206   Q   l1 M h
    · replace h := h.2 c_100
      refine ex_aload_n dX7_read_103 rfl ?_
      refine ex_getI (ci := 7) (j := 25) dX7_read_104 (by decide) rfl rfl lk_X7_120 ?_
      refine ex_if_ge (tgt := 206) dX7_read_107 (by decide) (fun c_107 => ?_) (fun c_107 => ?_)
      · replace h := h.1 c_107
        exact t_X7_read_206   Q   l1 M h
      · replace h := h.2 c_107
        refine ex_aload_n dX7_read_110 rfl ?_
        refine ex_invV (k := 46) (ci := 7) (as := []) (L2 := [.ref 46, .null, .null, .null]) (st := []) 0 0 dX7_read_111 lk_X7_202 sl_X7_readBar (rmK_of rfl) (by decide) rfl ⟨by decide, rfl⟩ rfl (Nat.le_of_ble_eq_true rfl) (Nat.le_of_ble_eq_true rfl) (t_X7_readBar   M _ h) (fun v34 M35 h => ?_)
        show Ex true mX7_read 78 78 0 0 114 [.ref 46, .int l1, .null] [] M35 Q
        refine ex_aload_n dX7_read_114 rfl ?_
        refine ex_aload_n dX7_read_115 rfl ?_
        refine ex_getI (ci := 7) (j := 24) dX7_read_116 (by decide) rfl rfl lk_X7_130 ?_
        refine ex_invV (k := 46) (ci := 7) (as := [.int (M35 46 24)]) (L2 := [.ref 46, .int (M35 46 24)]) (st := []) 0 0 dX7_read_119 lk_X7_133 sl_X7_peek (rmK_of rfl) (by decide) rfl ⟨by decide, rfl⟩ rfl (Nat.le_of_ble_eq_true rfl) (Nat.le_of_ble_eq_true rfl) (t_X7_peek   (M35 46 24) M35 _ h) (fun v36 M37 h => ?_)
        show Ex true mX7_read 78 78 0 0 122 [.ref 46, .int l1, .null] [.int v36] M37 Q
        refine ex_istore_n (L2 := [.ref 46, .int l1, .int v36]) dX7_read_122 (by decide) rfl rfl ?_
        refine ex_aload_n dX7_read_123 rfl ?_
        refine ex_getI (ci := 7) (j := 25) dX7_read_124 (by decide) rfl rfl lk_X7_120 ?_
        have hJ48 : ∀ z38 : Int32, z38 = (if 0 ≤ (M37 46 25) then 0 else (if v36 = 0 then 1 else (if v36 = 64 then 1 else 0))) → Ex true mX7_read 78 78 0 0 145 [.ref 46, .int l1, .int v36] [.int z38] M37 Q := by
          intro z38 ez38
          replace h := h z38 ez38
          refine ex_istore_n (L2 := [.ref 46, .int z38, .int v36]) dX7_read_145 (by decide) rfl rfl ?_
          refine ex_iload_n dX7_read_146 rfl ?_
          refine ex_if_eq (tgt := 183) dX7_read_147 (by decide) (fun c_147 => ?_) (fun c_147 => ?_)
          · replace h := h.1 c_147
            refine ex_iload_n dX7_read_183 rfl ?_
            refine ex_iconst (v := (-1)) dX7_read_184 (by decide) ?_
            refine ex_icmp_ne (tgt := 195) dX7_read_185 (by decide) (fun c_185 => ?_) (fun c_185 => ?_)
            · replace h := h.1 c_185
              refine ex_aload_n dX7_read_195 rfl ?_
              refine ex_aload_n dX7_read_196 rfl ?_
              refine ex_getI (ci := 7) (j := 24) dX7_read_197 (by decide) rfl rfl lk_X7_130 ?_
              refine ex_invV (k := 46) (ci := 7) (as := [.int (M37 46 24)]) (L2 := [.ref 46, .int (M37 46 24)]) (st := []) 0 0 dX7_read_200 lk_X7_146 sl_X7_fail (rmK_of rfl) (by decide) rfl ⟨by decide, rfl⟩ rfl (Nat.le_of_ble_eq_true rfl) (Nat.le_of_ble_eq_true rfl) (t_X7_fail   (M37 46 24) M37 _ h) (fun v39 M40 h => ?_)
              show Ex true mX7_read 78 78 0 0 203 [.ref 46, .int z38, .int v36] [] M40 Q
              refine ex_goto (tgt := 99) dX7_read_203 (by decide) ?_
              refine ex_less (L2 := [.ref 46, .int z38, .null]) ?_ (by intro i v hi hn; match i, hi with | 0, hi => exact hi | 1, hi => exact hi | 2, hi => (cases hi; cases hn) | k + 3, hi => (exact absurd hi (by simp)))
              exact hB99 z38 M40 h
            · replace h := h.2 c_185
              refine ex_aload_n dX7_read_188 rfl ?_
              refine ex_getI (ci := 7) (j := 26) dX7_read_189 (by decide) rfl rfl lk_X7_153 ?_
              refine ex_if_eq (tgt := 203) dX7_read_192 (by decide) (fun c_192 => ?_) (fun c_192 => ?_)
              · replace h := h.1 c_192
                refine ex_goto (tgt := 99) dX7_read_203 (by decide) ?_
                refine ex_less (L2 := [.ref 46, .int z38, .null]) ?_ (by intro i v hi hn; match i, hi with | 0, hi => exact hi | 1, hi => exact hi | 2, hi => (cases hi; cases hn) | k + 3, hi => (exact absurd hi (by simp)))
                exact hB99 z38 M37 h
              · replace h := h.2 c_192
                refine ex_aload_n dX7_read_195 rfl ?_
                refine ex_aload_n dX7_read_196 rfl ?_
                refine ex_getI (ci := 7) (j := 24) dX7_read_197 (by decide) rfl rfl lk_X7_130 ?_
                refine ex_invV (k := 46) (ci := 7) (as := [.int (M37 46 24)]) (L2 := [.ref 46, .int (M37 46 24)]) (st := []) 0 0 dX7_read_200 lk_X7_146 sl_X7_fail (rmK_of rfl) (by decide) rfl ⟨by decide, rfl⟩ rfl (Nat.le_of_ble_eq_true rfl) (Nat.le_of_ble_eq_true rfl) (t_X7_fail   (M37 46 24) M37 _ h) (fun v41 M42 h => ?_)
                show Ex true mX7_read 78 78 0 0 203 [.ref 46, .int z38, .int v36] [] M42 Q
                refine ex_goto (tgt := 99) dX7_read_203 (by decide) ?_
                refine ex_less (L2 := [.ref 46, .int z38, .null]) ?_ (by intro i v hi hn; match i, hi with | 0, hi => exact hi | 1, hi => exact hi | 2, hi => (cases hi; cases hn) | k + 3, hi => (exact absurd hi (by simp)))
                exact hB99 z38 M42 h
          · replace h := h.2 c_147
            refine ex_aload_n dX7_read_150 rfl ?_
            refine ex_dup dX7_read_151 rfl ?_
            refine ex_getI (ci := 7) (j := 27) dX7_read_152 (by decide) rfl rfl lk_X7_157 ?_
            refine ex_iload_n dX7_read_155 rfl ?_
            refine ex_bipush (v := 64) dX7_read_156 (by decide) ?_
            have hJ47 : ∀ z43 : Int32, z43 = (if v36 = 64 then 1 else 0) → Ex true mX7_read 78 78 0 0 166 [.ref 46, .int z38, .int v36] [.int z43, .int (M37 46 27), .ref 46] M37 Q := by
              intro z43 ez43
              replace h := h z43 ez43
              refine ex_ior dX7_read_166 ?_
              obtain ⟨b44, h⟩ := h
              refine ex_putI (ci := 7) (j := 27) dX7_read_167 (by decide) rfl rfl lk_X7_157 (nf01 b44) ?_
              refine ex_nmM (fun M45 eM45 => ?_)
              replace h := h M45 eM45
              refine ex_aload_n dX7_read_170 rfl ?_
              refine ex_dup dX7_read_171 rfl ?_
              refine ex_getI (ci := 7) (j := 24) dX7_read_172 (by decide) rfl rfl lk_X7_130 ?_
              refine ex_iconst (v := 1) dX7_read_175 (by decide) ?_
              refine ex_iadd dX7_read_176 ?_
              refine ex_putI (ci := 7) (j := 24) dX7_read_177 (by decide) rfl rfl lk_X7_130 ⟨rfl, rfl⟩ ?_
              refine ex_nmM (fun M46 eM46 => ?_)
              replace h := h M46 eM46
              refine ex_goto (tgt := 203) dX7_read_180 (by decide) ?_
              refine ex_goto (tgt := 99) dX7_read_203 (by decide) ?_
              refine ex_less (L2 := [.ref 46, .int z38, .null]) ?_ (by intro i v hi hn; match i, hi with | 0, hi => exact hi | 1, hi => exact hi | 2, hi => (cases hi; cases hn) | k + 3, hi => (exact absurd hi (by simp)))
              exact hB99 z38 M46 h
            refine ex_icmp_ne (tgt := 165) dX7_read_158 (by decide) (fun c_158 => ?_) (fun c_158 => ?_)
            ·
              refine ex_iconst (v := 0) dX7_read_165 (by decide) ?_
              exact hJ47 _ (by rw [if_neg c_158])
            ·
              refine ex_iconst (v := 1) dX7_read_161 (by decide) ?_
              refine ex_goto (tgt := 166) dX7_read_162 (by decide) ?_
              exact hJ47 _ (by rw [if_pos c_158])
        refine ex_if_ge (tgt := 144) dX7_read_127 (by decide) (fun c_127 => ?_) (fun c_127 => ?_)
        ·
          refine ex_iconst (v := 0) dX7_read_144 (by decide) ?_
          exact hJ48 _ (by rw [if_pos c_127])
        ·
          refine ex_iload_n dX7_read_130 rfl ?_
          refine ex_if_eq (tgt := 140) dX7_read_131 (by decide) (fun c_131 => ?_) (fun c_131 => ?_)
          ·
            refine ex_iconst (v := 1) dX7_read_140 (by decide) ?_
            refine ex_goto (tgt := 145) dX7_read_141 (by decide) ?_
            exact hJ48 _ (by rw [if_neg c_127, if_pos c_131])
          ·
            refine ex_iload_n dX7_read_134 rfl ?_
            refine ex_bipush (v := 64) dX7_read_135 (by decide) ?_
            refine ex_icmp_ne (tgt := 144) dX7_read_137 (by decide) (fun c_137 => ?_) (fun c_137 => ?_)
            ·
              refine ex_iconst (v := 0) dX7_read_144 (by decide) ?_
              exact hJ48 _ (by rw [if_neg c_127, if_neg c_131, if_neg c_137])
            ·
              refine ex_iconst (v := 1) dX7_read_140 (by decide) ?_
              refine ex_goto (tgt := 145) dX7_read_141 (by decide) ?_
              exact hJ48 _ (by rw [if_neg c_127, if_neg c_131, if_pos c_137])
def w_X7_read_71 (Q : Int32 → Mem → Prop) (M : Mem) : Prop := w_X7_peek 0 M (fun v51 M52 => ∀ z53 : Int32, z53 = (if v51 = 40 then 1 else 2) → (vp_in 1 2) ∧ (∀ M55 : Mem, M55 = (mset M52 55 (Int32.toNatClampNeg 1) z53) → ∀ M56 : Mem, M56 = (mset M55 46 24 2) → ∃ k, w_X7_read_99  Q  k 1 M56))
theorem t_X7_read_71 (Q : Int32 → Mem → Prop) (M : Mem) (h : w_X7_read_71  Q   M) : Ex true mX7_read 78 78 0 0 71 [.ref 46, .null, .null] [] M Q := by
  unfold w_X7_read_71 at h
  refine ex_aload_n dX7_read_71 rfl ?_
  refine ex_getR (ci := 7) (j := 10) (v := 55) dX7_read_72 (by decide) rfl rfl lk_X7_38 rfl (by decide) ?_
  refine ex_iconst (v := 1) dX7_read_75 (by decide) ?_
  refine ex_aload_n dX7_read_76 rfl ?_
  refine ex_iconst (v := 0) dX7_read_77 (by decide) ?_
  refine ex_invV (k := 46) (ci := 7) (as := [.int 0]) (L2 := [.ref 46, .int 0]) (st := [.int 1, .ref 55]) 0 0 dX7_read_78 lk_X7_133 sl_X7_peek (rmK_of rfl) (by decide) rfl ⟨by decide, rfl⟩ rfl (Nat.le_of_ble_eq_true rfl) (Nat.le_of_ble_eq_true rfl) (t_X7_peek   0 M _ h) (fun v51 M52 h => ?_)
  show Ex true mX7_read 78 78 0 0 81 [.ref 46, .null, .null] [.int v51, .int 1, .ref 55] M52 Q
  refine ex_bipush (v := 40) dX7_read_81 (by decide) ?_
  have hJ57 : ∀ z53 : Int32, z53 = (if v51 = 40 then 1 else 2) → Ex true mX7_read 78 78 0 0 91 [.ref 46, .null, .null] [.int z53, .int 1, .ref 55] M52 Q := by
    intro z53 ez53
    replace h := h z53 ez53
    obtain ⟨b54, h⟩ := h
    refine ex_iast dX7_read_91 (by decide) rfl b54 ?_
    refine ex_nmM (fun M55 eM55 => ?_)
    replace h := h M55 eM55
    refine ex_aload_n dX7_read_92 rfl ?_
    refine ex_iconst (v := 2) dX7_read_93 (by decide) ?_
    refine ex_putI (ci := 7) (j := 24) dX7_read_94 (by decide) rfl rfl lk_X7_130 ⟨rfl, rfl⟩ ?_
    refine ex_nmM (fun M56 eM56 => ?_)
    replace h := h M56 eM56
    refine ex_iconst (v := 1) dX7_read_97 (by decide) ?_
    refine ex_istore_n (L2 := [.ref 46, .int 1, .null]) dX7_read_98 (by decide) rfl rfl ?_
    obtain ⟨k_, h⟩ := h
    exact t_X7_read_99   Q   k_ 1 M56 h
  refine ex_icmp_ne (tgt := 90) dX7_read_83 (by decide) (fun c_83 => ?_) (fun c_83 => ?_)
  ·
    refine ex_iconst (v := 2) dX7_read_90 (by decide) ?_
    exact hJ57 _ (by rw [if_neg c_83])
  ·
    refine ex_iconst (v := 1) dX7_read_86 (by decide) ?_
    refine ex_goto (tgt := 91) dX7_read_87 (by decide) ?_
    exact hJ57 _ (by rw [if_pos c_83])
def w_X7_read (M : Mem) (Q : Int32 → Mem → Prop) : Prop := ∀ M1 : Mem, M1 = (mset M 46 24 0) → ∀ M2 : Mem, M2 = (mset M1 46 25 (-1)) → ∀ M3 : Mem, M3 = (mset M2 46 26 0) → ∀ M4 : Mem, M4 = (mset M3 46 27 1) → (vp_in 1 2) ∧ (∀ M6 : Mem, M6 = (mset M4 53 (Int32.toNatClampNeg 1) 0) → (vp_in 1 2) ∧ (∀ M8 : Mem, M8 = (mset M6 54 (Int32.toNatClampNeg 1) 0) → (vp_in 1 2) ∧ (∀ M10 : Mem, M10 = (mset M8 55 (Int32.toNatClampNeg 1) 0) → w_X7_peek 1 M10 (fun v11 M12 => (¬ (v11 = 28) → (∃ k, w_X7_read_99  Q  k 1 M12)) ∧ ((v11 = 28) → (w_X7_peek 0 M12 (fun v49 M50 => ((v49 = 40) → (w_X7_read_71  Q   M50)) ∧ (¬ (v49 = 40) → (w_X7_peek 0 M50 (fun v58 M59 => (¬ (v58 = 56) → (∃ k, w_X7_read_99  Q  k 1 M59)) ∧ ((v58 = 56) → (w_X7_read_71  Q   M59))))))))))))
theorem t_X7_read (M : Mem) (Q : Int32 → Mem → Prop) (h : w_X7_read   M Q) : Ex true mX7_read 78 78 0 0 0 [.ref 46, .null, .null] [] M Q := by
  unfold w_X7_read at h
  refine ex_aload_n dX7_read_0 rfl ?_
  refine ex_iconst (v := 0) dX7_read_1 (by decide) ?_
  refine ex_putI (ci := 7) (j := 24) dX7_read_2 (by decide) rfl rfl lk_X7_130 ⟨rfl, rfl⟩ ?_
  refine ex_nmM (fun M1 eM1 => ?_)
  replace h := h M1 eM1
  refine ex_aload_n dX7_read_5 rfl ?_
  refine ex_iconst (v := (-1)) dX7_read_6 (by decide) ?_
  refine ex_putI (ci := 7) (j := 25) dX7_read_7 (by decide) rfl rfl lk_X7_120 ⟨rfl, rfl⟩ ?_
  refine ex_nmM (fun M2 eM2 => ?_)
  replace h := h M2 eM2
  refine ex_aload_n dX7_read_10 rfl ?_
  refine ex_iconst (v := 0) dX7_read_11 (by decide) ?_
  refine ex_putI (ci := 7) (j := 26) dX7_read_12 (by decide) rfl rfl lk_X7_153 ⟨rfl, rfl⟩ ?_
  refine ex_nmM (fun M3 eM3 => ?_)
  replace h := h M3 eM3
  refine ex_aload_n dX7_read_15 rfl ?_
  refine ex_iconst (v := 1) dX7_read_16 (by decide) ?_
  refine ex_putI (ci := 7) (j := 27) dX7_read_17 (by decide) rfl rfl lk_X7_157 ⟨rfl, rfl⟩ ?_
  refine ex_nmM (fun M4 eM4 => ?_)
  replace h := h M4 eM4
  refine ex_aload_n dX7_read_20 rfl ?_
  refine ex_getR (ci := 7) (j := 8) (v := 53) dX7_read_21 (by decide) rfl rfl lk_X7_32 rfl (by decide) ?_
  refine ex_iconst (v := 1) dX7_read_24 (by decide) ?_
  refine ex_iconst (v := 0) dX7_read_25 (by decide) ?_
  obtain ⟨b5, h⟩ := h
  refine ex_iast dX7_read_26 (by decide) rfl b5 ?_
  refine ex_nmM (fun M6 eM6 => ?_)
  replace h := h M6 eM6
  refine ex_aload_n dX7_read_27 rfl ?_
  refine ex_getR (ci := 7) (j := 9) (v := 54) dX7_read_28 (by decide) rfl rfl lk_X7_35 rfl (by decide) ?_
  refine ex_iconst (v := 1) dX7_read_31 (by decide) ?_
  refine ex_iconst (v := 0) dX7_read_32 (by decide) ?_
  obtain ⟨b7, h⟩ := h
  refine ex_iast dX7_read_33 (by decide) rfl b7 ?_
  refine ex_nmM (fun M8 eM8 => ?_)
  replace h := h M8 eM8
  refine ex_aload_n dX7_read_34 rfl ?_
  refine ex_getR (ci := 7) (j := 10) (v := 55) dX7_read_35 (by decide) rfl rfl lk_X7_38 rfl (by decide) ?_
  refine ex_iconst (v := 1) dX7_read_38 (by decide) ?_
  refine ex_iconst (v := 0) dX7_read_39 (by decide) ?_
  obtain ⟨b9, h⟩ := h
  refine ex_iast dX7_read_40 (by decide) rfl b9 ?_
  refine ex_nmM (fun M10 eM10 => ?_)
  replace h := h M10 eM10
  refine ex_aload_n dX7_read_41 rfl ?_
  refine ex_iconst (v := 1) dX7_read_42 (by decide) ?_
  refine ex_invV (k := 46) (ci := 7) (as := [.int 1]) (L2 := [.ref 46, .int 1]) (st := []) 0 0 dX7_read_43 lk_X7_133 sl_X7_peek (rmK_of rfl) (by decide) rfl ⟨by decide, rfl⟩ rfl (Nat.le_of_ble_eq_true rfl) (Nat.le_of_ble_eq_true rfl) (t_X7_peek   1 M10 _ h) (fun v11 M12 h => ?_)
  show Ex true mX7_read 78 78 0 0 46 [.ref 46, .null, .null] [.int v11] M12 Q
  refine ex_bipush (v := 28) dX7_read_46 (by decide) ?_
  refine ex_icmp_ne (tgt := 97) dX7_read_48 (by decide) (fun c_48 => ?_) (fun c_48 => ?_)
  · replace h := h.1 c_48
    refine ex_iconst (v := 1) dX7_read_97 (by decide) ?_
    refine ex_istore_n (L2 := [.ref 46, .int 1, .null]) dX7_read_98 (by decide) rfl rfl ?_
    obtain ⟨k_, h⟩ := h
    exact t_X7_read_99   Q   k_ 1 M12 h
  · replace h := h.2 c_48
    refine ex_aload_n dX7_read_51 rfl ?_
    refine ex_iconst (v := 0) dX7_read_52 (by decide) ?_
    refine ex_invV (k := 46) (ci := 7) (as := [.int 0]) (L2 := [.ref 46, .int 0]) (st := []) 0 0 dX7_read_53 lk_X7_133 sl_X7_peek (rmK_of rfl) (by decide) rfl ⟨by decide, rfl⟩ rfl (Nat.le_of_ble_eq_true rfl) (Nat.le_of_ble_eq_true rfl) (t_X7_peek   0 M12 _ h) (fun v49 M50 h => ?_)
    show Ex true mX7_read 78 78 0 0 56 [.ref 46, .null, .null] [.int v49] M50 Q
    refine ex_bipush (v := 40) dX7_read_56 (by decide) ?_
    refine ex_icmp_eq (tgt := 71) dX7_read_58 (by decide) (fun c_58 => ?_) (fun c_58 => ?_)
    · replace h := h.1 c_58
      exact t_X7_read_71   Q    M50 h
    · replace h := h.2 c_58
      refine ex_aload_n dX7_read_61 rfl ?_
      refine ex_iconst (v := 0) dX7_read_62 (by decide) ?_
      refine ex_invV (k := 46) (ci := 7) (as := [.int 0]) (L2 := [.ref 46, .int 0]) (st := []) 0 0 dX7_read_63 lk_X7_133 sl_X7_peek (rmK_of rfl) (by decide) rfl ⟨by decide, rfl⟩ rfl (Nat.le_of_ble_eq_true rfl) (Nat.le_of_ble_eq_true rfl) (t_X7_peek   0 M50 _ h) (fun v58 M59 h => ?_)
      show Ex true mX7_read 78 78 0 0 66 [.ref 46, .null, .null] [.int v58] M59 Q
      refine ex_bipush (v := 56) dX7_read_66 (by decide) ?_
      refine ex_icmp_ne (tgt := 97) dX7_read_68 (by decide) (fun c_68 => ?_) (fun c_68 => ?_)
      · replace h := h.1 c_68
        refine ex_iconst (v := 1) dX7_read_97 (by decide) ?_
        refine ex_istore_n (L2 := [.ref 46, .int 1, .null]) dX7_read_98 (by decide) rfl rfl ?_
        obtain ⟨k_, h⟩ := h
        exact t_X7_read_99   Q   k_ 1 M59 h
      · replace h := h.2 c_68
        exact t_X7_read_71   Q    M59 h
def w_X7_meter (p1 : Int32) (p2 : Int32) (M : Mem) (Q : Int32 → Mem → Prop) : Prop := ∀ z1 : Int32, z1 = (if p1 < 1 then 0 else (if 16 < p1 then 0 else (if p2 = 1 then 1 else (if p2 = 2 then 1 else (if p2 = 4 then 1 else (if p2 = 8 then 1 else (if p2 = 16 then 1 else 0))))))) → ((z1 = 0) → (Q (-2) M)) ∧ (¬ (z1 = 0) → ((¬ p2 = 0) ∧ (((((512 * p1) / p2) ≤ 2048) → ((vp_in 0 2) ∧ ((((M 53 (Int32.toNatClampNeg 0)) ≤ 0) → ((¬ p2 = 0) ∧ (∀ M5 : Mem, M5 = (mset M 46 7 ((512 * p1) / p2)) → Q (M5 46 7) M5))) ∧ (¬ ((M 53 (Int32.toNatClampNeg 0)) ≤ 0) → (Q (-3) M))))) ∧ (¬ (((512 * p1) / p2) ≤ 2048) → (Q (-2) M)))))
theorem t_X7_meter (p1 : Int32) (p2 : Int32) (M : Mem) (Q : Int32 → Mem → Prop) (h : w_X7_meter  p1 p2 M Q) : Ex true mX7_meter 78 78 0 0 0 [.ref 46, .int p1, .int p2, .null] [] M Q := by
  unfold w_X7_meter at h
  refine ex_iload_n dX7_meter_0 rfl ?_
  refine ex_iconst (v := 1) dX7_meter_1 (by decide) ?_
  have hJ6 : ∀ z1 : Int32, z1 = (if p1 < 1 then 0 else (if 16 < p1 then 0 else (if p2 = 1 then 1 else (if p2 = 2 then 1 else (if p2 = 4 then 1 else (if p2 = 8 then 1 else (if p2 = 16 then 1 else 0))))))) → Ex true mX7_meter 78 78 0 0 43 [.ref 46, .int p1, .int p2, .null] [.int z1] M Q := by
    intro z1 ez1
    replace h := h z1 ez1
    refine ex_istore_n (L2 := [.ref 46, .int p1, .int p2, .int z1]) dX7_meter_43 (by decide) rfl rfl ?_
    refine ex_iload_n dX7_meter_44 rfl ?_
    refine ex_if_eq (tgt := 61) dX7_meter_45 (by decide) (fun c_45 => ?_) (fun c_45 => ?_)
    · replace h := h.1 c_45
      refine ex_bipush (v := (-2)) dX7_meter_61 (by decide) ?_
      exact ex_iret dX7_meter_63 rfl rfl rfl h
    · replace h := h.2 c_45
      refine ex_sipush (v := 512) dX7_meter_48 (by decide) ?_
      refine ex_iload_n dX7_meter_51 rfl ?_
      refine ex_imul dX7_meter_52 ?_
      refine ex_iload_n dX7_meter_53 rfl ?_
      obtain ⟨d2, h⟩ := h
      refine ex_idiv dX7_meter_54 d2 ?_
      refine ex_sipush (v := 2048) dX7_meter_55 (by decide) ?_
      refine ex_icmp_le (tgt := 64) dX7_meter_58 (by decide) (fun c_58 => ?_) (fun c_58 => ?_)
      · replace h := h.1 c_58
        refine ex_aload_n dX7_meter_64 rfl ?_
        refine ex_getR (ci := 7) (j := 8) (v := 53) dX7_meter_65 (by decide) rfl rfl lk_X7_32 rfl (by decide) ?_
        refine ex_iconst (v := 0) dX7_meter_68 (by decide) ?_
        obtain ⟨b3, h⟩ := h
        refine ex_iald dX7_meter_69 (by decide) rfl b3 ?_
        refine ex_if_le (tgt := 76) dX7_meter_70 (by decide) (fun c_70 => ?_) (fun c_70 => ?_)
        · replace h := h.1 c_70
          refine ex_aload_n dX7_meter_76 rfl ?_
          refine ex_sipush (v := 512) dX7_meter_77 (by decide) ?_
          refine ex_iload_n dX7_meter_80 rfl ?_
          refine ex_imul dX7_meter_81 ?_
          refine ex_iload_n dX7_meter_82 rfl ?_
          obtain ⟨d4, h⟩ := h
          refine ex_idiv dX7_meter_83 d4 ?_
          refine ex_putI (ci := 7) (j := 7) dX7_meter_84 (by decide) rfl rfl lk_X7_28 ⟨rfl, rfl⟩ ?_
          refine ex_nmM (fun M5 eM5 => ?_)
          replace h := h M5 eM5
          refine ex_aload_n dX7_meter_87 rfl ?_
          refine ex_getI (ci := 7) (j := 7) dX7_meter_88 (by decide) rfl rfl lk_X7_28 ?_
          exact ex_iret dX7_meter_91 rfl rfl rfl h
        · replace h := h.2 c_70
          refine ex_bipush (v := (-3)) dX7_meter_73 (by decide) ?_
          exact ex_iret dX7_meter_75 rfl rfl rfl h
      · replace h := h.2 c_58
        refine ex_bipush (v := (-2)) dX7_meter_61 (by decide) ?_
        exact ex_iret dX7_meter_63 rfl rfl rfl h
  refine ex_icmp_lt (tgt := 42) dX7_meter_2 (by decide) (fun c_2 => ?_) (fun c_2 => ?_)
  ·
    refine ex_iconst (v := 0) dX7_meter_42 (by decide) ?_
    exact hJ6 _ (by rw [if_pos c_2])
  ·
    refine ex_iload_n dX7_meter_5 rfl ?_
    refine ex_bipush (v := 16) dX7_meter_6 (by decide) ?_
    refine ex_icmp_gt (tgt := 42) dX7_meter_8 (by decide) (fun c_8 => ?_) (fun c_8 => ?_)
    ·
      refine ex_iconst (v := 0) dX7_meter_42 (by decide) ?_
      exact hJ6 _ (by rw [if_neg c_2, if_pos c_8])
    ·
      refine ex_iload_n dX7_meter_11 rfl ?_
      refine ex_iconst (v := 1) dX7_meter_12 (by decide) ?_
      refine ex_icmp_eq (tgt := 38) dX7_meter_13 (by decide) (fun c_13 => ?_) (fun c_13 => ?_)
      ·
        refine ex_iconst (v := 1) dX7_meter_38 (by decide) ?_
        refine ex_goto (tgt := 43) dX7_meter_39 (by decide) ?_
        exact hJ6 _ (by rw [if_neg c_2, if_neg c_8, if_pos c_13])
      ·
        refine ex_iload_n dX7_meter_16 rfl ?_
        refine ex_iconst (v := 2) dX7_meter_17 (by decide) ?_
        refine ex_icmp_eq (tgt := 38) dX7_meter_18 (by decide) (fun c_18 => ?_) (fun c_18 => ?_)
        ·
          refine ex_iconst (v := 1) dX7_meter_38 (by decide) ?_
          refine ex_goto (tgt := 43) dX7_meter_39 (by decide) ?_
          exact hJ6 _ (by rw [if_neg c_2, if_neg c_8, if_neg c_13, if_pos c_18])
        ·
          refine ex_iload_n dX7_meter_21 rfl ?_
          refine ex_iconst (v := 4) dX7_meter_22 (by decide) ?_
          refine ex_icmp_eq (tgt := 38) dX7_meter_23 (by decide) (fun c_23 => ?_) (fun c_23 => ?_)
          ·
            refine ex_iconst (v := 1) dX7_meter_38 (by decide) ?_
            refine ex_goto (tgt := 43) dX7_meter_39 (by decide) ?_
            exact hJ6 _ (by rw [if_neg c_2, if_neg c_8, if_neg c_13, if_neg c_18, if_pos c_23])
          ·
            refine ex_iload_n dX7_meter_26 rfl ?_
            refine ex_bipush (v := 8) dX7_meter_27 (by decide) ?_
            refine ex_icmp_eq (tgt := 38) dX7_meter_29 (by decide) (fun c_29 => ?_) (fun c_29 => ?_)
            ·
              refine ex_iconst (v := 1) dX7_meter_38 (by decide) ?_
              refine ex_goto (tgt := 43) dX7_meter_39 (by decide) ?_
              exact hJ6 _ (by rw [if_neg c_2, if_neg c_8, if_neg c_13, if_neg c_18, if_neg c_23, if_pos c_29])
            ·
              refine ex_iload_n dX7_meter_32 rfl ?_
              refine ex_bipush (v := 16) dX7_meter_33 (by decide) ?_
              refine ex_icmp_ne (tgt := 42) dX7_meter_35 (by decide) (fun c_35 => ?_) (fun c_35 => ?_)
              ·
                refine ex_iconst (v := 0) dX7_meter_42 (by decide) ?_
                exact hJ6 _ (by rw [if_neg c_2, if_neg c_8, if_neg c_13, if_neg c_18, if_neg c_23, if_neg c_29, if_neg c_35])
              ·
                refine ex_iconst (v := 1) dX7_meter_38 (by decide) ?_
                refine ex_goto (tgt := 43) dX7_meter_39 (by decide) ?_
                exact hJ6 _ (by rw [if_neg c_2, if_neg c_8, if_neg c_13, if_neg c_18, if_neg c_23, if_neg c_29, if_pos c_35])
def wb_X7_hand_26 (Q : Int32 → Mem → Prop) (B14 : Int32 → Int32 → Mem → Prop) (B26 : Int32 → Int32 → Int32 → Mem → Prop) (l1 : Int32) (l2 : Int32) (l3 : Int32) (M : Mem) : Prop := (vp_in l2 1200) ∧ ((((M 67 (Int32.toNatClampNeg l2)) ≤ l3) → (∀ x7 : Int32, x7 = l2 + 1 → B14 l1 x7 M)) ∧ (¬ ((M 67 (Int32.toNatClampNeg l2)) ≤ l3) → ((vp_in ((4 * l2) + l3) 4800) ∧ (∀ x9 : Int32, x9 = (((M 68 (Int32.toNatClampNeg ((4 * l2) + l3))) - (M 68 (Int32.toNatClampNeg ((4 * l2) + l3))) / 16 * 16) - 1) → ((¬ (l1 = 2) → ((vp_in l2 1200) ∧ (True))) ∧ ((l1 = 2) → ((vp_in l2 1200) ∧ (True)))) ∧ (∀ z12 : Int32, z12 = (if l1 = 2 then ((M 60 (Int32.toNatClampNeg l2)) + x9) else ((M 60 (Int32.toNatClampNeg l2)) - x9)) → ((z12 < 7) → (Q (-3) M)) ∧ (¬ (z12 < 7) → (((z12 ≤ 55) → (∀ x13 : Int32, x13 = l3 + 1 → B26 l1 l2 x13 M)) ∧ (¬ (z12 ≤ 55) → (Q (-3) M)))))))))
def w_X7_hand_26 (Q : Int32 → Mem → Prop) (B14 : Int32 → Int32 → Mem → Prop) : Nat → Int32 → Int32 → Int32 → Mem → Prop
  | 0 => fun _ _ _ _ => False
  | k + 1 => wb_X7_hand_26  Q B14 (w_X7_hand_26  Q B14 k)
theorem t_X7_hand_26 (Q : Int32 → Mem → Prop) (B14 : Int32 → Int32 → Mem → Prop) (hB14 : ∀ (l1 : Int32) (l2 : Int32) (M : Mem), B14 l1 l2 M → Ex true mX7_hand 78 78 0 0 14 [.ref 46, .int l1, .int l2, .null, .null, .null] [] M Q) : ∀ (k : Nat) (l1 : Int32) (l2 : Int32) (l3 : Int32) (M : Mem), w_X7_hand_26  Q B14 k l1 l2 l3 M → Ex true mX7_hand 78 78 0 0 26 [.ref 46, .int l1, .int l2, .int l3, .null, .null] [] M Q := by
  intro k
  induction k with
  | zero => intro l1 l2 l3 M h; exact False.elim h
  | succ k hB26 =>
    intro l1 l2 l3 M h
    replace h : wb_X7_hand_26  Q B14 (w_X7_hand_26  Q B14 k) l1 l2 l3 M := h
    generalize w_X7_hand_26  Q B14 k = B26 at hB26 h
    unfold wb_X7_hand_26 at h
    refine ex_iload_n dX7_hand_26 rfl ?_
    refine ex_aload_n dX7_hand_27 rfl ?_
    refine ex_getR (ci := 7) (j := 22) (v := 67) dX7_hand_28 (by decide) rfl rfl lk_X7_74 rfl (by decide) ?_
    refine ex_iload_n dX7_hand_31 rfl ?_
    obtain ⟨b6, h⟩ := h
    refine ex_iald dX7_hand_32 (by decide) rfl b6 ?_
    refine ex_icmp_ge (tgt := 104) dX7_hand_33 (by decide) (fun c_33 => ?_) (fun c_33 => ?_)
    · replace h := h.1 c_33
      refine ex_iinc (v := l2 + 1) (L2 := [.ref 46, .int l1, .int (l2 + 1), .int l3, .null, .null]) dX7_hand_104 rfl rfl (by decide) rfl rfl ?_
      obtain ⟨x7, ex7⟩ : ∃ x7 : Int32, x7 = l2 + 1 := ⟨_, rfl⟩
      rw [← ex7]
      replace h := h x7 ex7
      refine ex_goto (tgt := 14) dX7_hand_107 (by decide) ?_
      refine ex_less (L2 := [.ref 46, .int l1, .int x7, .null, .null, .null]) ?_ (by intro i v hi hn; match i, hi with | 0, hi => exact hi | 1, hi => exact hi | 2, hi => exact hi | 3, hi => (cases hi; cases hn) | 4, hi => exact hi | 5, hi => exact hi | k + 6, hi => (exact absurd hi (by simp)))
      exact hB14 l1 x7 M h
    · replace h := h.2 c_33
      refine ex_aload_n dX7_hand_36 rfl ?_
      refine ex_getR (ci := 7) (j := 23) (v := 68) dX7_hand_37 (by decide) rfl rfl lk_X7_77 rfl (by decide) ?_
      refine ex_iconst (v := 4) dX7_hand_40 (by decide) ?_
      refine ex_iload_n dX7_hand_41 rfl ?_
      refine ex_imul dX7_hand_42 ?_
      refine ex_iload_n dX7_hand_43 rfl ?_
      refine ex_iadd dX7_hand_44 ?_
      obtain ⟨b8, h⟩ := h
      refine ex_iald dX7_hand_45 (by decide) rfl b8 ?_
      refine ex_bipush (v := 16) dX7_hand_46 (by decide) ?_
      refine ex_irem dX7_hand_48 (by decide) ?_
      refine ex_iconst (v := 1) dX7_hand_49 (by decide) ?_
      refine ex_isub dX7_hand_50 ?_
      refine ex_top (fun x9 ex9 => ?_)
      replace h := h x9 ex9
      refine ex_istore (L2 := [.ref 46, .int l1, .int l2, .int l3, .int x9, .null]) dX7_hand_51 (by decide) rfl rfl ?_
      refine ex_iload_n dX7_hand_53 rfl ?_
      refine ex_iconst (v := 2) dX7_hand_54 (by decide) ?_
      obtain ⟨khJ14, h⟩ := h
      have hJ14 : ∀ z12 : Int32, z12 = (if l1 = 2 then ((M 60 (Int32.toNatClampNeg l2)) + x9) else ((M 60 (Int32.toNatClampNeg l2)) - x9)) → Ex true mX7_hand 78 78 0 0 79 [.ref 46, .int l1, .int l2, .int l3, .int x9, .null] [.int z12] M Q := by
        intro z12 ez12
        replace h := h z12 ez12
        refine ex_istore (L2 := [.ref 46, .int l1, .int l2, .int l3, .int x9, .int z12]) dX7_hand_79 (by decide) rfl rfl ?_
        refine ex_iload dX7_hand_81 rfl ?_
        refine ex_bipush (v := 7) dX7_hand_83 (by decide) ?_
        refine ex_icmp_lt (tgt := 95) dX7_hand_85 (by decide) (fun c_85 => ?_) (fun c_85 => ?_)
        · replace h := h.1 c_85
          refine ex_bipush (v := (-3)) dX7_hand_95 (by decide) ?_
          exact ex_iret dX7_hand_97 rfl rfl rfl h
        · replace h := h.2 c_85
          refine ex_iload dX7_hand_88 rfl ?_
          refine ex_bipush (v := 55) dX7_hand_90 (by decide) ?_
          refine ex_icmp_le (tgt := 98) dX7_hand_92 (by decide) (fun c_92 => ?_) (fun c_92 => ?_)
          · replace h := h.1 c_92
            refine ex_iinc (v := l3 + 1) (L2 := [.ref 46, .int l1, .int l2, .int (l3 + 1), .int x9, .int z12]) dX7_hand_98 rfl rfl (by decide) rfl rfl ?_
            obtain ⟨x13, ex13⟩ : ∃ x13 : Int32, x13 = l3 + 1 := ⟨_, rfl⟩
            rw [← ex13]
            replace h := h x13 ex13
            refine ex_goto (tgt := 26) dX7_hand_101 (by decide) ?_
            refine ex_less (L2 := [.ref 46, .int l1, .int l2, .int x13, .null, .null]) ?_ (by intro i v hi hn; match i, hi with | 0, hi => exact hi | 1, hi => exact hi | 2, hi => exact hi | 3, hi => exact hi | 4, hi => (cases hi; cases hn) | 5, hi => (cases hi; cases hn) | k + 6, hi => (exact absurd hi (by simp)))
            exact hB26 l1 l2 x13 M h
          · replace h := h.2 c_92
            refine ex_bipush (v := (-3)) dX7_hand_95 (by decide) ?_
            exact ex_iret dX7_hand_97 rfl rfl rfl h
      refine ex_icmp_ne (tgt := 70) dX7_hand_55 (by decide) (fun c_55 => ?_) (fun c_55 => ?_)
      · replace h := khJ14.1 c_55
        refine ex_aload_n dX7_hand_70 rfl ?_
        refine ex_getR (ci := 7) (j := 15) (v := 60) dX7_hand_71 (by decide) rfl rfl lk_X7_53 rfl (by decide) ?_
        refine ex_iload_n dX7_hand_74 rfl ?_
        obtain ⟨b10, h⟩ := h
        refine ex_iald dX7_hand_75 (by decide) rfl b10 ?_
        refine ex_iload dX7_hand_76 rfl ?_
        refine ex_isub dX7_hand_78 ?_
        exact hJ14 _ (by rw [if_neg c_55])
      · replace h := khJ14.2 c_55
        refine ex_aload_n dX7_hand_58 rfl ?_
        refine ex_getR (ci := 7) (j := 15) (v := 60) dX7_hand_59 (by decide) rfl rfl lk_X7_53 rfl (by decide) ?_
        refine ex_iload_n dX7_hand_62 rfl ?_
        obtain ⟨b11, h⟩ := h
        refine ex_iald dX7_hand_63 (by decide) rfl b11 ?_
        refine ex_iload dX7_hand_64 rfl ?_
        refine ex_iadd dX7_hand_66 ?_
        refine ex_goto (tgt := 79) dX7_hand_67 (by decide) ?_
        exact hJ14 _ (by rw [if_pos c_55])
def wb_X7_hand_14 (Q : Int32 → Mem → Prop) (B14 : Int32 → Int32 → Mem → Prop) (l1 : Int32) (l2 : Int32) (M : Mem) : Prop := (vp_in 0 2) ∧ ((((M 54 (Int32.toNatClampNeg 0)) ≤ l2) → ((vp_in 0 2) ∧ (∀ x3 : Int32, x3 = (M 55 (Int32.toNatClampNeg 0)) → (vp_in 0 2) ∧ (∀ M5 : Mem, M5 = (mset M 55 (Int32.toNatClampNeg 0) l1) → Q x3 M5)))) ∧ (¬ ((M 54 (Int32.toNatClampNeg 0)) ≤ l2) → (∃ k, w_X7_hand_26  Q B14 k l1 l2 0 M)))
def w_X7_hand_14 (Q : Int32 → Mem → Prop) : Nat → Int32 → Int32 → Mem → Prop
  | 0 => fun _ _ _ => False
  | k + 1 => wb_X7_hand_14  Q  (w_X7_hand_14  Q  k)
theorem t_X7_hand_14 (Q : Int32 → Mem → Prop) : ∀ (k : Nat) (l1 : Int32) (l2 : Int32) (M : Mem), w_X7_hand_14  Q  k l1 l2 M → Ex true mX7_hand 78 78 0 0 14 [.ref 46, .int l1, .int l2, .null, .null, .null] [] M Q := by
  intro k
  induction k with
  | zero => intro l1 l2 M h; exact False.elim h
  | succ k hB14 =>
    intro l1 l2 M h
    replace h : wb_X7_hand_14  Q  (w_X7_hand_14  Q  k) l1 l2 M := h
    generalize w_X7_hand_14  Q  k = B14 at hB14 h
    unfold wb_X7_hand_14 at h
    refine ex_iload_n dX7_hand_14 rfl ?_
    refine ex_aload_n dX7_hand_15 rfl ?_
    refine ex_getR (ci := 7) (j := 9) (v := 54) dX7_hand_16 (by decide) rfl rfl lk_X7_35 rfl (by decide) ?_
    refine ex_iconst (v := 0) dX7_hand_19 (by decide) ?_
    obtain ⟨b1, h⟩ := h
    refine ex_iald dX7_hand_20 (by decide) rfl b1 ?_
    refine ex_icmp_ge (tgt := 110) dX7_hand_21 (by decide) (fun c_21 => ?_) (fun c_21 => ?_)
    · replace h := h.1 c_21
      refine ex_aload_n dX7_hand_110 rfl ?_
      refine ex_getR (ci := 7) (j := 10) (v := 55) dX7_hand_111 (by decide) rfl rfl lk_X7_38 rfl (by decide) ?_
      refine ex_iconst (v := 0) dX7_hand_114 (by decide) ?_
      obtain ⟨b2, h⟩ := h
      refine ex_iald dX7_hand_115 (by decide) rfl b2 ?_
      refine ex_top (fun x3 ex3 => ?_)
      replace h := h x3 ex3
      refine ex_istore_n (L2 := [.ref 46, .int l1, .int x3, .null, .null, .null]) dX7_hand_116 (by decide) rfl rfl ?_
      refine ex_aload_n dX7_hand_117 rfl ?_
      refine ex_getR (ci := 7) (j := 10) (v := 55) dX7_hand_118 (by decide) rfl rfl lk_X7_38 rfl (by decide) ?_
      refine ex_iconst (v := 0) dX7_hand_121 (by decide) ?_
      refine ex_iload_n dX7_hand_122 rfl ?_
      obtain ⟨b4, h⟩ := h
      refine ex_iast dX7_hand_123 (by decide) rfl b4 ?_
      refine ex_nmM (fun M5 eM5 => ?_)
      replace h := h M5 eM5
      refine ex_iload_n dX7_hand_124 rfl ?_
      exact ex_iret dX7_hand_125 rfl rfl rfl h
    · replace h := h.2 c_21
      refine ex_iconst (v := 0) dX7_hand_24 (by decide) ?_
      refine ex_istore_n (L2 := [.ref 46, .int l1, .int l2, .int 0, .null, .null]) dX7_hand_25 (by decide) rfl rfl ?_
      obtain ⟨k_, h⟩ := h
      exact t_X7_hand_26   Q B14 hB14 k_ l1 l2 0 M h
def w_X7_hand (p1 : Int32) (M : Mem) (Q : Int32 → Mem → Prop) : Prop := ((p1 < 0) → (Q (-2) M)) ∧ (¬ (p1 < 0) → (((p1 ≤ 2) → (∃ k, w_X7_hand_14  Q  k p1 0 M)) ∧ (¬ (p1 ≤ 2) → (Q (-2) M))))
theorem t_X7_hand (p1 : Int32) (M : Mem) (Q : Int32 → Mem → Prop) (h : w_X7_hand  p1 M Q) : Ex true mX7_hand 78 78 0 0 0 [.ref 46, .int p1, .null, .null, .null, .null] [] M Q := by
  unfold w_X7_hand at h
  refine ex_iload_n dX7_hand_0 rfl ?_
  refine ex_if_lt (tgt := 9) dX7_hand_1 (by decide) (fun c_1 => ?_) (fun c_1 => ?_)
  · replace h := h.1 c_1
    refine ex_bipush (v := (-2)) dX7_hand_9 (by decide) ?_
    exact ex_iret dX7_hand_11 rfl rfl rfl h
  · replace h := h.2 c_1
    refine ex_iload_n dX7_hand_4 rfl ?_
    refine ex_iconst (v := 2) dX7_hand_5 (by decide) ?_
    refine ex_icmp_le (tgt := 12) dX7_hand_6 (by decide) (fun c_6 => ?_) (fun c_6 => ?_)
    · replace h := h.1 c_6
      refine ex_iconst (v := 0) dX7_hand_12 (by decide) ?_
      refine ex_istore_n (L2 := [.ref 46, .int p1, .int 0, .null, .null, .null]) dX7_hand_13 (by decide) rfl rfl ?_
      obtain ⟨k_, h⟩ := h
      exact t_X7_hand_14   Q   k_ p1 0 M h
    · replace h := h.2 c_6
      refine ex_bipush (v := (-2)) dX7_hand_9 (by decide) ?_
      exact ex_iret dX7_hand_11 rfl rfl rfl h
def w_X7_lacks (M : Mem) (Q : Int32 → Mem → Prop) : Prop := (vp_in 0 2) ∧ (∀ x2 : Int32, x2 = ((M 53 (Int32.toNatClampNeg 0)) - 1) → ((x2 < 0) → (Q 0 M)) ∧ (¬ (x2 < 0) → ((vp_in x2 120) ∧ ((¬ ((M 56 (Int32.toNatClampNeg x2)) = 0) → (Q 0 M)) ∧ (((M 56 (Int32.toNatClampNeg x2)) = 0) → ((vp_in x2 120) ∧ (w_X7_voiceLasts 0 x2 ((M 57 (Int32.toNatClampNeg x2)) - 1) M (fun v5 M6 => ∀ z7 : Int32, z7 = (if v5 = (M6 46 7) then 0 else 1) → (z7 = 0 ∨ z7 = 1) ∧ (Q z7 M6)))))))))
theorem t_X7_lacks (M : Mem) (Q : Int32 → Mem → Prop) (h : w_X7_lacks   M Q) : Ex true mX7_lacks 78 78 0 0 0 [.ref 46, .null] [] M Q := by
  unfold w_X7_lacks at h
  refine ex_aload_n dX7_lacks_0 rfl ?_
  refine ex_getR (ci := 7) (j := 8) (v := 53) dX7_lacks_1 (by decide) rfl rfl lk_X7_32 rfl (by decide) ?_
  refine ex_iconst (v := 0) dX7_lacks_4 (by decide) ?_
  obtain ⟨b1, h⟩ := h
  refine ex_iald dX7_lacks_5 (by decide) rfl b1 ?_
  refine ex_iconst (v := 1) dX7_lacks_6 (by decide) ?_
  refine ex_isub dX7_lacks_7 ?_
  refine ex_top (fun x2 ex2 => ?_)
  replace h := h x2 ex2
  refine ex_istore_n (L2 := [.ref 46, .int x2]) dX7_lacks_8 (by decide) rfl rfl ?_
  refine ex_iload_n dX7_lacks_9 rfl ?_
  refine ex_if_lt (tgt := 47) dX7_lacks_10 (by decide) (fun c_10 => ?_) (fun c_10 => ?_)
  · replace h := h.1 c_10
    refine ex_iconst (v := 0) dX7_lacks_47 (by decide) ?_
    exact ex_iret dX7_lacks_48 rfl rfl rfl h
  · replace h := h.2 c_10
    refine ex_aload_n dX7_lacks_13 rfl ?_
    refine ex_getR (ci := 7) (j := 11) (v := 56) dX7_lacks_14 (by decide) rfl rfl lk_X7_41 rfl (by decide) ?_
    refine ex_iload_n dX7_lacks_17 rfl ?_
    obtain ⟨b3, h⟩ := h
    refine ex_iald dX7_lacks_18 (by decide) rfl b3 ?_
    refine ex_if_ne (tgt := 47) dX7_lacks_19 (by decide) (fun c_19 => ?_) (fun c_19 => ?_)
    · replace h := h.1 c_19
      refine ex_iconst (v := 0) dX7_lacks_47 (by decide) ?_
      exact ex_iret dX7_lacks_48 rfl rfl rfl h
    · replace h := h.2 c_19
      refine ex_aload_n dX7_lacks_22 rfl ?_
      refine ex_iconst (v := 0) dX7_lacks_23 (by decide) ?_
      refine ex_iload_n dX7_lacks_24 rfl ?_
      refine ex_aload_n dX7_lacks_25 rfl ?_
      refine ex_getR (ci := 7) (j := 12) (v := 57) dX7_lacks_26 (by decide) rfl rfl lk_X7_44 rfl (by decide) ?_
      refine ex_iload_n dX7_lacks_29 rfl ?_
      obtain ⟨b4, h⟩ := h
      refine ex_iald dX7_lacks_30 (by decide) rfl b4 ?_
      refine ex_iconst (v := 1) dX7_lacks_31 (by decide) ?_
      refine ex_isub dX7_lacks_32 ?_
      refine ex_invV (k := 46) (ci := 7) (as := [.int 0, .int x2, .int ((M 57 (Int32.toNatClampNeg x2)) - 1)]) (L2 := [.ref 46, .int 0, .int x2, .int ((M 57 (Int32.toNatClampNeg x2)) - 1), .null, .null]) (st := []) 0 0 dX7_lacks_33 lk_X7_208 sl_X7_voiceLasts (rmK_of rfl) (by decide) rfl ⟨by decide, rfl⟩ rfl (Nat.le_of_ble_eq_true rfl) (Nat.le_of_ble_eq_true rfl) (t_X7_voiceLasts   0 x2 ((M 57 (Int32.toNatClampNeg x2)) - 1) M _ h) (fun v5 M6 h => ?_)
      show Ex true mX7_lacks 78 78 0 0 36 [.ref 46, .int x2] [.int v5] M6 Q
      refine ex_aload_n dX7_lacks_36 rfl ?_
      refine ex_getI (ci := 7) (j := 7) dX7_lacks_37 (by decide) rfl rfl lk_X7_28 ?_
      have hJ9 : ∀ z7 : Int32, z7 = (if v5 = (M6 46 7) then 0 else 1) → Ex true mX7_lacks 78 78 0 0 48 [.ref 46, .int x2] [.int z7] M6 Q := by
        intro z7 ez7
        replace h := h z7 ez7
        obtain ⟨b8, h⟩ := h
        exact ex_iret dX7_lacks_48 rfl (nr01 b8) rfl h
      refine ex_icmp_eq (tgt := 47) dX7_lacks_40 (by decide) (fun c_40 => ?_) (fun c_40 => ?_)
      ·
        refine ex_iconst (v := 0) dX7_lacks_47 (by decide) ?_
        exact hJ9 _ (by rw [if_pos c_40])
      ·
        refine ex_iconst (v := 1) dX7_lacks_43 (by decide) ?_
        refine ex_goto (tgt := 48) dX7_lacks_44 (by decide) ?_
        exact hJ9 _ (by rw [if_neg c_40])
def w_X7_bar_23 (Q : Int32 → Mem → Prop) (l1 : Int32) (M : Mem) : Prop := (vp_in 0 2) ∧ ((¬ ((M 53 (Int32.toNatClampNeg 0)) = 60) → ((vp_in 0 2) ∧ (∀ z5 : Int32, z5 = (if l1 = 0 then 0 else 1) → (vp_in (M 53 (Int32.toNatClampNeg 0)) 120) ∧ (∀ M7 : Mem, M7 = (mset M 56 (Int32.toNatClampNeg (M 53 (Int32.toNatClampNeg 0))) z5) → (vp_in 0 2) ∧ (∀ z9 : Int32, z9 = (if l1 = 0 then 1 else 0) → (vp_in (M7 53 (Int32.toNatClampNeg 0)) 120) ∧ (∀ M11 : Mem, M11 = (mset M7 57 (Int32.toNatClampNeg (M7 53 (Int32.toNatClampNeg 0))) z9) → (vp_in 0 2) ∧ ((vp_in 0 2) ∧ (∀ M14 : Mem, M14 = (mset M11 53 (Int32.toNatClampNeg 0) ((M11 53 (Int32.toNatClampNeg 0)) + 1)) → (vp_in 0 2) ∧ (Q ((M14 53 (Int32.toNatClampNeg 0)) - 1) M14))))))))) ∧ (((M 53 (Int32.toNatClampNeg 0)) = 60) → (Q (-4) M)))
theorem t_X7_bar_23 (Q : Int32 → Mem → Prop) (l1 : Int32) (M : Mem) (h : w_X7_bar_23  Q  l1 M) : Ex true mX7_bar 78 78 0 0 23 [.ref 46, .int l1] [] M Q := by
  unfold w_X7_bar_23 at h
  refine ex_aload_n dX7_bar_23 rfl ?_
  refine ex_getR (ci := 7) (j := 8) (v := 53) dX7_bar_24 (by decide) rfl rfl lk_X7_32 rfl (by decide) ?_
  refine ex_iconst (v := 0) dX7_bar_27 (by decide) ?_
  obtain ⟨b3, h⟩ := h
  refine ex_iald dX7_bar_28 (by decide) rfl b3 ?_
  refine ex_bipush (v := 60) dX7_bar_29 (by decide) ?_
  refine ex_icmp_ne (tgt := 37) dX7_bar_31 (by decide) (fun c_31 => ?_) (fun c_31 => ?_)
  · replace h := h.1 c_31
    refine ex_aload_n dX7_bar_37 rfl ?_
    refine ex_getR (ci := 7) (j := 11) (v := 56) dX7_bar_38 (by decide) rfl rfl lk_X7_41 rfl (by decide) ?_
    refine ex_aload_n dX7_bar_41 rfl ?_
    refine ex_getR (ci := 7) (j := 8) (v := 53) dX7_bar_42 (by decide) rfl rfl lk_X7_32 rfl (by decide) ?_
    refine ex_iconst (v := 0) dX7_bar_45 (by decide) ?_
    obtain ⟨b4, h⟩ := h
    refine ex_iald dX7_bar_46 (by decide) rfl b4 ?_
    refine ex_iload_n dX7_bar_47 rfl ?_
    have hJ17 : ∀ z5 : Int32, z5 = (if l1 = 0 then 0 else 1) → Ex true mX7_bar 78 78 0 0 56 [.ref 46, .int l1] [.int z5, .int (M 53 (Int32.toNatClampNeg 0)), .ref 56] M Q := by
      intro z5 ez5
      replace h := h z5 ez5
      obtain ⟨b6, h⟩ := h
      refine ex_iast dX7_bar_56 (by decide) rfl b6 ?_
      refine ex_nmM (fun M7 eM7 => ?_)
      replace h := h M7 eM7
      refine ex_aload_n dX7_bar_57 rfl ?_
      refine ex_getR (ci := 7) (j := 12) (v := 57) dX7_bar_58 (by decide) rfl rfl lk_X7_44 rfl (by decide) ?_
      refine ex_aload_n dX7_bar_61 rfl ?_
      refine ex_getR (ci := 7) (j := 8) (v := 53) dX7_bar_62 (by decide) rfl rfl lk_X7_32 rfl (by decide) ?_
      refine ex_iconst (v := 0) dX7_bar_65 (by decide) ?_
      obtain ⟨b8, h⟩ := h
      refine ex_iald dX7_bar_66 (by decide) rfl b8 ?_
      refine ex_iload_n dX7_bar_67 rfl ?_
      have hJ16 : ∀ z9 : Int32, z9 = (if l1 = 0 then 1 else 0) → Ex true mX7_bar 78 78 0 0 76 [.ref 46, .int l1] [.int z9, .int (M7 53 (Int32.toNatClampNeg 0)), .ref 57] M7 Q := by
        intro z9 ez9
        replace h := h z9 ez9
        obtain ⟨b10, h⟩ := h
        refine ex_iast dX7_bar_76 (by decide) rfl b10 ?_
        refine ex_nmM (fun M11 eM11 => ?_)
        replace h := h M11 eM11
        refine ex_aload_n dX7_bar_77 rfl ?_
        refine ex_getR (ci := 7) (j := 8) (v := 53) dX7_bar_78 (by decide) rfl rfl lk_X7_32 rfl (by decide) ?_
        refine ex_iconst (v := 0) dX7_bar_81 (by decide) ?_
        refine ex_dup2 dX7_bar_82 rfl rfl ?_
        obtain ⟨b12, h⟩ := h
        refine ex_iald dX7_bar_83 (by decide) rfl b12 ?_
        refine ex_iconst (v := 1) dX7_bar_84 (by decide) ?_
        refine ex_iadd dX7_bar_85 ?_
        obtain ⟨b13, h⟩ := h
        refine ex_iast dX7_bar_86 (by decide) rfl b13 ?_
        refine ex_nmM (fun M14 eM14 => ?_)
        replace h := h M14 eM14
        refine ex_aload_n dX7_bar_87 rfl ?_
        refine ex_getR (ci := 7) (j := 8) (v := 53) dX7_bar_88 (by decide) rfl rfl lk_X7_32 rfl (by decide) ?_
        refine ex_iconst (v := 0) dX7_bar_91 (by decide) ?_
        obtain ⟨b15, h⟩ := h
        refine ex_iald dX7_bar_92 (by decide) rfl b15 ?_
        refine ex_iconst (v := 1) dX7_bar_93 (by decide) ?_
        refine ex_isub dX7_bar_94 ?_
        exact ex_iret dX7_bar_95 rfl rfl rfl h
      refine ex_if_eq (tgt := 75) dX7_bar_68 (by decide) (fun c_68 => ?_) (fun c_68 => ?_)
      ·
        refine ex_iconst (v := 1) dX7_bar_75 (by decide) ?_
        exact hJ16 _ (by rw [if_pos c_68])
      ·
        refine ex_iconst (v := 0) dX7_bar_71 (by decide) ?_
        refine ex_goto (tgt := 76) dX7_bar_72 (by decide) ?_
        exact hJ16 _ (by rw [if_neg c_68])
    refine ex_if_eq (tgt := 55) dX7_bar_48 (by decide) (fun c_48 => ?_) (fun c_48 => ?_)
    ·
      refine ex_iconst (v := 0) dX7_bar_55 (by decide) ?_
      exact hJ17 _ (by rw [if_pos c_48])
    ·
      refine ex_iconst (v := 1) dX7_bar_51 (by decide) ?_
      refine ex_goto (tgt := 56) dX7_bar_52 (by decide) ?_
      exact hJ17 _ (by rw [if_neg c_48])
  · replace h := h.2 c_31
    refine ex_bipush (v := (-4)) dX7_bar_34 (by decide) ?_
    exact ex_iret dX7_bar_36 rfl rfl rfl h
def w_X7_bar (p1 : Int32) (M : Mem) (Q : Int32 → Mem → Prop) : Prop := w_X7_lacks M (fun v1 M2 => (¬ (v1 = 0) → (Q (-3) M2)) ∧ ((v1 = 0) → (((p1 = 0) → (w_X7_bar_23  Q  p1 M2)) ∧ (¬ (p1 = 0) → ((vp_in 0 2) ∧ ((¬ ((M2 53 (Int32.toNatClampNeg 0)) = 0) → (w_X7_bar_23  Q  p1 M2)) ∧ (((M2 53 (Int32.toNatClampNeg 0)) = 0) → (Q (-3) M2))))))))
theorem t_X7_bar (p1 : Int32) (M : Mem) (Q : Int32 → Mem → Prop) (h : w_X7_bar  p1 M Q) : Ex true mX7_bar 78 78 0 0 0 [.ref 46, .int p1] [] M Q := by
  unfold w_X7_bar at h
  refine ex_aload_n dX7_bar_0 rfl ?_
  refine ex_invV (k := 46) (ci := 7) (as := []) (L2 := [.ref 46, .null]) (st := []) 0 0 dX7_bar_1 lk_X7_211 sl_X7_lacks (rmK_of rfl) (by decide) rfl ⟨by decide, rfl⟩ rfl (Nat.le_of_ble_eq_true rfl) (Nat.le_of_ble_eq_true rfl) (t_X7_lacks   M _ h) (fun v1 M2 h => ?_)
  show Ex true mX7_bar 78 78 0 0 4 [.ref 46, .int p1] [.int v1] M2 Q
  refine ex_if_ne (tgt := 20) dX7_bar_4 (by decide) (fun c_4 => ?_) (fun c_4 => ?_)
  · replace h := h.1 c_4
    refine ex_bipush (v := (-3)) dX7_bar_20 (by decide) ?_
    exact ex_iret dX7_bar_22 rfl rfl rfl h
  · replace h := h.2 c_4
    refine ex_iload_n dX7_bar_7 rfl ?_
    refine ex_if_eq (tgt := 23) dX7_bar_8 (by decide) (fun c_8 => ?_) (fun c_8 => ?_)
    · replace h := h.1 c_8
      exact t_X7_bar_23   Q   p1 M2 h
    · replace h := h.2 c_8
      refine ex_aload_n dX7_bar_11 rfl ?_
      refine ex_getR (ci := 7) (j := 8) (v := 53) dX7_bar_12 (by decide) rfl rfl lk_X7_32 rfl (by decide) ?_
      refine ex_iconst (v := 0) dX7_bar_15 (by decide) ?_
      obtain ⟨b18, h⟩ := h
      refine ex_iald dX7_bar_16 (by decide) rfl b18 ?_
      refine ex_if_ne (tgt := 23) dX7_bar_17 (by decide) (fun c_17 => ?_) (fun c_17 => ?_)
      · replace h := h.1 c_17
        exact t_X7_bar_23   Q   p1 M2 h
      · replace h := h.2 c_17
        refine ex_bipush (v := (-3)) dX7_bar_20 (by decide) ?_
        exact ex_iret dX7_bar_22 rfl rfl rfl h
def w_X7_voice (M : Mem) (Q : Int32 → Mem → Prop) : Prop := (vp_in 0 2) ∧ (∀ x2 : Int32, x2 = ((M 53 (Int32.toNatClampNeg 0)) - 1) → ((x2 < 0) → (Q (-3) M)) ∧ (¬ (x2 < 0) → ((vp_in x2 120) ∧ ((((M 56 (Int32.toNatClampNeg x2)) = 1) → (Q (-3) M)) ∧ (¬ ((M 56 (Int32.toNatClampNeg x2)) = 1) → (w_X7_lacks M (fun v4 M5 => ((v4 = 0) → ((vp_in x2 120) ∧ ((¬ ((M5 57 (Int32.toNatClampNeg x2)) = 3) → ((vp_in x2 120) ∧ ((vp_in x2 120) ∧ (∀ M9 : Mem, M9 = (mset M5 57 (Int32.toNatClampNeg x2) ((M5 57 (Int32.toNatClampNeg x2)) + 1)) → (vp_in x2 120) ∧ (Q ((M9 57 (Int32.toNatClampNeg x2)) - 1) M9))))) ∧ (((M5 57 (Int32.toNatClampNeg x2)) = 3) → (Q (-4) M5))))) ∧ (¬ (v4 = 0) → (Q (-3) M5)))))))))
theorem t_X7_voice (M : Mem) (Q : Int32 → Mem → Prop) (h : w_X7_voice   M Q) : Ex true mX7_voice 78 78 0 0 0 [.ref 46, .null] [] M Q := by
  unfold w_X7_voice at h
  refine ex_aload_n dX7_voice_0 rfl ?_
  refine ex_getR (ci := 7) (j := 8) (v := 53) dX7_voice_1 (by decide) rfl rfl lk_X7_32 rfl (by decide) ?_
  refine ex_iconst (v := 0) dX7_voice_4 (by decide) ?_
  obtain ⟨b1, h⟩ := h
  refine ex_iald dX7_voice_5 (by decide) rfl b1 ?_
  refine ex_iconst (v := 1) dX7_voice_6 (by decide) ?_
  refine ex_isub dX7_voice_7 ?_
  refine ex_top (fun x2 ex2 => ?_)
  replace h := h x2 ex2
  refine ex_istore_n (L2 := [.ref 46, .int x2]) dX7_voice_8 (by decide) rfl rfl ?_
  refine ex_iload_n dX7_voice_9 rfl ?_
  refine ex_if_lt (tgt := 30) dX7_voice_10 (by decide) (fun c_10 => ?_) (fun c_10 => ?_)
  · replace h := h.1 c_10
    refine ex_bipush (v := (-3)) dX7_voice_30 (by decide) ?_
    exact ex_iret dX7_voice_32 rfl rfl rfl h
  · replace h := h.2 c_10
    refine ex_aload_n dX7_voice_13 rfl ?_
    refine ex_getR (ci := 7) (j := 11) (v := 56) dX7_voice_14 (by decide) rfl rfl lk_X7_41 rfl (by decide) ?_
    refine ex_iload_n dX7_voice_17 rfl ?_
    obtain ⟨b3, h⟩ := h
    refine ex_iald dX7_voice_18 (by decide) rfl b3 ?_
    refine ex_iconst (v := 1) dX7_voice_19 (by decide) ?_
    refine ex_icmp_eq (tgt := 30) dX7_voice_20 (by decide) (fun c_20 => ?_) (fun c_20 => ?_)
    · replace h := h.1 c_20
      refine ex_bipush (v := (-3)) dX7_voice_30 (by decide) ?_
      exact ex_iret dX7_voice_32 rfl rfl rfl h
    · replace h := h.2 c_20
      refine ex_aload_n dX7_voice_23 rfl ?_
      refine ex_invV (k := 46) (ci := 7) (as := []) (L2 := [.ref 46, .null]) (st := []) 0 0 dX7_voice_24 lk_X7_211 sl_X7_lacks (rmK_of rfl) (by decide) rfl ⟨by decide, rfl⟩ rfl (Nat.le_of_ble_eq_true rfl) (Nat.le_of_ble_eq_true rfl) (t_X7_lacks   M _ h) (fun v4 M5 h => ?_)
      show Ex true mX7_voice 78 78 0 0 27 [.ref 46, .int x2] [.int v4] M5 Q
      refine ex_if_eq (tgt := 33) dX7_voice_27 (by decide) (fun c_27 => ?_) (fun c_27 => ?_)
      · replace h := h.1 c_27
        refine ex_aload_n dX7_voice_33 rfl ?_
        refine ex_getR (ci := 7) (j := 12) (v := 57) dX7_voice_34 (by decide) rfl rfl lk_X7_44 rfl (by decide) ?_
        refine ex_iload_n dX7_voice_37 rfl ?_
        obtain ⟨b6, h⟩ := h
        refine ex_iald dX7_voice_38 (by decide) rfl b6 ?_
        refine ex_iconst (v := 3) dX7_voice_39 (by decide) ?_
        refine ex_icmp_ne (tgt := 46) dX7_voice_40 (by decide) (fun c_40 => ?_) (fun c_40 => ?_)
        · replace h := h.1 c_40
          refine ex_aload_n dX7_voice_46 rfl ?_
          refine ex_getR (ci := 7) (j := 12) (v := 57) dX7_voice_47 (by decide) rfl rfl lk_X7_44 rfl (by decide) ?_
          refine ex_iload_n dX7_voice_50 rfl ?_
          refine ex_dup2 dX7_voice_51 rfl rfl ?_
          obtain ⟨b7, h⟩ := h
          refine ex_iald dX7_voice_52 (by decide) rfl b7 ?_
          refine ex_iconst (v := 1) dX7_voice_53 (by decide) ?_
          refine ex_iadd dX7_voice_54 ?_
          obtain ⟨b8, h⟩ := h
          refine ex_iast dX7_voice_55 (by decide) rfl b8 ?_
          refine ex_nmM (fun M9 eM9 => ?_)
          replace h := h M9 eM9
          refine ex_aload_n dX7_voice_56 rfl ?_
          refine ex_getR (ci := 7) (j := 12) (v := 57) dX7_voice_57 (by decide) rfl rfl lk_X7_44 rfl (by decide) ?_
          refine ex_iload_n dX7_voice_60 rfl ?_
          obtain ⟨b10, h⟩ := h
          refine ex_iald dX7_voice_61 (by decide) rfl b10 ?_
          refine ex_iconst (v := 1) dX7_voice_62 (by decide) ?_
          refine ex_isub dX7_voice_63 ?_
          exact ex_iret dX7_voice_64 rfl rfl rfl h
        · replace h := h.2 c_40
          refine ex_bipush (v := (-4)) dX7_voice_43 (by decide) ?_
          exact ex_iret dX7_voice_45 rfl rfl rfl h
      · replace h := h.2 c_27
        refine ex_bipush (v := (-3)) dX7_voice_30 (by decide) ?_
        exact ex_iret dX7_voice_32 rfl rfl rfl h
def w_X7_barred_96 (Q : Int32 → Mem → Prop) (l1 : Int32) (l2 : Int32) (l3 : Int32) (l4 : Int32) (l5 : Int32) (M : Mem) : Prop := (((l4 = 40) → (True)) ∧ (¬ (l4 = 40) → ((vp_in 0 2) ∧ ((¬ ((M 54 (Int32.toNatClampNeg 0)) = 600) → (True)) ∧ (((M 54 (Int32.toNatClampNeg 0)) = 600) → (True)))))) ∧ (∀ z11 : Int32, z11 = (if l4 = 40 then (-4) else (if (M 54 (Int32.toNatClampNeg 0)) = 600 then (-4) else 0)) → Q z11 M)
theorem t_X7_barred_96 (Q : Int32 → Mem → Prop) (l1 : Int32) (l2 : Int32) (l3 : Int32) (l4 : Int32) (l5 : Int32) (M : Mem) (h : w_X7_barred_96  Q  l1 l2 l3 l4 l5 M) : Ex true mX7_barred 78 78 0 0 96 [.ref 46, .int l1, .int l2, .int l3, .int l4, .int l5] [] M Q := by
  unfold w_X7_barred_96 at h
  refine ex_iload dX7_barred_96 rfl ?_
  refine ex_bipush (v := 40) dX7_barred_98 (by decide) ?_
  obtain ⟨khJ12, h⟩ := h
  have hJ12 : ∀ z11 : Int32, z11 = (if l4 = 40 then (-4) else (if (M 54 (Int32.toNatClampNeg 0)) = 600 then (-4) else 0)) → Ex true mX7_barred 78 78 0 0 121 [.ref 46, .int l1, .int l2, .int l3, .int l4, .int l5] [.int z11] M Q := by
    intro z11 ez11
    replace h := h z11 ez11
    exact ex_iret dX7_barred_121 rfl rfl rfl h
  refine ex_icmp_eq (tgt := 115) dX7_barred_100 (by decide) (fun c_100 => ?_) (fun c_100 => ?_)
  · replace h := khJ12.1 c_100
    refine ex_bipush (v := (-4)) dX7_barred_115 (by decide) ?_
    refine ex_goto (tgt := 121) dX7_barred_117 (by decide) ?_
    exact hJ12 _ (by rw [if_pos c_100])
  · replace h := khJ12.2 c_100
    refine ex_aload_n dX7_barred_103 rfl ?_
    refine ex_getR (ci := 7) (j := 9) (v := 54) dX7_barred_104 (by decide) rfl rfl lk_X7_35 rfl (by decide) ?_
    refine ex_iconst (v := 0) dX7_barred_107 (by decide) ?_
    obtain ⟨b10, h⟩ := h
    refine ex_iald dX7_barred_108 (by decide) rfl b10 ?_
    refine ex_sipush (v := 600) dX7_barred_109 (by decide) ?_
    refine ex_icmp_ne (tgt := 120) dX7_barred_112 (by decide) (fun c_112 => ?_) (fun c_112 => ?_)
    · replace h := h.1 c_112
      refine ex_iconst (v := 0) dX7_barred_120 (by decide) ?_
      exact hJ12 _ (by rw [if_neg c_100, if_neg c_112])
    · replace h := h.2 c_112
      refine ex_bipush (v := (-4)) dX7_barred_115 (by decide) ?_
      refine ex_goto (tgt := 121) dX7_barred_117 (by decide) ?_
      exact hJ12 _ (by rw [if_neg c_100, if_pos c_112])
def w_X7_barred_73 (Q : Int32 → Mem → Prop) (l1 : Int32) (l2 : Int32) (l3 : Int32) (l4 : Int32) (l5 : Int32) (M : Mem) : Prop := ((l1 < 0) → (w_X7_barred_96  Q  l1 l2 l3 l4 l5 M)) ∧ (¬ (l1 < 0) → (w_X7_voiceLasts 0 l2 l3 M (fun v13 M14 => (((v13 + l1) ≤ (M14 46 7)) → (w_X7_barred_96  Q  l1 l2 l3 l4 l5 M14)) ∧ (¬ ((v13 + l1) ≤ (M14 46 7)) → (Q (-3) M14)))))
theorem t_X7_barred_73 (Q : Int32 → Mem → Prop) (l1 : Int32) (l2 : Int32) (l3 : Int32) (l4 : Int32) (l5 : Int32) (M : Mem) (h : w_X7_barred_73  Q  l1 l2 l3 l4 l5 M) : Ex true mX7_barred 78 78 0 0 73 [.ref 46, .int l1, .int l2, .int l3, .int l4, .int l5] [] M Q := by
  unfold w_X7_barred_73 at h
  refine ex_iload_n dX7_barred_73 rfl ?_
  refine ex_if_lt (tgt := 96) dX7_barred_74 (by decide) (fun c_74 => ?_) (fun c_74 => ?_)
  · replace h := h.1 c_74
    exact t_X7_barred_96   Q   l1 l2 l3 l4 l5 M h
  · replace h := h.2 c_74
    refine ex_aload_n dX7_barred_77 rfl ?_
    refine ex_iconst (v := 0) dX7_barred_78 (by decide) ?_
    refine ex_iload_n dX7_barred_79 rfl ?_
    refine ex_iload_n dX7_barred_80 rfl ?_
    refine ex_invV (k := 46) (ci := 7) (as := [.int 0, .int l2, .int l3]) (L2 := [.ref 46, .int 0, .int l2, .int l3, .null, .null]) (st := []) 0 0 dX7_barred_81 lk_X7_208 sl_X7_voiceLasts (rmK_of rfl) (by decide) rfl ⟨by decide, rfl⟩ rfl (Nat.le_of_ble_eq_true rfl) (Nat.le_of_ble_eq_true rfl) (t_X7_voiceLasts   0 l2 l3 M _ h) (fun v13 M14 h => ?_)
    show Ex true mX7_barred 78 78 0 0 84 [.ref 46, .int l1, .int l2, .int l3, .int l4, .int l5] [.int v13] M14 Q
    refine ex_iload_n dX7_barred_84 rfl ?_
    refine ex_iadd dX7_barred_85 ?_
    refine ex_aload_n dX7_barred_86 rfl ?_
    refine ex_getI (ci := 7) (j := 7) dX7_barred_87 (by decide) rfl rfl lk_X7_28 ?_
    refine ex_icmp_le (tgt := 96) dX7_barred_90 (by decide) (fun c_90 => ?_) (fun c_90 => ?_)
    · replace h := h.1 c_90
      exact t_X7_barred_96   Q   l1 l2 l3 l4 l5 M14 h
    · replace h := h.2 c_90
      refine ex_bipush (v := (-3)) dX7_barred_93 (by decide) ?_
      exact ex_iret dX7_barred_95 rfl rfl rfl h
def w_X7_barred (p1 : Int32) (M : Mem) (Q : Int32 → Mem → Prop) : Prop := (vp_in 0 2) ∧ (∀ x2 : Int32, x2 = ((M 53 (Int32.toNatClampNeg 0)) - 1) → ((x2 < 0) → (Q (-3) M)) ∧ (¬ (x2 < 0) → ((vp_in x2 120) ∧ ((¬ ((M 56 (Int32.toNatClampNeg x2)) = 1) → ((vp_in x2 120) ∧ (∀ x5 : Int32, x5 = ((M 57 (Int32.toNatClampNeg x2)) - 1) → w_X7_voiceSize 0 x2 x5 M (fun v6 M7 => w_X7_voiceFirst 0 x2 x5 M7 (fun v8 M9 => ((v6 ≤ 0) → (w_X7_barred_73  Q  p1 x2 x5 v6 v8 M9)) ∧ (¬ (v6 ≤ 0) → ((vp_in v8 1200) ∧ ((((M9 63 (Int32.toNatClampNeg v8)) = 2) → (Q (-3) M9)) ∧ (¬ ((M9 63 (Int32.toNatClampNeg v8)) = 2) → (((p1 < 0) → (Q (-3) M9)) ∧ (¬ (p1 < 0) → (w_X7_barred_73  Q  p1 x2 x5 v6 v8 M9)))))))))))) ∧ (((M 56 (Int32.toNatClampNeg x2)) = 1) → (Q (-3) M))))))
theorem t_X7_barred (p1 : Int32) (M : Mem) (Q : Int32 → Mem → Prop) (h : w_X7_barred  p1 M Q) : Ex true mX7_barred 78 78 0 0 0 [.ref 46, .int p1, .null, .null, .null, .null] [] M Q := by
  unfold w_X7_barred at h
  refine ex_aload_n dX7_barred_0 rfl ?_
  refine ex_getR (ci := 7) (j := 8) (v := 53) dX7_barred_1 (by decide) rfl rfl lk_X7_32 rfl (by decide) ?_
  refine ex_iconst (v := 0) dX7_barred_4 (by decide) ?_
  obtain ⟨b1, h⟩ := h
  refine ex_iald dX7_barred_5 (by decide) rfl b1 ?_
  refine ex_iconst (v := 1) dX7_barred_6 (by decide) ?_
  refine ex_isub dX7_barred_7 ?_
  refine ex_top (fun x2 ex2 => ?_)
  replace h := h x2 ex2
  refine ex_istore_n (L2 := [.ref 46, .int p1, .int x2, .null, .null, .null]) dX7_barred_8 (by decide) rfl rfl ?_
  refine ex_iload_n dX7_barred_9 rfl ?_
  refine ex_if_lt (tgt := 23) dX7_barred_10 (by decide) (fun c_10 => ?_) (fun c_10 => ?_)
  · replace h := h.1 c_10
    refine ex_bipush (v := (-3)) dX7_barred_23 (by decide) ?_
    exact ex_iret dX7_barred_25 rfl rfl rfl h
  · replace h := h.2 c_10
    refine ex_aload_n dX7_barred_13 rfl ?_
    refine ex_getR (ci := 7) (j := 11) (v := 56) dX7_barred_14 (by decide) rfl rfl lk_X7_41 rfl (by decide) ?_
    refine ex_iload_n dX7_barred_17 rfl ?_
    obtain ⟨b3, h⟩ := h
    refine ex_iald dX7_barred_18 (by decide) rfl b3 ?_
    refine ex_iconst (v := 1) dX7_barred_19 (by decide) ?_
    refine ex_icmp_ne (tgt := 26) dX7_barred_20 (by decide) (fun c_20 => ?_) (fun c_20 => ?_)
    · replace h := h.1 c_20
      refine ex_aload_n dX7_barred_26 rfl ?_
      refine ex_getR (ci := 7) (j := 12) (v := 57) dX7_barred_27 (by decide) rfl rfl lk_X7_44 rfl (by decide) ?_
      refine ex_iload_n dX7_barred_30 rfl ?_
      obtain ⟨b4, h⟩ := h
      refine ex_iald dX7_barred_31 (by decide) rfl b4 ?_
      refine ex_iconst (v := 1) dX7_barred_32 (by decide) ?_
      refine ex_isub dX7_barred_33 ?_
      refine ex_top (fun x5 ex5 => ?_)
      replace h := h x5 ex5
      refine ex_istore_n (L2 := [.ref 46, .int p1, .int x2, .int x5, .null, .null]) dX7_barred_34 (by decide) rfl rfl ?_
      refine ex_aload_n dX7_barred_35 rfl ?_
      refine ex_iconst (v := 0) dX7_barred_36 (by decide) ?_
      refine ex_iload_n dX7_barred_37 rfl ?_
      refine ex_iload_n dX7_barred_38 rfl ?_
      refine ex_invV (k := 46) (ci := 7) (as := [.int 0, .int x2, .int x5]) (L2 := [.ref 46, .int 0, .int x2, .int x5, .null, .null]) (st := []) 0 0 dX7_barred_39 lk_X7_215 sl_X7_voiceSize (rmK_of rfl) (by decide) rfl ⟨by decide, rfl⟩ rfl (Nat.le_of_ble_eq_true rfl) (Nat.le_of_ble_eq_true rfl) (t_X7_voiceSize   0 x2 x5 M _ h) (fun v6 M7 h => ?_)
      show Ex true mX7_barred 78 78 0 0 42 [.ref 46, .int p1, .int x2, .int x5, .null, .null] [.int v6] M7 Q
      refine ex_istore (L2 := [.ref 46, .int p1, .int x2, .int x5, .int v6, .null]) dX7_barred_42 (by decide) rfl rfl ?_
      refine ex_aload_n dX7_barred_44 rfl ?_
      refine ex_iconst (v := 0) dX7_barred_45 (by decide) ?_
      refine ex_iload_n dX7_barred_46 rfl ?_
      refine ex_iload_n dX7_barred_47 rfl ?_
      refine ex_invV (k := 46) (ci := 7) (as := [.int 0, .int x2, .int x5]) (L2 := [.ref 46, .int 0, .int x2, .int x5, .null, .null]) (st := []) 0 0 dX7_barred_48 lk_X7_218 sl_X7_voiceFirst (rmK_of rfl) (by decide) rfl ⟨by decide, rfl⟩ rfl (Nat.le_of_ble_eq_true rfl) (Nat.le_of_ble_eq_true rfl) (t_X7_voiceFirst   0 x2 x5 M7 _ h) (fun v8 M9 h => ?_)
      show Ex true mX7_barred 78 78 0 0 51 [.ref 46, .int p1, .int x2, .int x5, .int v6, .null] [.int v8] M9 Q
      refine ex_istore (L2 := [.ref 46, .int p1, .int x2, .int x5, .int v6, .int v8]) dX7_barred_51 (by decide) rfl rfl ?_
      refine ex_iload dX7_barred_53 rfl ?_
      refine ex_if_le (tgt := 73) dX7_barred_55 (by decide) (fun c_55 => ?_) (fun c_55 => ?_)
      · replace h := h.1 c_55
        exact t_X7_barred_73   Q   p1 x2 x5 v6 v8 M9 h
      · replace h := h.2 c_55
        refine ex_aload_n dX7_barred_58 rfl ?_
        refine ex_getR (ci := 7) (j := 18) (v := 63) dX7_barred_59 (by decide) rfl rfl lk_X7_62 rfl (by decide) ?_
        refine ex_iload dX7_barred_62 rfl ?_
        obtain ⟨b15, h⟩ := h
        refine ex_iald dX7_barred_64 (by decide) rfl b15 ?_
        refine ex_iconst (v := 2) dX7_barred_65 (by decide) ?_
        refine ex_icmp_eq (tgt := 93) dX7_barred_66 (by decide) (fun c_66 => ?_) (fun c_66 => ?_)
        · replace h := h.1 c_66
          refine ex_bipush (v := (-3)) dX7_barred_93 (by decide) ?_
          exact ex_iret dX7_barred_95 rfl rfl rfl h
        · replace h := h.2 c_66
          refine ex_iload_n dX7_barred_69 rfl ?_
          refine ex_if_lt (tgt := 93) dX7_barred_70 (by decide) (fun c_70 => ?_) (fun c_70 => ?_)
          · replace h := h.1 c_70
            refine ex_bipush (v := (-3)) dX7_barred_93 (by decide) ?_
            exact ex_iret dX7_barred_95 rfl rfl rfl h
          · replace h := h.2 c_70
            exact t_X7_barred_73   Q   p1 x2 x5 v6 v8 M9 h
    · replace h := h.2 c_20
      refine ex_bipush (v := (-3)) dX7_barred_23 (by decide) ?_
      exact ex_iret dX7_barred_25 rfl rfl rfl h
def wb_X7_put_114 (Q : Int32 → Mem → Prop) (B114 : Int32 → Int32 → Int32 → Int32 → Int32 → Int32 → Int32 → Mem → Prop) (l1 : Int32) (l2 : Int32) (l3 : Int32) (l4 : Int32) (l5 : Int32) (l6 : Int32) (l7 : Int32) (M : Mem) : Prop := ((4 ≤ l7) → ((vp_in 0 2) ∧ ((vp_in 0 2) ∧ (∀ M28 : Mem, M28 = (mset M 54 (Int32.toNatClampNeg 0) ((M 54 (Int32.toNatClampNeg 0)) + 1)) → Q l6 M28)))) ∧ (¬ (4 ≤ l7) → ((vp_in ((4 * l6) + l7) 4800) ∧ (∀ M30 : Mem, M30 = (mset M 68 (Int32.toNatClampNeg ((4 * l6) + l7)) 0) → ∀ x31 : Int32, x31 = l7 + 1 → B114 l1 l2 l3 l4 l5 l6 x31 M30)))
def w_X7_put_114 (Q : Int32 → Mem → Prop) : Nat → Int32 → Int32 → Int32 → Int32 → Int32 → Int32 → Int32 → Mem → Prop
  | 0 => fun _ _ _ _ _ _ _ _ => False
  | k + 1 => wb_X7_put_114  Q  (w_X7_put_114  Q  k)
theorem t_X7_put_114 (Q : Int32 → Mem → Prop) : ∀ (k : Nat) (l1 : Int32) (l2 : Int32) (l3 : Int32) (l4 : Int32) (l5 : Int32) (l6 : Int32) (l7 : Int32) (M : Mem), w_X7_put_114  Q  k l1 l2 l3 l4 l5 l6 l7 M → Ex true mX7_put 78 78 0 0 114 [.ref 46, .int l1, .int l2, .int l3, .int l4, .int l5, .int l6, .int l7] [] M Q := by
  intro k
  induction k with
  | zero => intro l1 l2 l3 l4 l5 l6 l7 M h; exact False.elim h
  | succ k hB114 =>
    intro l1 l2 l3 l4 l5 l6 l7 M h
    replace h : wb_X7_put_114  Q  (w_X7_put_114  Q  k) l1 l2 l3 l4 l5 l6 l7 M := h
    generalize w_X7_put_114  Q  k = B114 at hB114 h
    unfold wb_X7_put_114 at h
    refine ex_iload dX7_put_114 rfl ?_
    refine ex_iconst (v := 4) dX7_put_116 (by decide) ?_
    refine ex_icmp_ge (tgt := 139) dX7_put_117 (by decide) (fun c_117 => ?_) (fun c_117 => ?_)
    · replace h := h.1 c_117
      refine ex_aload_n dX7_put_139 rfl ?_
      refine ex_getR (ci := 7) (j := 9) (v := 54) dX7_put_140 (by decide) rfl rfl lk_X7_35 rfl (by decide) ?_
      refine ex_iconst (v := 0) dX7_put_143 (by decide) ?_
      refine ex_dup2 dX7_put_144 rfl rfl ?_
      obtain ⟨b26, h⟩ := h
      refine ex_iald dX7_put_145 (by decide) rfl b26 ?_
      refine ex_iconst (v := 1) dX7_put_146 (by decide) ?_
      refine ex_iadd dX7_put_147 ?_
      obtain ⟨b27, h⟩ := h
      refine ex_iast dX7_put_148 (by decide) rfl b27 ?_
      refine ex_nmM (fun M28 eM28 => ?_)
      replace h := h M28 eM28
      refine ex_iload dX7_put_149 rfl ?_
      exact ex_iret dX7_put_151 rfl rfl rfl h
    · replace h := h.2 c_117
      refine ex_aload_n dX7_put_120 rfl ?_
      refine ex_getR (ci := 7) (j := 23) (v := 68) dX7_put_121 (by decide) rfl rfl lk_X7_77 rfl (by decide) ?_
      refine ex_iconst (v := 4) dX7_put_124 (by decide) ?_
      refine ex_iload dX7_put_125 rfl ?_
      refine ex_imul dX7_put_127 ?_
      refine ex_iload dX7_put_128 rfl ?_
      refine ex_iadd dX7_put_130 ?_
      refine ex_iconst (v := 0) dX7_put_131 (by decide) ?_
      obtain ⟨b29, h⟩ := h
      refine ex_iast dX7_put_132 (by decide) rfl b29 ?_
      refine ex_nmM (fun M30 eM30 => ?_)
      replace h := h M30 eM30
      refine ex_iinc (v := l7 + 1) (L2 := [.ref 46, .int l1, .int l2, .int l3, .int l4, .int l5, .int l6, .int (l7 + 1)]) dX7_put_133 rfl rfl (by decide) rfl rfl ?_
      obtain ⟨x31, ex31⟩ : ∃ x31 : Int32, x31 = l7 + 1 := ⟨_, rfl⟩
      rw [← ex31]
      replace h := h x31 ex31
      refine ex_goto (tgt := 114) dX7_put_136 (by decide) ?_
      exact hB114 l1 l2 l3 l4 l5 l6 x31 M30 h
def w_X7_put (p1 : Int32) (p2 : Int32) (p3 : Int32) (p4 : Int32) (p5 : Int32) (M : Mem) (Q : Int32 → Mem → Prop) : Prop := (vp_in 0 2) ∧ (∀ x2 : Int32, x2 = (M 54 (Int32.toNatClampNeg 0)) → (vp_in 0 2) ∧ ((vp_in x2 1200) ∧ (∀ M5 : Mem, M5 = (mset M 58 (Int32.toNatClampNeg x2) ((M 53 (Int32.toNatClampNeg 0)) - 1)) → (vp_in 0 2) ∧ ((vp_in ((M5 53 (Int32.toNatClampNeg 0)) - 1) 120) ∧ ((vp_in x2 1200) ∧ (∀ M9 : Mem, M9 = (mset M5 59 (Int32.toNatClampNeg x2) ((M5 57 (Int32.toNatClampNeg ((M5 53 (Int32.toNatClampNeg 0)) - 1))) - 1)) → (vp_in x2 1200) ∧ (∀ M11 : Mem, M11 = (mset M9 60 (Int32.toNatClampNeg x2) p1) → (vp_in x2 1200) ∧ (∀ M13 : Mem, M13 = (mset M11 61 (Int32.toNatClampNeg x2) p2) → (vp_in x2 1200) ∧ (∀ M15 : Mem, M15 = (mset M13 62 (Int32.toNatClampNeg x2) p3) → (vp_in x2 1200) ∧ (∀ M17 : Mem, M17 = (mset M15 63 (Int32.toNatClampNeg x2) p4) → (vp_in x2 1200) ∧ (∀ M19 : Mem, M19 = (mset M17 64 (Int32.toNatClampNeg x2) p5) → (vp_in x2 1200) ∧ (∀ M21 : Mem, M21 = (mset M19 65 (Int32.toNatClampNeg x2) 0) → (vp_in x2 1200) ∧ (∀ M23 : Mem, M23 = (mset M21 66 (Int32.toNatClampNeg x2) 0) → (vp_in x2 1200) ∧ (∀ M25 : Mem, M25 = (mset M23 67 (Int32.toNatClampNeg x2) 0) → ∃ k, w_X7_put_114  Q  k p1 p2 p3 p4 p5 x2 0 M25))))))))))))))
theorem t_X7_put (p1 : Int32) (p2 : Int32) (p3 : Int32) (p4 : Int32) (p5 : Int32) (M : Mem) (Q : Int32 → Mem → Prop) (h : w_X7_put  p1 p2 p3 p4 p5 M Q) : Ex true mX7_put 78 78 0 0 0 [.ref 46, .int p1, .int p2, .int p3, .int p4, .int p5, .null, .null] [] M Q := by
  unfold w_X7_put at h
  refine ex_aload_n dX7_put_0 rfl ?_
  refine ex_getR (ci := 7) (j := 9) (v := 54) dX7_put_1 (by decide) rfl rfl lk_X7_35 rfl (by decide) ?_
  refine ex_iconst (v := 0) dX7_put_4 (by decide) ?_
  obtain ⟨b1, h⟩ := h
  refine ex_iald dX7_put_5 (by decide) rfl b1 ?_
  refine ex_top (fun x2 ex2 => ?_)
  replace h := h x2 ex2
  refine ex_istore (L2 := [.ref 46, .int p1, .int p2, .int p3, .int p4, .int p5, .int x2, .null]) dX7_put_6 (by decide) rfl rfl ?_
  refine ex_aload_n dX7_put_8 rfl ?_
  refine ex_getR (ci := 7) (j := 13) (v := 58) dX7_put_9 (by decide) rfl rfl lk_X7_47 rfl (by decide) ?_
  refine ex_iload dX7_put_12 rfl ?_
  refine ex_aload_n dX7_put_14 rfl ?_
  refine ex_getR (ci := 7) (j := 8) (v := 53) dX7_put_15 (by decide) rfl rfl lk_X7_32 rfl (by decide) ?_
  refine ex_iconst (v := 0) dX7_put_18 (by decide) ?_
  obtain ⟨b3, h⟩ := h
  refine ex_iald dX7_put_19 (by decide) rfl b3 ?_
  refine ex_iconst (v := 1) dX7_put_20 (by decide) ?_
  refine ex_isub dX7_put_21 ?_
  obtain ⟨b4, h⟩ := h
  refine ex_iast dX7_put_22 (by decide) rfl b4 ?_
  refine ex_nmM (fun M5 eM5 => ?_)
  replace h := h M5 eM5
  refine ex_aload_n dX7_put_23 rfl ?_
  refine ex_getR (ci := 7) (j := 14) (v := 59) dX7_put_24 (by decide) rfl rfl lk_X7_50 rfl (by decide) ?_
  refine ex_iload dX7_put_27 rfl ?_
  refine ex_aload_n dX7_put_29 rfl ?_
  refine ex_getR (ci := 7) (j := 12) (v := 57) dX7_put_30 (by decide) rfl rfl lk_X7_44 rfl (by decide) ?_
  refine ex_aload_n dX7_put_33 rfl ?_
  refine ex_getR (ci := 7) (j := 8) (v := 53) dX7_put_34 (by decide) rfl rfl lk_X7_32 rfl (by decide) ?_
  refine ex_iconst (v := 0) dX7_put_37 (by decide) ?_
  obtain ⟨b6, h⟩ := h
  refine ex_iald dX7_put_38 (by decide) rfl b6 ?_
  refine ex_iconst (v := 1) dX7_put_39 (by decide) ?_
  refine ex_isub dX7_put_40 ?_
  obtain ⟨b7, h⟩ := h
  refine ex_iald dX7_put_41 (by decide) rfl b7 ?_
  refine ex_iconst (v := 1) dX7_put_42 (by decide) ?_
  refine ex_isub dX7_put_43 ?_
  obtain ⟨b8, h⟩ := h
  refine ex_iast dX7_put_44 (by decide) rfl b8 ?_
  refine ex_nmM (fun M9 eM9 => ?_)
  replace h := h M9 eM9
  refine ex_aload_n dX7_put_45 rfl ?_
  refine ex_getR (ci := 7) (j := 15) (v := 60) dX7_put_46 (by decide) rfl rfl lk_X7_53 rfl (by decide) ?_
  refine ex_iload dX7_put_49 rfl ?_
  refine ex_iload_n dX7_put_51 rfl ?_
  obtain ⟨b10, h⟩ := h
  refine ex_iast dX7_put_52 (by decide) rfl b10 ?_
  refine ex_nmM (fun M11 eM11 => ?_)
  replace h := h M11 eM11
  refine ex_aload_n dX7_put_53 rfl ?_
  refine ex_getR (ci := 7) (j := 16) (v := 61) dX7_put_54 (by decide) rfl rfl lk_X7_56 rfl (by decide) ?_
  refine ex_iload dX7_put_57 rfl ?_
  refine ex_iload_n dX7_put_59 rfl ?_
  obtain ⟨b12, h⟩ := h
  refine ex_iast dX7_put_60 (by decide) rfl b12 ?_
  refine ex_nmM (fun M13 eM13 => ?_)
  replace h := h M13 eM13
  refine ex_aload_n dX7_put_61 rfl ?_
  refine ex_getR (ci := 7) (j := 17) (v := 62) dX7_put_62 (by decide) rfl rfl lk_X7_59 rfl (by decide) ?_
  refine ex_iload dX7_put_65 rfl ?_
  refine ex_iload_n dX7_put_67 rfl ?_
  obtain ⟨b14, h⟩ := h
  refine ex_iast dX7_put_68 (by decide) rfl b14 ?_
  refine ex_nmM (fun M15 eM15 => ?_)
  replace h := h M15 eM15
  refine ex_aload_n dX7_put_69 rfl ?_
  refine ex_getR (ci := 7) (j := 18) (v := 63) dX7_put_70 (by decide) rfl rfl lk_X7_62 rfl (by decide) ?_
  refine ex_iload dX7_put_73 rfl ?_
  refine ex_iload dX7_put_75 rfl ?_
  obtain ⟨b16, h⟩ := h
  refine ex_iast dX7_put_77 (by decide) rfl b16 ?_
  refine ex_nmM (fun M17 eM17 => ?_)
  replace h := h M17 eM17
  refine ex_aload_n dX7_put_78 rfl ?_
  refine ex_getR (ci := 7) (j := 19) (v := 64) dX7_put_79 (by decide) rfl rfl lk_X7_65 rfl (by decide) ?_
  refine ex_iload dX7_put_82 rfl ?_
  refine ex_iload dX7_put_84 rfl ?_
  obtain ⟨b18, h⟩ := h
  refine ex_iast dX7_put_86 (by decide) rfl b18 ?_
  refine ex_nmM (fun M19 eM19 => ?_)
  replace h := h M19 eM19
  refine ex_aload_n dX7_put_87 rfl ?_
  refine ex_getR (ci := 7) (j := 20) (v := 65) dX7_put_88 (by decide) rfl rfl lk_X7_68 rfl (by decide) ?_
  refine ex_iload dX7_put_91 rfl ?_
  refine ex_iconst (v := 0) dX7_put_93 (by decide) ?_
  obtain ⟨b20, h⟩ := h
  refine ex_iast dX7_put_94 (by decide) rfl b20 ?_
  refine ex_nmM (fun M21 eM21 => ?_)
  replace h := h M21 eM21
  refine ex_aload_n dX7_put_95 rfl ?_
  refine ex_getR (ci := 7) (j := 21) (v := 66) dX7_put_96 (by decide) rfl rfl lk_X7_71 rfl (by decide) ?_
  refine ex_iload dX7_put_99 rfl ?_
  refine ex_iconst (v := 0) dX7_put_101 (by decide) ?_
  obtain ⟨b22, h⟩ := h
  refine ex_iast dX7_put_102 (by decide) rfl b22 ?_
  refine ex_nmM (fun M23 eM23 => ?_)
  replace h := h M23 eM23
  refine ex_aload_n dX7_put_103 rfl ?_
  refine ex_getR (ci := 7) (j := 22) (v := 67) dX7_put_104 (by decide) rfl rfl lk_X7_74 rfl (by decide) ?_
  refine ex_iload dX7_put_107 rfl ?_
  refine ex_iconst (v := 0) dX7_put_109 (by decide) ?_
  obtain ⟨b24, h⟩ := h
  refine ex_iast dX7_put_110 (by decide) rfl b24 ?_
  refine ex_nmM (fun M25 eM25 => ?_)
  replace h := h M25 eM25
  refine ex_iconst (v := 0) dX7_put_111 (by decide) ?_
  refine ex_istore (L2 := [.ref 46, .int p1, .int p2, .int p3, .int p4, .int p5, .int x2, .int 0]) dX7_put_112 (by decide) rfl rfl ?_
  obtain ⟨k_, h⟩ := h
  exact t_X7_put_114   Q   k_ p1 p2 p3 p4 p5 x2 0 M25 h
def w_X7_note (p1 : Int32) (p2 : Int32) (p3 : Int32) (p4 : Int32) (p5 : Int32) (M : Mem) (Q : Int32 → Mem → Prop) : Prop := ((p1 < 7) → (Q (-2) M)) ∧ (¬ (p1 < 7) → (((55 < p1) → (Q (-2) M)) ∧ (¬ (55 < p1) → (((p2 < 0) → (Q (-2) M)) ∧ (¬ (p2 < 0) → (((3 < p2) → (Q (-2) M)) ∧ (¬ (3 < p2) → (((p3 < 0) → (Q (-2) M)) ∧ (¬ (p3 < 0) → (((3 < p3) → (Q (-2) M)) ∧ (¬ (3 < p3) → (((p4 < 0) → (Q (-2) M)) ∧ (¬ (p4 < 0) → (((1 < p4) → (Q (-2) M)) ∧ (¬ (1 < p4) → (((p5 < 0) → (Q (-2) M)) ∧ (¬ (p5 < 0) → (((p5 ≤ 2) → (w_X7_lasts p3 p4 p5 M (fun v1 M2 => w_X7_barred v1 M2 (fun v3 M4 => ((v3 = 0) → (w_X7_put p1 p2 p3 p4 p5 M4 (fun v5 M6 => Q v5 M6))) ∧ (¬ (v3 = 0) → (Q v3 M4)))))) ∧ (¬ (p5 ≤ 2) → (Q (-2) M))))))))))))))))))))
theorem t_X7_note (p1 : Int32) (p2 : Int32) (p3 : Int32) (p4 : Int32) (p5 : Int32) (M : Mem) (Q : Int32 → Mem → Prop) (h : w_X7_note  p1 p2 p3 p4 p5 M Q) : Ex true mX7_note 78 78 0 0 0 [.ref 46, .int p1, .int p2, .int p3, .int p4, .int p5, .null] [] M Q := by
  unfold w_X7_note at h
  refine ex_iload_n dX7_note_0 rfl ?_
  refine ex_bipush (v := 7) dX7_note_1 (by decide) ?_
  refine ex_icmp_lt (tgt := 52) dX7_note_3 (by decide) (fun c_3 => ?_) (fun c_3 => ?_)
  · replace h := h.1 c_3
    refine ex_bipush (v := (-2)) dX7_note_52 (by decide) ?_
    exact ex_iret dX7_note_54 rfl rfl rfl h
  · replace h := h.2 c_3
    refine ex_iload_n dX7_note_6 rfl ?_
    refine ex_bipush (v := 55) dX7_note_7 (by decide) ?_
    refine ex_icmp_gt (tgt := 52) dX7_note_9 (by decide) (fun c_9 => ?_) (fun c_9 => ?_)
    · replace h := h.1 c_9
      refine ex_bipush (v := (-2)) dX7_note_52 (by decide) ?_
      exact ex_iret dX7_note_54 rfl rfl rfl h
    · replace h := h.2 c_9
      refine ex_iload_n dX7_note_12 rfl ?_
      refine ex_if_lt (tgt := 52) dX7_note_13 (by decide) (fun c_13 => ?_) (fun c_13 => ?_)
      · replace h := h.1 c_13
        refine ex_bipush (v := (-2)) dX7_note_52 (by decide) ?_
        exact ex_iret dX7_note_54 rfl rfl rfl h
      · replace h := h.2 c_13
        refine ex_iload_n dX7_note_16 rfl ?_
        refine ex_iconst (v := 3) dX7_note_17 (by decide) ?_
        refine ex_icmp_gt (tgt := 52) dX7_note_18 (by decide) (fun c_18 => ?_) (fun c_18 => ?_)
        · replace h := h.1 c_18
          refine ex_bipush (v := (-2)) dX7_note_52 (by decide) ?_
          exact ex_iret dX7_note_54 rfl rfl rfl h
        · replace h := h.2 c_18
          refine ex_iload_n dX7_note_21 rfl ?_
          refine ex_if_lt (tgt := 52) dX7_note_22 (by decide) (fun c_22 => ?_) (fun c_22 => ?_)
          · replace h := h.1 c_22
            refine ex_bipush (v := (-2)) dX7_note_52 (by decide) ?_
            exact ex_iret dX7_note_54 rfl rfl rfl h
          · replace h := h.2 c_22
            refine ex_iload_n dX7_note_25 rfl ?_
            refine ex_iconst (v := 3) dX7_note_26 (by decide) ?_
            refine ex_icmp_gt (tgt := 52) dX7_note_27 (by decide) (fun c_27 => ?_) (fun c_27 => ?_)
            · replace h := h.1 c_27
              refine ex_bipush (v := (-2)) dX7_note_52 (by decide) ?_
              exact ex_iret dX7_note_54 rfl rfl rfl h
            · replace h := h.2 c_27
              refine ex_iload dX7_note_30 rfl ?_
              refine ex_if_lt (tgt := 52) dX7_note_32 (by decide) (fun c_32 => ?_) (fun c_32 => ?_)
              · replace h := h.1 c_32
                refine ex_bipush (v := (-2)) dX7_note_52 (by decide) ?_
                exact ex_iret dX7_note_54 rfl rfl rfl h
              · replace h := h.2 c_32
                refine ex_iload dX7_note_35 rfl ?_
                refine ex_iconst (v := 1) dX7_note_37 (by decide) ?_
                refine ex_icmp_gt (tgt := 52) dX7_note_38 (by decide) (fun c_38 => ?_) (fun c_38 => ?_)
                · replace h := h.1 c_38
                  refine ex_bipush (v := (-2)) dX7_note_52 (by decide) ?_
                  exact ex_iret dX7_note_54 rfl rfl rfl h
                · replace h := h.2 c_38
                  refine ex_iload dX7_note_41 rfl ?_
                  refine ex_if_lt (tgt := 52) dX7_note_43 (by decide) (fun c_43 => ?_) (fun c_43 => ?_)
                  · replace h := h.1 c_43
                    refine ex_bipush (v := (-2)) dX7_note_52 (by decide) ?_
                    exact ex_iret dX7_note_54 rfl rfl rfl h
                  · replace h := h.2 c_43
                    refine ex_iload dX7_note_46 rfl ?_
                    refine ex_iconst (v := 2) dX7_note_48 (by decide) ?_
                    refine ex_icmp_le (tgt := 55) dX7_note_49 (by decide) (fun c_49 => ?_) (fun c_49 => ?_)
                    · replace h := h.1 c_49
                      refine ex_aload_n dX7_note_55 rfl ?_
                      refine ex_iload_n dX7_note_56 rfl ?_
                      refine ex_iload dX7_note_57 rfl ?_
                      refine ex_iload dX7_note_59 rfl ?_
                      refine ex_invS (as := [.int p3, .int p4, .int p5]) (L2 := [.int p3, .int p4, .int p5, .null]) (st := [.ref 46]) 0 0 dX7_note_61 lk_X7_111 sl_X7_lasts (rmK_of rfl) rfl (Nat.le_of_ble_eq_true rfl) (Nat.le_of_ble_eq_true rfl) (t_X7_lasts   p3 p4 p5 M _ h) (fun v1 M2 h => ?_)
                      show Ex true mX7_note 78 78 0 0 64 [.ref 46, .int p1, .int p2, .int p3, .int p4, .int p5, .null] [.int v1, .ref 46] M2 Q
                      refine ex_invV (k := 46) (ci := 7) (as := [.int v1]) (L2 := [.ref 46, .int v1, .null, .null, .null, .null]) (st := []) 0 0 dX7_note_64 lk_X7_221 sl_X7_barred (rmK_of rfl) (by decide) rfl ⟨by decide, rfl⟩ rfl (Nat.le_of_ble_eq_true rfl) (Nat.le_of_ble_eq_true rfl) (t_X7_barred   v1 M2 _ h) (fun v3 M4 h => ?_)
                      show Ex true mX7_note 78 78 0 0 67 [.ref 46, .int p1, .int p2, .int p3, .int p4, .int p5, .null] [.int v3] M4 Q
                      refine ex_istore (L2 := [.ref 46, .int p1, .int p2, .int p3, .int p4, .int p5, .int v3]) dX7_note_67 (by decide) rfl rfl ?_
                      refine ex_iload dX7_note_69 rfl ?_
                      refine ex_if_eq (tgt := 79) dX7_note_71 (by decide) (fun c_71 => ?_) (fun c_71 => ?_)
                      · replace h := h.1 c_71
                        refine ex_aload_n dX7_note_79 rfl ?_
                        refine ex_iload_n dX7_note_80 rfl ?_
                        refine ex_iload_n dX7_note_81 rfl ?_
                        refine ex_iload_n dX7_note_82 rfl ?_
                        refine ex_iload dX7_note_83 rfl ?_
                        refine ex_iload dX7_note_85 rfl ?_
                        refine ex_invV (k := 46) (ci := 7) (as := [.int p1, .int p2, .int p3, .int p4, .int p5]) (L2 := [.ref 46, .int p1, .int p2, .int p3, .int p4, .int p5, .null, .null]) (st := []) 0 0 dX7_note_87 lk_X7_224 sl_X7_put (rmK_of rfl) (by decide) rfl ⟨by decide, rfl⟩ rfl (Nat.le_of_ble_eq_true rfl) (Nat.le_of_ble_eq_true rfl) (t_X7_put   p1 p2 p3 p4 p5 M4 _ h) (fun v5 M6 h => ?_)
                        show Ex true mX7_note 78 78 0 0 90 [.ref 46, .int p1, .int p2, .int p3, .int p4, .int p5, .int v3] [.int v5] M6 Q
                        exact ex_iret dX7_note_90 rfl rfl rfl h
                      · replace h := h.2 c_71
                        refine ex_iload dX7_note_74 rfl ?_
                        refine ex_goto (tgt := 90) dX7_note_76 (by decide) ?_
                        exact ex_iret dX7_note_90 rfl rfl rfl h
                    · replace h := h.2 c_49
                      refine ex_bipush (v := (-2)) dX7_note_52 (by decide) ?_
                      exact ex_iret dX7_note_54 rfl rfl rfl h
def w_X7_rest_59 (Q : Int32 → Mem → Prop) (l1 : Int32) (l2 : Int32) (l3 : Int32) (t0 : Int32) (M : Mem) : Prop := w_X7_barred t0 M (fun v3 M4 => ((v3 = 0) → (w_X7_put (-1) 0 l1 l2 l3 M4 (fun v5 M6 => Q v5 M6))) ∧ (¬ (v3 = 0) → (Q v3 M4)))
theorem t_X7_rest_59 (Q : Int32 → Mem → Prop) (l1 : Int32) (l2 : Int32) (l3 : Int32) (t0 : Int32) (M : Mem) (h : w_X7_rest_59  Q  l1 l2 l3 t0 M) : Ex true mX7_rest 78 78 0 0 59 [.ref 46, .int l1, .int l2, .int l3, .null] [.int t0, .ref 46] M Q := by
  unfold w_X7_rest_59 at h
  refine ex_invV (k := 46) (ci := 7) (as := [.int t0]) (L2 := [.ref 46, .int t0, .null, .null, .null, .null]) (st := []) 0 0 dX7_rest_59 lk_X7_221 sl_X7_barred (rmK_of rfl) (by decide) rfl ⟨by decide, rfl⟩ rfl (Nat.le_of_ble_eq_true rfl) (Nat.le_of_ble_eq_true rfl) (t_X7_barred   t0 M _ h) (fun v3 M4 h => ?_)
  show Ex true mX7_rest 78 78 0 0 62 [.ref 46, .int l1, .int l2, .int l3, .null] [.int v3] M4 Q
  refine ex_istore (L2 := [.ref 46, .int l1, .int l2, .int l3, .int v3]) dX7_rest_62 (by decide) rfl rfl ?_
  refine ex_iload dX7_rest_64 rfl ?_
  refine ex_if_eq (tgt := 74) dX7_rest_66 (by decide) (fun c_66 => ?_) (fun c_66 => ?_)
  · replace h := h.1 c_66
    refine ex_aload_n dX7_rest_74 rfl ?_
    refine ex_iconst (v := (-1)) dX7_rest_75 (by decide) ?_
    refine ex_iconst (v := 0) dX7_rest_76 (by decide) ?_
    refine ex_iload_n dX7_rest_77 rfl ?_
    refine ex_iload_n dX7_rest_78 rfl ?_
    refine ex_iload_n dX7_rest_79 rfl ?_
    refine ex_invV (k := 46) (ci := 7) (as := [.int (-1), .int 0, .int l1, .int l2, .int l3]) (L2 := [.ref 46, .int (-1), .int 0, .int l1, .int l2, .int l3, .null, .null]) (st := []) 0 0 dX7_rest_80 lk_X7_224 sl_X7_put (rmK_of rfl) (by decide) rfl ⟨by decide, rfl⟩ rfl (Nat.le_of_ble_eq_true rfl) (Nat.le_of_ble_eq_true rfl) (t_X7_put   (-1) 0 l1 l2 l3 M4 _ h) (fun v5 M6 h => ?_)
    show Ex true mX7_rest 78 78 0 0 83 [.ref 46, .int l1, .int l2, .int l3, .int v3] [.int v5] M6 Q
    exact ex_iret dX7_rest_83 rfl rfl rfl h
  · replace h := h.2 c_66
    refine ex_iload dX7_rest_69 rfl ?_
    refine ex_goto (tgt := 83) dX7_rest_71 (by decide) ?_
    exact ex_iret dX7_rest_83 rfl rfl rfl h
def w_X7_rest_43 (Q : Int32 → Mem → Prop) (l1 : Int32) (l2 : Int32) (l3 : Int32) (M : Mem) : Prop := (¬ (l2 = 2) → (w_X7_lasts l1 l2 l3 M (fun v1 M2 => w_X7_rest_59  Q  l1 l2 l3 v1 M2))) ∧ ((l2 = 2) → (w_X7_rest_59  Q  l1 l2 l3 (-1) M))
theorem t_X7_rest_43 (Q : Int32 → Mem → Prop) (l1 : Int32) (l2 : Int32) (l3 : Int32) (M : Mem) (h : w_X7_rest_43  Q  l1 l2 l3 M) : Ex true mX7_rest 78 78 0 0 43 [.ref 46, .int l1, .int l2, .int l3, .null] [] M Q := by
  unfold w_X7_rest_43 at h
  refine ex_aload_n dX7_rest_43 rfl ?_
  refine ex_iload_n dX7_rest_44 rfl ?_
  refine ex_iconst (v := 2) dX7_rest_45 (by decide) ?_
  refine ex_icmp_ne (tgt := 53) dX7_rest_46 (by decide) (fun c_46 => ?_) (fun c_46 => ?_)
  · replace h := h.1 c_46
    refine ex_iload_n dX7_rest_53 rfl ?_
    refine ex_iload_n dX7_rest_54 rfl ?_
    refine ex_iload_n dX7_rest_55 rfl ?_
    refine ex_invS (as := [.int l1, .int l2, .int l3]) (L2 := [.int l1, .int l2, .int l3, .null]) (st := [.ref 46]) 0 0 dX7_rest_56 lk_X7_111 sl_X7_lasts (rmK_of rfl) rfl (Nat.le_of_ble_eq_true rfl) (Nat.le_of_ble_eq_true rfl) (t_X7_lasts   l1 l2 l3 M _ h) (fun v1 M2 h => ?_)
    show Ex true mX7_rest 78 78 0 0 59 [.ref 46, .int l1, .int l2, .int l3, .null] [.int v1, .ref 46] M2 Q
    exact t_X7_rest_59   Q   l1 l2 l3 v1 M2 h
  · replace h := h.2 c_46
    refine ex_iconst (v := (-1)) dX7_rest_49 (by decide) ?_
    refine ex_goto (tgt := 59) dX7_rest_50 (by decide) ?_
    exact t_X7_rest_59   Q   l1 l2 l3 (-1) M h
def w_X7_rest (p1 : Int32) (p2 : Int32) (p3 : Int32) (M : Mem) (Q : Int32 → Mem → Prop) : Prop := ((p1 < 0) → (Q (-2) M)) ∧ (¬ (p1 < 0) → (((3 < p1) → (Q (-2) M)) ∧ (¬ (3 < p1) → (((p2 < 0) → (Q (-2) M)) ∧ (¬ (p2 < 0) → (((2 < p2) → (Q (-2) M)) ∧ (¬ (2 < p2) → (((p3 < 0) → (Q (-2) M)) ∧ (¬ (p3 < 0) → (((2 < p3) → (Q (-2) M)) ∧ (¬ (2 < p3) → ((¬ (p2 = 2) → (w_X7_rest_43  Q  p1 p2 p3 M)) ∧ ((p2 = 2) → (((0 < p1) → (Q (-2) M)) ∧ (¬ (0 < p1) → (((p3 ≤ 0) → (w_X7_rest_43  Q  p1 p2 p3 M)) ∧ (¬ (p3 ≤ 0) → (Q (-2) M))))))))))))))))))
theorem t_X7_rest (p1 : Int32) (p2 : Int32) (p3 : Int32) (M : Mem) (Q : Int32 → Mem → Prop) (h : w_X7_rest  p1 p2 p3 M Q) : Ex true mX7_rest 78 78 0 0 0 [.ref 46, .int p1, .int p2, .int p3, .null] [] M Q := by
  unfold w_X7_rest at h
  refine ex_iload_n dX7_rest_0 rfl ?_
  refine ex_if_lt (tgt := 40) dX7_rest_1 (by decide) (fun c_1 => ?_) (fun c_1 => ?_)
  · replace h := h.1 c_1
    refine ex_bipush (v := (-2)) dX7_rest_40 (by decide) ?_
    exact ex_iret dX7_rest_42 rfl rfl rfl h
  · replace h := h.2 c_1
    refine ex_iload_n dX7_rest_4 rfl ?_
    refine ex_iconst (v := 3) dX7_rest_5 (by decide) ?_
    refine ex_icmp_gt (tgt := 40) dX7_rest_6 (by decide) (fun c_6 => ?_) (fun c_6 => ?_)
    · replace h := h.1 c_6
      refine ex_bipush (v := (-2)) dX7_rest_40 (by decide) ?_
      exact ex_iret dX7_rest_42 rfl rfl rfl h
    · replace h := h.2 c_6
      refine ex_iload_n dX7_rest_9 rfl ?_
      refine ex_if_lt (tgt := 40) dX7_rest_10 (by decide) (fun c_10 => ?_) (fun c_10 => ?_)
      · replace h := h.1 c_10
        refine ex_bipush (v := (-2)) dX7_rest_40 (by decide) ?_
        exact ex_iret dX7_rest_42 rfl rfl rfl h
      · replace h := h.2 c_10
        refine ex_iload_n dX7_rest_13 rfl ?_
        refine ex_iconst (v := 2) dX7_rest_14 (by decide) ?_
        refine ex_icmp_gt (tgt := 40) dX7_rest_15 (by decide) (fun c_15 => ?_) (fun c_15 => ?_)
        · replace h := h.1 c_15
          refine ex_bipush (v := (-2)) dX7_rest_40 (by decide) ?_
          exact ex_iret dX7_rest_42 rfl rfl rfl h
        · replace h := h.2 c_15
          refine ex_iload_n dX7_rest_18 rfl ?_
          refine ex_if_lt (tgt := 40) dX7_rest_19 (by decide) (fun c_19 => ?_) (fun c_19 => ?_)
          · replace h := h.1 c_19
            refine ex_bipush (v := (-2)) dX7_rest_40 (by decide) ?_
            exact ex_iret dX7_rest_42 rfl rfl rfl h
          · replace h := h.2 c_19
            refine ex_iload_n dX7_rest_22 rfl ?_
            refine ex_iconst (v := 2) dX7_rest_23 (by decide) ?_
            refine ex_icmp_gt (tgt := 40) dX7_rest_24 (by decide) (fun c_24 => ?_) (fun c_24 => ?_)
            · replace h := h.1 c_24
              refine ex_bipush (v := (-2)) dX7_rest_40 (by decide) ?_
              exact ex_iret dX7_rest_42 rfl rfl rfl h
            · replace h := h.2 c_24
              refine ex_iload_n dX7_rest_27 rfl ?_
              refine ex_iconst (v := 2) dX7_rest_28 (by decide) ?_
              refine ex_icmp_ne (tgt := 43) dX7_rest_29 (by decide) (fun c_29 => ?_) (fun c_29 => ?_)
              · replace h := h.1 c_29
                exact t_X7_rest_43   Q   p1 p2 p3 M h
              · replace h := h.2 c_29
                refine ex_iload_n dX7_rest_32 rfl ?_
                refine ex_if_gt (tgt := 40) dX7_rest_33 (by decide) (fun c_33 => ?_) (fun c_33 => ?_)
                · replace h := h.1 c_33
                  refine ex_bipush (v := (-2)) dX7_rest_40 (by decide) ?_
                  exact ex_iret dX7_rest_42 rfl rfl rfl h
                · replace h := h.2 c_33
                  refine ex_iload_n dX7_rest_36 rfl ?_
                  refine ex_if_le (tgt := 43) dX7_rest_37 (by decide) (fun c_37 => ?_) (fun c_37 => ?_)
                  · replace h := h.1 c_37
                    exact t_X7_rest_43   Q   p1 p2 p3 M h
                  · replace h := h.2 c_37
                    refine ex_bipush (v := (-2)) dX7_rest_40 (by decide) ?_
                    exact ex_iret dX7_rest_42 rfl rfl rfl h
def w_X7_interval (p1 : Int32) (p2 : Int32) (M : Mem) (Q : Int32 → Mem → Prop) : Prop := ((p1 < 2) → (Q (-2) M)) ∧ (¬ (p1 < 2) → (((8 < p1) → (Q (-2) M)) ∧ (¬ (8 < p1) → (((p2 < 0) → (Q (-2) M)) ∧ (¬ (p2 < 0) → (((p2 ≤ 3) → ((vp_in 0 2) ∧ (∀ x2 : Int32, x2 = ((M 54 (Int32.toNatClampNeg 0)) - 1) → (((x2 < 0) → (True)) ∧ (¬ (x2 < 0) → ((vp_in x2 1200) ∧ (((0 ≤ (M 60 (Int32.toNatClampNeg x2))) → ((vp_in 0 2) ∧ ((¬ ((M 55 (Int32.toNatClampNeg 0)) = 2) → ((vp_in x2 1200) ∧ (True))) ∧ (((M 55 (Int32.toNatClampNeg 0)) = 2) → ((vp_in x2 1200) ∧ (True)))))) ∧ (¬ (0 ≤ (M 60 (Int32.toNatClampNeg x2))) → (True)))))) ∧ (∀ z7 : Int32, z7 = (if x2 < 0 then (-1) else (if 0 ≤ (M 60 (Int32.toNatClampNeg x2)) then (if (M 55 (Int32.toNatClampNeg 0)) = 2 then (((M 60 (Int32.toNatClampNeg x2)) + p1) - 1) else (((M 60 (Int32.toNatClampNeg x2)) - p1) + 1)) else (-1))) → ((z7 < 7) → (Q (-3) M)) ∧ (¬ (z7 < 7) → (((z7 ≤ 55) → ((vp_in x2 1200) ∧ ((¬ ((M 67 (Int32.toNatClampNeg x2)) = 4) → ((vp_in x2 1200) ∧ ((vp_in ((4 * x2) + (M 67 (Int32.toNatClampNeg x2))) 4800) ∧ (∀ M11 : Mem, M11 = (mset M 68 (Int32.toNatClampNeg ((4 * x2) + (M 67 (Int32.toNatClampNeg x2)))) (p1 + (16 * p2))) → (vp_in x2 1200) ∧ ((vp_in x2 1200) ∧ (∀ M14 : Mem, M14 = (mset M11 67 (Int32.toNatClampNeg x2) ((M11 67 (Int32.toNatClampNeg x2)) + 1)) → (vp_in x2 1200) ∧ (Q (M14 67 (Int32.toNatClampNeg x2)) M14))))))) ∧ (((M 67 (Int32.toNatClampNeg x2)) = 4) → (Q (-4) M))))) ∧ (¬ (z7 ≤ 55) → (Q (-3) M)))))))) ∧ (¬ (p2 ≤ 3) → (Q (-2) M))))))))
theorem t_X7_interval (p1 : Int32) (p2 : Int32) (M : Mem) (Q : Int32 → Mem → Prop) (h : w_X7_interval  p1 p2 M Q) : Ex true mX7_interval 78 78 0 0 0 [.ref 46, .int p1, .int p2, .null, .null] [] M Q := by
  unfold w_X7_interval at h
  refine ex_iload_n dX7_interval_0 rfl ?_
  refine ex_iconst (v := 2) dX7_interval_1 (by decide) ?_
  refine ex_icmp_lt (tgt := 20) dX7_interval_2 (by decide) (fun c_2 => ?_) (fun c_2 => ?_)
  · replace h := h.1 c_2
    refine ex_bipush (v := (-2)) dX7_interval_20 (by decide) ?_
    exact ex_iret dX7_interval_22 rfl rfl rfl h
  · replace h := h.2 c_2
    refine ex_iload_n dX7_interval_5 rfl ?_
    refine ex_bipush (v := 8) dX7_interval_6 (by decide) ?_
    refine ex_icmp_gt (tgt := 20) dX7_interval_8 (by decide) (fun c_8 => ?_) (fun c_8 => ?_)
    · replace h := h.1 c_8
      refine ex_bipush (v := (-2)) dX7_interval_20 (by decide) ?_
      exact ex_iret dX7_interval_22 rfl rfl rfl h
    · replace h := h.2 c_8
      refine ex_iload_n dX7_interval_11 rfl ?_
      refine ex_if_lt (tgt := 20) dX7_interval_12 (by decide) (fun c_12 => ?_) (fun c_12 => ?_)
      · replace h := h.1 c_12
        refine ex_bipush (v := (-2)) dX7_interval_20 (by decide) ?_
        exact ex_iret dX7_interval_22 rfl rfl rfl h
      · replace h := h.2 c_12
        refine ex_iload_n dX7_interval_15 rfl ?_
        refine ex_iconst (v := 3) dX7_interval_16 (by decide) ?_
        refine ex_icmp_le (tgt := 23) dX7_interval_17 (by decide) (fun c_17 => ?_) (fun c_17 => ?_)
        · replace h := h.1 c_17
          refine ex_aload_n dX7_interval_23 rfl ?_
          refine ex_getR (ci := 7) (j := 9) (v := 54) dX7_interval_24 (by decide) rfl rfl lk_X7_35 rfl (by decide) ?_
          refine ex_iconst (v := 0) dX7_interval_27 (by decide) ?_
          obtain ⟨b1, h⟩ := h
          refine ex_iald dX7_interval_28 (by decide) rfl b1 ?_
          refine ex_iconst (v := 1) dX7_interval_29 (by decide) ?_
          refine ex_isub dX7_interval_30 ?_
          refine ex_top (fun x2 ex2 => ?_)
          replace h := h x2 ex2
          refine ex_istore_n (L2 := [.ref 46, .int p1, .int p2, .int x2, .null]) dX7_interval_31 (by decide) rfl rfl ?_
          refine ex_iload_n dX7_interval_32 rfl ?_
          obtain ⟨khJ16, h⟩ := h
          have hJ16 : ∀ z7 : Int32, z7 = (if x2 < 0 then (-1) else (if 0 ≤ (M 60 (Int32.toNatClampNeg x2)) then (if (M 55 (Int32.toNatClampNeg 0)) = 2 then (((M 60 (Int32.toNatClampNeg x2)) + p1) - 1) else (((M 60 (Int32.toNatClampNeg x2)) - p1) + 1)) else (-1))) → Ex true mX7_interval 78 78 0 0 82 [.ref 46, .int p1, .int p2, .int x2, .null] [.int z7] M Q := by
            intro z7 ez7
            replace h := h z7 ez7
            refine ex_istore (L2 := [.ref 46, .int p1, .int p2, .int x2, .int z7]) dX7_interval_82 (by decide) rfl rfl ?_
            refine ex_iload dX7_interval_84 rfl ?_
            refine ex_bipush (v := 7) dX7_interval_86 (by decide) ?_
            refine ex_icmp_lt (tgt := 98) dX7_interval_88 (by decide) (fun c_88 => ?_) (fun c_88 => ?_)
            · replace h := h.1 c_88
              refine ex_bipush (v := (-3)) dX7_interval_98 (by decide) ?_
              exact ex_iret dX7_interval_100 rfl rfl rfl h
            · replace h := h.2 c_88
              refine ex_iload dX7_interval_91 rfl ?_
              refine ex_bipush (v := 55) dX7_interval_93 (by decide) ?_
              refine ex_icmp_le (tgt := 101) dX7_interval_95 (by decide) (fun c_95 => ?_) (fun c_95 => ?_)
              · replace h := h.1 c_95
                refine ex_aload_n dX7_interval_101 rfl ?_
                refine ex_getR (ci := 7) (j := 22) (v := 67) dX7_interval_102 (by decide) rfl rfl lk_X7_74 rfl (by decide) ?_
                refine ex_iload_n dX7_interval_105 rfl ?_
                obtain ⟨b8, h⟩ := h
                refine ex_iald dX7_interval_106 (by decide) rfl b8 ?_
                refine ex_iconst (v := 4) dX7_interval_107 (by decide) ?_
                refine ex_icmp_ne (tgt := 114) dX7_interval_108 (by decide) (fun c_108 => ?_) (fun c_108 => ?_)
                · replace h := h.1 c_108
                  refine ex_aload_n dX7_interval_114 rfl ?_
                  refine ex_getR (ci := 7) (j := 23) (v := 68) dX7_interval_115 (by decide) rfl rfl lk_X7_77 rfl (by decide) ?_
                  refine ex_iconst (v := 4) dX7_interval_118 (by decide) ?_
                  refine ex_iload_n dX7_interval_119 rfl ?_
                  refine ex_imul dX7_interval_120 ?_
                  refine ex_aload_n dX7_interval_121 rfl ?_
                  refine ex_getR (ci := 7) (j := 22) (v := 67) dX7_interval_122 (by decide) rfl rfl lk_X7_74 rfl (by decide) ?_
                  refine ex_iload_n dX7_interval_125 rfl ?_
                  obtain ⟨b9, h⟩ := h
                  refine ex_iald dX7_interval_126 (by decide) rfl b9 ?_
                  refine ex_iadd dX7_interval_127 ?_
                  refine ex_iload_n dX7_interval_128 rfl ?_
                  refine ex_bipush (v := 16) dX7_interval_129 (by decide) ?_
                  refine ex_iload_n dX7_interval_131 rfl ?_
                  refine ex_imul dX7_interval_132 ?_
                  refine ex_iadd dX7_interval_133 ?_
                  obtain ⟨b10, h⟩ := h
                  refine ex_iast dX7_interval_134 (by decide) rfl b10 ?_
                  refine ex_nmM (fun M11 eM11 => ?_)
                  replace h := h M11 eM11
                  refine ex_aload_n dX7_interval_135 rfl ?_
                  refine ex_getR (ci := 7) (j := 22) (v := 67) dX7_interval_136 (by decide) rfl rfl lk_X7_74 rfl (by decide) ?_
                  refine ex_iload_n dX7_interval_139 rfl ?_
                  refine ex_dup2 dX7_interval_140 rfl rfl ?_
                  obtain ⟨b12, h⟩ := h
                  refine ex_iald dX7_interval_141 (by decide) rfl b12 ?_
                  refine ex_iconst (v := 1) dX7_interval_142 (by decide) ?_
                  refine ex_iadd dX7_interval_143 ?_
                  obtain ⟨b13, h⟩ := h
                  refine ex_iast dX7_interval_144 (by decide) rfl b13 ?_
                  refine ex_nmM (fun M14 eM14 => ?_)
                  replace h := h M14 eM14
                  refine ex_aload_n dX7_interval_145 rfl ?_
                  refine ex_getR (ci := 7) (j := 22) (v := 67) dX7_interval_146 (by decide) rfl rfl lk_X7_74 rfl (by decide) ?_
                  refine ex_iload_n dX7_interval_149 rfl ?_
                  obtain ⟨b15, h⟩ := h
                  refine ex_iald dX7_interval_150 (by decide) rfl b15 ?_
                  exact ex_iret dX7_interval_151 rfl rfl rfl h
                · replace h := h.2 c_108
                  refine ex_bipush (v := (-4)) dX7_interval_111 (by decide) ?_
                  exact ex_iret dX7_interval_113 rfl rfl rfl h
              · replace h := h.2 c_95
                refine ex_bipush (v := (-3)) dX7_interval_98 (by decide) ?_
                exact ex_iret dX7_interval_100 rfl rfl rfl h
          refine ex_if_lt (tgt := 45) dX7_interval_33 (by decide) (fun c_33 => ?_) (fun c_33 => ?_)
          · replace h := khJ16.1 c_33
            refine ex_iconst (v := (-1)) dX7_interval_45 (by decide) ?_
            refine ex_goto (tgt := 82) dX7_interval_46 (by decide) ?_
            exact hJ16 _ (by rw [if_pos c_33])
          · replace h := khJ16.2 c_33
            refine ex_aload_n dX7_interval_36 rfl ?_
            refine ex_getR (ci := 7) (j := 15) (v := 60) dX7_interval_37 (by decide) rfl rfl lk_X7_53 rfl (by decide) ?_
            refine ex_iload_n dX7_interval_40 rfl ?_
            obtain ⟨b3, h⟩ := h
            refine ex_iald dX7_interval_41 (by decide) rfl b3 ?_
            refine ex_if_ge (tgt := 49) dX7_interval_42 (by decide) (fun c_42 => ?_) (fun c_42 => ?_)
            · replace h := h.1 c_42
              refine ex_aload_n dX7_interval_49 rfl ?_
              refine ex_getR (ci := 7) (j := 10) (v := 55) dX7_interval_50 (by decide) rfl rfl lk_X7_38 rfl (by decide) ?_
              refine ex_iconst (v := 0) dX7_interval_53 (by decide) ?_
              obtain ⟨b4, h⟩ := h
              refine ex_iald dX7_interval_54 (by decide) rfl b4 ?_
              refine ex_iconst (v := 2) dX7_interval_55 (by decide) ?_
              refine ex_icmp_ne (tgt := 72) dX7_interval_56 (by decide) (fun c_56 => ?_) (fun c_56 => ?_)
              · replace h := h.1 c_56
                refine ex_aload_n dX7_interval_72 rfl ?_
                refine ex_getR (ci := 7) (j := 15) (v := 60) dX7_interval_73 (by decide) rfl rfl lk_X7_53 rfl (by decide) ?_
                refine ex_iload_n dX7_interval_76 rfl ?_
                obtain ⟨b5, h⟩ := h
                refine ex_iald dX7_interval_77 (by decide) rfl b5 ?_
                refine ex_iload_n dX7_interval_78 rfl ?_
                refine ex_isub dX7_interval_79 ?_
                refine ex_iconst (v := 1) dX7_interval_80 (by decide) ?_
                refine ex_iadd dX7_interval_81 ?_
                exact hJ16 _ (by rw [if_neg c_33, if_pos c_42, if_neg c_56])
              · replace h := h.2 c_56
                refine ex_aload_n dX7_interval_59 rfl ?_
                refine ex_getR (ci := 7) (j := 15) (v := 60) dX7_interval_60 (by decide) rfl rfl lk_X7_53 rfl (by decide) ?_
                refine ex_iload_n dX7_interval_63 rfl ?_
                obtain ⟨b6, h⟩ := h
                refine ex_iald dX7_interval_64 (by decide) rfl b6 ?_
                refine ex_iload_n dX7_interval_65 rfl ?_
                refine ex_iadd dX7_interval_66 ?_
                refine ex_iconst (v := 1) dX7_interval_67 (by decide) ?_
                refine ex_isub dX7_interval_68 ?_
                refine ex_goto (tgt := 82) dX7_interval_69 (by decide) ?_
                exact hJ16 _ (by rw [if_neg c_33, if_pos c_42, if_pos c_56])
            · replace h := h.2 c_42
              refine ex_iconst (v := (-1)) dX7_interval_45 (by decide) ?_
              refine ex_goto (tgt := 82) dX7_interval_46 (by decide) ?_
              exact hJ16 _ (by rw [if_neg c_33, if_neg c_42])
        · replace h := h.2 c_17
          refine ex_bipush (v := (-2)) dX7_interval_20 (by decide) ?_
          exact ex_iret dX7_interval_22 rfl rfl rfl h
def w_X7_tie (p1 : Int32) (M : Mem) (Q : Int32 → Mem → Prop) : Prop := (vp_in 0 2) ∧ (∀ x2 : Int32, x2 = ((M 54 (Int32.toNatClampNeg 0)) - 1) → ((x2 < 0) → (Q (-3) M)) ∧ (¬ (x2 < 0) → ((vp_in x2 1200) ∧ (((0 ≤ (M 60 (Int32.toNatClampNeg x2))) → ((vp_in x2 1200) ∧ (∀ x5 : Int32, x5 = (M 65 (Int32.toNatClampNeg x2)) → ∀ z6 : Int32, z6 = (if p1 = 0 then 0 else 1) → (vp_in x2 1200) ∧ (∀ M8 : Mem, M8 = (mset M 65 (Int32.toNatClampNeg x2) z6) → Q x5 M8)))) ∧ (¬ (0 ≤ (M 60 (Int32.toNatClampNeg x2))) → (Q (-3) M))))))
theorem t_X7_tie (p1 : Int32) (M : Mem) (Q : Int32 → Mem → Prop) (h : w_X7_tie  p1 M Q) : Ex true mX7_tie 78 78 0 0 0 [.ref 46, .int p1, .null, .null] [] M Q := by
  unfold w_X7_tie at h
  refine ex_aload_n dX7_tie_0 rfl ?_
  refine ex_getR (ci := 7) (j := 9) (v := 54) dX7_tie_1 (by decide) rfl rfl lk_X7_35 rfl (by decide) ?_
  refine ex_iconst (v := 0) dX7_tie_4 (by decide) ?_
  obtain ⟨b1, h⟩ := h
  refine ex_iald dX7_tie_5 (by decide) rfl b1 ?_
  refine ex_iconst (v := 1) dX7_tie_6 (by decide) ?_
  refine ex_isub dX7_tie_7 ?_
  refine ex_top (fun x2 ex2 => ?_)
  replace h := h x2 ex2
  refine ex_istore_n (L2 := [.ref 46, .int p1, .int x2, .null]) dX7_tie_8 (by decide) rfl rfl ?_
  refine ex_iload_n dX7_tie_9 rfl ?_
  refine ex_if_lt (tgt := 22) dX7_tie_10 (by decide) (fun c_10 => ?_) (fun c_10 => ?_)
  · replace h := h.1 c_10
    refine ex_bipush (v := (-3)) dX7_tie_22 (by decide) ?_
    exact ex_iret dX7_tie_24 rfl rfl rfl h
  · replace h := h.2 c_10
    refine ex_aload_n dX7_tie_13 rfl ?_
    refine ex_getR (ci := 7) (j := 15) (v := 60) dX7_tie_14 (by decide) rfl rfl lk_X7_53 rfl (by decide) ?_
    refine ex_iload_n dX7_tie_17 rfl ?_
    obtain ⟨b3, h⟩ := h
    refine ex_iald dX7_tie_18 (by decide) rfl b3 ?_
    refine ex_if_ge (tgt := 25) dX7_tie_19 (by decide) (fun c_19 => ?_) (fun c_19 => ?_)
    · replace h := h.1 c_19
      refine ex_aload_n dX7_tie_25 rfl ?_
      refine ex_getR (ci := 7) (j := 20) (v := 65) dX7_tie_26 (by decide) rfl rfl lk_X7_68 rfl (by decide) ?_
      refine ex_iload_n dX7_tie_29 rfl ?_
      obtain ⟨b4, h⟩ := h
      refine ex_iald dX7_tie_30 (by decide) rfl b4 ?_
      refine ex_top (fun x5 ex5 => ?_)
      replace h := h x5 ex5
      refine ex_istore_n (L2 := [.ref 46, .int p1, .int x2, .int x5]) dX7_tie_31 (by decide) rfl rfl ?_
      refine ex_aload_n dX7_tie_32 rfl ?_
      refine ex_getR (ci := 7) (j := 20) (v := 65) dX7_tie_33 (by decide) rfl rfl lk_X7_68 rfl (by decide) ?_
      refine ex_iload_n dX7_tie_36 rfl ?_
      refine ex_iload_n dX7_tie_37 rfl ?_
      have hJ9 : ∀ z6 : Int32, z6 = (if p1 = 0 then 0 else 1) → Ex true mX7_tie 78 78 0 0 46 [.ref 46, .int p1, .int x2, .int x5] [.int z6, .int x2, .ref 65] M Q := by
        intro z6 ez6
        replace h := h z6 ez6
        obtain ⟨b7, h⟩ := h
        refine ex_iast dX7_tie_46 (by decide) rfl b7 ?_
        refine ex_nmM (fun M8 eM8 => ?_)
        replace h := h M8 eM8
        refine ex_iload_n dX7_tie_47 rfl ?_
        exact ex_iret dX7_tie_48 rfl rfl rfl h
      refine ex_if_eq (tgt := 45) dX7_tie_38 (by decide) (fun c_38 => ?_) (fun c_38 => ?_)
      ·
        refine ex_iconst (v := 0) dX7_tie_45 (by decide) ?_
        exact hJ9 _ (by rw [if_pos c_38])
      ·
        refine ex_iconst (v := 1) dX7_tie_41 (by decide) ?_
        refine ex_goto (tgt := 46) dX7_tie_42 (by decide) ?_
        exact hJ9 _ (by rw [if_neg c_38])
    · replace h := h.2 c_19
      refine ex_bipush (v := (-3)) dX7_tie_22 (by decide) ?_
      exact ex_iret dX7_tie_24 rfl rfl rfl h
def w_X7_slur (p1 : Int32) (p2 : Int32) (M : Mem) (Q : Int32 → Mem → Prop) : Prop := ((p1 < 0) → (Q (-1) M)) ∧ (¬ (p1 < 0) → ((vp_in 0 2) ∧ (((p1 < (M 54 (Int32.toNatClampNeg 0))) → ((vp_in p1 1200) ∧ (∀ x3 : Int32, x3 = (M 66 (Int32.toNatClampNeg p1)) → ∀ z4 : Int32, z4 = (if p2 = 0 then 0 else 1) → (vp_in p1 1200) ∧ (∀ M6 : Mem, M6 = (mset M 66 (Int32.toNatClampNeg p1) z4) → Q x3 M6)))) ∧ (¬ (p1 < (M 54 (Int32.toNatClampNeg 0))) → (Q (-1) M)))))
theorem t_X7_slur (p1 : Int32) (p2 : Int32) (M : Mem) (Q : Int32 → Mem → Prop) (h : w_X7_slur  p1 p2 M Q) : Ex true mX7_slur 78 78 0 0 0 [.ref 46, .int p1, .int p2, .null] [] M Q := by
  unfold w_X7_slur at h
  refine ex_iload_n dX7_slur_0 rfl ?_
  refine ex_if_lt (tgt := 14) dX7_slur_1 (by decide) (fun c_1 => ?_) (fun c_1 => ?_)
  · replace h := h.1 c_1
    refine ex_iconst (v := (-1)) dX7_slur_14 (by decide) ?_
    exact ex_iret dX7_slur_15 rfl rfl rfl h
  · replace h := h.2 c_1
    refine ex_iload_n dX7_slur_4 rfl ?_
    refine ex_aload_n dX7_slur_5 rfl ?_
    refine ex_getR (ci := 7) (j := 9) (v := 54) dX7_slur_6 (by decide) rfl rfl lk_X7_35 rfl (by decide) ?_
    refine ex_iconst (v := 0) dX7_slur_9 (by decide) ?_
    obtain ⟨b1, h⟩ := h
    refine ex_iald dX7_slur_10 (by decide) rfl b1 ?_
    refine ex_icmp_lt (tgt := 16) dX7_slur_11 (by decide) (fun c_11 => ?_) (fun c_11 => ?_)
    · replace h := h.1 c_11
      refine ex_aload_n dX7_slur_16 rfl ?_
      refine ex_getR (ci := 7) (j := 21) (v := 66) dX7_slur_17 (by decide) rfl rfl lk_X7_71 rfl (by decide) ?_
      refine ex_iload_n dX7_slur_20 rfl ?_
      obtain ⟨b2, h⟩ := h
      refine ex_iald dX7_slur_21 (by decide) rfl b2 ?_
      refine ex_top (fun x3 ex3 => ?_)
      replace h := h x3 ex3
      refine ex_istore_n (L2 := [.ref 46, .int p1, .int p2, .int x3]) dX7_slur_22 (by decide) rfl rfl ?_
      refine ex_aload_n dX7_slur_23 rfl ?_
      refine ex_getR (ci := 7) (j := 21) (v := 66) dX7_slur_24 (by decide) rfl rfl lk_X7_71 rfl (by decide) ?_
      refine ex_iload_n dX7_slur_27 rfl ?_
      refine ex_iload_n dX7_slur_28 rfl ?_
      have hJ7 : ∀ z4 : Int32, z4 = (if p2 = 0 then 0 else 1) → Ex true mX7_slur 78 78 0 0 37 [.ref 46, .int p1, .int p2, .int x3] [.int z4, .int p1, .ref 66] M Q := by
        intro z4 ez4
        replace h := h z4 ez4
        obtain ⟨b5, h⟩ := h
        refine ex_iast dX7_slur_37 (by decide) rfl b5 ?_
        refine ex_nmM (fun M6 eM6 => ?_)
        replace h := h M6 eM6
        refine ex_iload_n dX7_slur_38 rfl ?_
        exact ex_iret dX7_slur_39 rfl rfl rfl h
      refine ex_if_eq (tgt := 36) dX7_slur_29 (by decide) (fun c_29 => ?_) (fun c_29 => ?_)
      ·
        refine ex_iconst (v := 0) dX7_slur_36 (by decide) ?_
        exact hJ7 _ (by rw [if_pos c_29])
      ·
        refine ex_iconst (v := 1) dX7_slur_32 (by decide) ?_
        refine ex_goto (tgt := 37) dX7_slur_33 (by decide) ?_
        exact hJ7 _ (by rw [if_neg c_29])
    · replace h := h.2 c_11
      refine ex_iconst (v := (-1)) dX7_slur_14 (by decide) ?_
      exact ex_iret dX7_slur_15 rfl rfl rfl h
def w_X7_isVoice (p1 : Int32) (p2 : Int32) (M : Mem) (Q : Int32 → Mem → Prop) : Prop := (((p1 < 0) → (True)) ∧ (¬ (p1 < 0) → ((vp_in 0 2) ∧ ((((M 53 (Int32.toNatClampNeg 0)) ≤ p1) → (True)) ∧ (¬ ((M 53 (Int32.toNatClampNeg 0)) ≤ p1) → (((p2 < 0) → (True)) ∧ (¬ (p2 < 0) → ((vp_in p1 120) ∧ ((((M 57 (Int32.toNatClampNeg p1)) ≤ p2) → (True)) ∧ (¬ ((M 57 (Int32.toNatClampNeg p1)) ≤ p2) → (True))))))))))) ∧ (∀ z3 : Int32, z3 = (if p1 < 0 then 0 else (if (M 53 (Int32.toNatClampNeg 0)) ≤ p1 then 0 else (if p2 < 0 then 0 else (if (M 57 (Int32.toNatClampNeg p1)) ≤ p2 then 0 else 1)))) → (z3 = 0 ∨ z3 = 1) ∧ (Q z3 M))
theorem t_X7_isVoice (p1 : Int32) (p2 : Int32) (M : Mem) (Q : Int32 → Mem → Prop) (h : w_X7_isVoice  p1 p2 M Q) : Ex true mX7_isVoice 78 78 0 0 0 [.ref 46, .int p1, .int p2] [] M Q := by
  unfold w_X7_isVoice at h
  refine ex_iload_n dX7_isVoice_0 rfl ?_
  obtain ⟨khJ5, h⟩ := h
  have hJ5 : ∀ z3 : Int32, z3 = (if p1 < 0 then 0 else (if (M 53 (Int32.toNatClampNeg 0)) ≤ p1 then 0 else (if p2 < 0 then 0 else (if (M 57 (Int32.toNatClampNeg p1)) ≤ p2 then 0 else 1)))) → Ex true mX7_isVoice 78 78 0 0 33 [.ref 46, .int p1, .int p2] [.int z3] M Q := by
    intro z3 ez3
    replace h := h z3 ez3
    obtain ⟨b4, h⟩ := h
    exact ex_iret dX7_isVoice_33 rfl (nr01 b4) rfl h
  refine ex_if_lt (tgt := 32) dX7_isVoice_1 (by decide) (fun c_1 => ?_) (fun c_1 => ?_)
  · replace h := khJ5.1 c_1
    refine ex_iconst (v := 0) dX7_isVoice_32 (by decide) ?_
    exact hJ5 _ (by rw [if_pos c_1])
  · replace h := khJ5.2 c_1
    refine ex_iload_n dX7_isVoice_4 rfl ?_
    refine ex_aload_n dX7_isVoice_5 rfl ?_
    refine ex_getR (ci := 7) (j := 8) (v := 53) dX7_isVoice_6 (by decide) rfl rfl lk_X7_32 rfl (by decide) ?_
    refine ex_iconst (v := 0) dX7_isVoice_9 (by decide) ?_
    obtain ⟨b1, h⟩ := h
    refine ex_iald dX7_isVoice_10 (by decide) rfl b1 ?_
    refine ex_icmp_ge (tgt := 32) dX7_isVoice_11 (by decide) (fun c_11 => ?_) (fun c_11 => ?_)
    · replace h := h.1 c_11
      refine ex_iconst (v := 0) dX7_isVoice_32 (by decide) ?_
      exact hJ5 _ (by rw [if_neg c_1, if_pos c_11])
    · replace h := h.2 c_11
      refine ex_iload_n dX7_isVoice_14 rfl ?_
      refine ex_if_lt (tgt := 32) dX7_isVoice_15 (by decide) (fun c_15 => ?_) (fun c_15 => ?_)
      · replace h := h.1 c_15
        refine ex_iconst (v := 0) dX7_isVoice_32 (by decide) ?_
        exact hJ5 _ (by rw [if_neg c_1, if_neg c_11, if_pos c_15])
      · replace h := h.2 c_15
        refine ex_iload_n dX7_isVoice_18 rfl ?_
        refine ex_aload_n dX7_isVoice_19 rfl ?_
        refine ex_getR (ci := 7) (j := 12) (v := 57) dX7_isVoice_20 (by decide) rfl rfl lk_X7_44 rfl (by decide) ?_
        refine ex_iload_n dX7_isVoice_23 rfl ?_
        obtain ⟨b2, h⟩ := h
        refine ex_iald dX7_isVoice_24 (by decide) rfl b2 ?_
        refine ex_icmp_ge (tgt := 32) dX7_isVoice_25 (by decide) (fun c_25 => ?_) (fun c_25 => ?_)
        · replace h := h.1 c_25
          refine ex_iconst (v := 0) dX7_isVoice_32 (by decide) ?_
          exact hJ5 _ (by rw [if_neg c_1, if_neg c_11, if_neg c_15, if_pos c_25])
        · replace h := h.2 c_25
          refine ex_iconst (v := 1) dX7_isVoice_28 (by decide) ?_
          refine ex_goto (tgt := 33) dX7_isVoice_29 (by decide) ?_
          exact hJ5 _ (by rw [if_neg c_1, if_neg c_11, if_neg c_15, if_neg c_25])
def wb_X7_isSigned_100 (Q : Int32 → Mem → Prop) (B100 : Int32 → Int32 → Int32 → Int32 → Int32 → Int32 → Mem → Prop) (l1 : Int32) (l2 : Int32) (l3 : Int32) (l4 : Int32) (l5 : Int32) (l6 : Int32) (M : Mem) : Prop := ((l4 ≤ l6) → (∀ z8 : Int32, z8 = (if l5 = 0 then 1 else 0) → (z8 = 0 ∨ z8 = 1) ∧ (Q z8 M))) ∧ (¬ (l4 ≤ l6) → (((l5 = 0) → (∀ z11 : Int32, z11 = (if l5 = 0 then 1 else 0) → (z11 = 0 ∨ z11 = 1) ∧ (Q z11 M))) ∧ (¬ (l5 = 0) → ((vp_in l6 40) ∧ ((vp_in (l3 + l6) 1200) ∧ (∀ z16 : Int32, z16 = (if (M 71 (Int32.toNatClampNeg l6)) = (M 63 (Int32.toNatClampNeg (l3 + l6))) then 1 else 0) → ∀ x17 : Int32, x17 = l6 + 1 → B100 l1 l2 l3 l4 z16 x17 M))))))
def w_X7_isSigned_100 (Q : Int32 → Mem → Prop) : Nat → Int32 → Int32 → Int32 → Int32 → Int32 → Int32 → Mem → Prop
  | 0 => fun _ _ _ _ _ _ _ => False
  | k + 1 => wb_X7_isSigned_100  Q  (w_X7_isSigned_100  Q  k)
theorem t_X7_isSigned_100 (Q : Int32 → Mem → Prop) : ∀ (k : Nat) (l1 : Int32) (l2 : Int32) (l3 : Int32) (l4 : Int32) (l5 : Int32) (l6 : Int32) (M : Mem), w_X7_isSigned_100  Q  k l1 l2 l3 l4 l5 l6 M → Ex true mX7_isSigned 78 78 0 0 100 [.ref 46, .int l1, .int l2, .int l3, .int l4, .int l5, .int l6] [] M Q := by
  intro k
  induction k with
  | zero => intro l1 l2 l3 l4 l5 l6 M h; exact False.elim h
  | succ k hB100 =>
    intro l1 l2 l3 l4 l5 l6 M h
    replace h : wb_X7_isSigned_100  Q  (w_X7_isSigned_100  Q  k) l1 l2 l3 l4 l5 l6 M := h
    generalize w_X7_isSigned_100  Q  k = B100 at hB100 h
    unfold wb_X7_isSigned_100 at h
    refine ex_iload dX7_isSigned_100 rfl ?_
    refine ex_iload dX7_isSigned_102 rfl ?_
    refine ex_icmp_ge (tgt := 144) dX7_isSigned_104 (by decide) (fun c_104 => ?_) (fun c_104 => ?_)
    · replace h := h.1 c_104
      refine ex_iload dX7_isSigned_144 rfl ?_
      have hJ10 : ∀ z8 : Int32, z8 = (if l5 = 0 then 1 else 0) → Ex true mX7_isSigned 78 78 0 0 154 [.ref 46, .int l1, .int l2, .int l3, .int l4, .int l5, .int l6] [.int z8] M Q := by
        intro z8 ez8
        replace h := h z8 ez8
        obtain ⟨b9, h⟩ := h
        exact ex_iret dX7_isSigned_154 rfl (nr01 b9) rfl h
      refine ex_if_ne (tgt := 153) dX7_isSigned_146 (by decide) (fun c_146 => ?_) (fun c_146 => ?_)
      ·
        refine ex_iconst (v := 0) dX7_isSigned_153 (by decide) ?_
        exact hJ10 _ (by rw [if_neg c_146])
      ·
        refine ex_iconst (v := 1) dX7_isSigned_149 (by decide) ?_
        refine ex_goto (tgt := 154) dX7_isSigned_150 (by decide) ?_
        exact hJ10 _ (by rw [if_pos c_146])
    · replace h := h.2 c_104
      refine ex_iload dX7_isSigned_107 rfl ?_
      refine ex_if_eq (tgt := 144) dX7_isSigned_109 (by decide) (fun c_109 => ?_) (fun c_109 => ?_)
      · replace h := h.1 c_109
        refine ex_iload dX7_isSigned_144 rfl ?_
        have hJ13 : ∀ z11 : Int32, z11 = (if l5 = 0 then 1 else 0) → Ex true mX7_isSigned 78 78 0 0 154 [.ref 46, .int l1, .int l2, .int l3, .int l4, .int l5, .int l6] [.int z11] M Q := by
          intro z11 ez11
          replace h := h z11 ez11
          obtain ⟨b12, h⟩ := h
          exact ex_iret dX7_isSigned_154 rfl (nr01 b12) rfl h
        refine ex_if_ne (tgt := 153) dX7_isSigned_146 (by decide) (fun c_146 => ?_) (fun c_146 => ?_)
        ·
          refine ex_iconst (v := 0) dX7_isSigned_153 (by decide) ?_
          exact hJ13 _ (by rw [if_neg c_146])
        ·
          refine ex_iconst (v := 1) dX7_isSigned_149 (by decide) ?_
          refine ex_goto (tgt := 154) dX7_isSigned_150 (by decide) ?_
          exact hJ13 _ (by rw [if_pos c_146])
      · replace h := h.2 c_109
        refine ex_aload_n dX7_isSigned_112 rfl ?_
        refine ex_getR (ci := 7) (j := 31) (v := 71) dX7_isSigned_113 (by decide) rfl rfl lk_X7_87 rfl (by decide) ?_
        refine ex_iload dX7_isSigned_116 rfl ?_
        obtain ⟨b14, h⟩ := h
        refine ex_iald dX7_isSigned_118 (by decide) rfl b14 ?_
        refine ex_aload_n dX7_isSigned_119 rfl ?_
        refine ex_getR (ci := 7) (j := 18) (v := 63) dX7_isSigned_120 (by decide) rfl rfl lk_X7_62 rfl (by decide) ?_
        refine ex_iload_n dX7_isSigned_123 rfl ?_
        refine ex_iload dX7_isSigned_124 rfl ?_
        refine ex_iadd dX7_isSigned_126 ?_
        obtain ⟨b15, h⟩ := h
        refine ex_iald dX7_isSigned_127 (by decide) rfl b15 ?_
        have hJ18 : ∀ z16 : Int32, z16 = (if (M 71 (Int32.toNatClampNeg l6)) = (M 63 (Int32.toNatClampNeg (l3 + l6))) then 1 else 0) → Ex true mX7_isSigned 78 78 0 0 136 [.ref 46, .int l1, .int l2, .int l3, .int l4, .int l5, .int l6] [.int z16] M Q := by
          intro z16 ez16
          replace h := h z16 ez16
          refine ex_istore (L2 := [.ref 46, .int l1, .int l2, .int l3, .int l4, .int z16, .int l6]) dX7_isSigned_136 (by decide) rfl rfl ?_
          refine ex_iinc (v := l6 + 1) (L2 := [.ref 46, .int l1, .int l2, .int l3, .int l4, .int z16, .int (l6 + 1)]) dX7_isSigned_138 rfl rfl (by decide) rfl rfl ?_
          obtain ⟨x17, ex17⟩ : ∃ x17 : Int32, x17 = l6 + 1 := ⟨_, rfl⟩
          rw [← ex17]
          replace h := h x17 ex17
          refine ex_goto (tgt := 100) dX7_isSigned_141 (by decide) ?_
          exact hB100 l1 l2 l3 l4 z16 x17 M h
        refine ex_icmp_ne (tgt := 135) dX7_isSigned_128 (by decide) (fun c_128 => ?_) (fun c_128 => ?_)
        ·
          refine ex_iconst (v := 0) dX7_isSigned_135 (by decide) ?_
          exact hJ18 _ (by rw [if_neg c_128])
        ·
          refine ex_iconst (v := 1) dX7_isSigned_131 (by decide) ?_
          refine ex_goto (tgt := 136) dX7_isSigned_132 (by decide) ?_
          exact hJ18 _ (by rw [if_pos c_128])
def wb_X7_isSigned_67 (Q : Int32 → Mem → Prop) (B67 : Int32 → Int32 → Int32 → Int32 → Int32 → Mem → Prop) (l1 : Int32) (l2 : Int32) (l3 : Int32) (l4 : Int32) (l5 : Int32) (M : Mem) : Prop := ((l4 ≤ l5) → (w_X7_canBe l3 l4 M (fun v6 M7 => ∃ k, w_X7_isSigned_100  Q  k l1 l2 l3 l4 v6 0 M7))) ∧ (¬ (l4 ≤ l5) → ((vp_in l5 40) ∧ (∀ M20 : Mem, M20 = (mset M 70 (Int32.toNatClampNeg l5) (-1)) → ∀ x21 : Int32, x21 = l5 + 1 → B67 l1 l2 l3 l4 x21 M20)))
def w_X7_isSigned_67 (Q : Int32 → Mem → Prop) : Nat → Int32 → Int32 → Int32 → Int32 → Int32 → Mem → Prop
  | 0 => fun _ _ _ _ _ _ => False
  | k + 1 => wb_X7_isSigned_67  Q  (w_X7_isSigned_67  Q  k)
theorem t_X7_isSigned_67 (Q : Int32 → Mem → Prop) : ∀ (k : Nat) (l1 : Int32) (l2 : Int32) (l3 : Int32) (l4 : Int32) (l5 : Int32) (M : Mem), w_X7_isSigned_67  Q  k l1 l2 l3 l4 l5 M → Ex true mX7_isSigned 78 78 0 0 67 [.ref 46, .int l1, .int l2, .int l3, .int l4, .int l5, .null] [] M Q := by
  intro k
  induction k with
  | zero => intro l1 l2 l3 l4 l5 M h; exact False.elim h
  | succ k hB67 =>
    intro l1 l2 l3 l4 l5 M h
    replace h : wb_X7_isSigned_67  Q  (w_X7_isSigned_67  Q  k) l1 l2 l3 l4 l5 M := h
    generalize w_X7_isSigned_67  Q  k = B67 at hB67 h
    unfold wb_X7_isSigned_67 at h
    refine ex_iload dX7_isSigned_67 rfl ?_
    refine ex_iload dX7_isSigned_69 rfl ?_
    refine ex_icmp_ge (tgt := 88) dX7_isSigned_71 (by decide) (fun c_71 => ?_) (fun c_71 => ?_)
    · replace h := h.1 c_71
      refine ex_aload_n dX7_isSigned_88 rfl ?_
      refine ex_iload_n dX7_isSigned_89 rfl ?_
      refine ex_iload dX7_isSigned_90 rfl ?_
      refine ex_invV (k := 46) (ci := 7) (as := [.int l3, .int l4]) (L2 := [.ref 46, .int l3, .int l4, .null, .null, .null, .null, .null, .null, .null]) (st := []) 0 0 dX7_isSigned_92 lk_X7_196 sl_X7_canBe (rmK_of rfl) (by decide) rfl ⟨by decide, rfl⟩ rfl (Nat.le_of_ble_eq_true rfl) (Nat.le_of_ble_eq_true rfl) (t_X7_canBe   l3 l4 M _ h) (fun v6 M7 h => ?_)
      show Ex true mX7_isSigned 78 78 0 0 95 [.ref 46, .int l1, .int l2, .int l3, .int l4, .int l5, .null] [.int v6] M7 Q
      refine ex_istore (L2 := [.ref 46, .int l1, .int l2, .int l3, .int l4, .int v6, .null]) dX7_isSigned_95 (by decide) rfl rfl ?_
      refine ex_iconst (v := 0) dX7_isSigned_97 (by decide) ?_
      refine ex_istore (L2 := [.ref 46, .int l1, .int l2, .int l3, .int l4, .int v6, .int 0]) dX7_isSigned_98 (by decide) rfl rfl ?_
      obtain ⟨k_, h⟩ := h
      exact t_X7_isSigned_100   Q   k_ l1 l2 l3 l4 v6 0 M7 h
    · replace h := h.2 c_71
      refine ex_aload_n dX7_isSigned_74 rfl ?_
      refine ex_getR (ci := 7) (j := 30) (v := 70) dX7_isSigned_75 (by decide) rfl rfl lk_X7_84 rfl (by decide) ?_
      refine ex_iload dX7_isSigned_78 rfl ?_
      refine ex_iconst (v := (-1)) dX7_isSigned_80 (by decide) ?_
      obtain ⟨b19, h⟩ := h
      refine ex_iast dX7_isSigned_81 (by decide) rfl b19 ?_
      refine ex_nmM (fun M20 eM20 => ?_)
      replace h := h M20 eM20
      refine ex_iinc (v := l5 + 1) (L2 := [.ref 46, .int l1, .int l2, .int l3, .int l4, .int (l5 + 1), .null]) dX7_isSigned_82 rfl rfl (by decide) rfl rfl ?_
      obtain ⟨x21, ex21⟩ : ∃ x21 : Int32, x21 = l5 + 1 := ⟨_, rfl⟩
      rw [← ex21]
      replace h := h x21 ex21
      refine ex_goto (tgt := 67) dX7_isSigned_85 (by decide) ?_
      exact hB67 l1 l2 l3 l4 x21 M20 h
def w_X7_isSigned (p1 : Int32) (p2 : Int32) (M : Mem) (Q : Int32 → Mem → Prop) : Prop := w_X7_voiceFirst 0 p1 p2 M (fun v1 M2 => w_X7_voiceSize 0 p1 p2 M2 (fun v3 M4 => (vp_in v1 1200) ∧ ((¬ ((M4 63 (Int32.toNatClampNeg v1)) = 2) → ((¬ (v3 = 1) → (∃ k, w_X7_isSigned_67  Q  k p1 p2 v1 v3 0 M4)) ∧ ((v3 = 1) → ((vp_in v1 1200) ∧ (((0 ≤ (M4 60 (Int32.toNatClampNeg v1))) → (∃ k, w_X7_isSigned_67  Q  k p1 p2 v1 v3 0 M4)) ∧ (¬ (0 ≤ (M4 60 (Int32.toNatClampNeg v1))) → ((vp_in v1 1200) ∧ ((¬ ((M4 62 (Int32.toNatClampNeg v1)) = 0) → (∃ k, w_X7_isSigned_67  Q  k p1 p2 v1 v3 0 M4)) ∧ (((M4 62 (Int32.toNatClampNeg v1)) = 0) → ((vp_in v1 1200) ∧ ((¬ ((M4 64 (Int32.toNatClampNeg v1)) = 0) → (∃ k, w_X7_isSigned_67  Q  k p1 p2 v1 v3 0 M4)) ∧ (((M4 64 (Int32.toNatClampNeg v1)) = 0) → (Q 1 M4))))))))))))) ∧ (((M4 63 (Int32.toNatClampNeg v1)) = 2) → (Q 0 M4)))))
theorem t_X7_isSigned (p1 : Int32) (p2 : Int32) (M : Mem) (Q : Int32 → Mem → Prop) (h : w_X7_isSigned  p1 p2 M Q) : Ex true mX7_isSigned 78 78 0 0 0 [.ref 46, .int p1, .int p2, .null, .null, .null, .null] [] M Q := by
  unfold w_X7_isSigned at h
  refine ex_aload_n dX7_isSigned_0 rfl ?_
  refine ex_iconst (v := 0) dX7_isSigned_1 (by decide) ?_
  refine ex_iload_n dX7_isSigned_2 rfl ?_
  refine ex_iload_n dX7_isSigned_3 rfl ?_
  refine ex_invV (k := 46) (ci := 7) (as := [.int 0, .int p1, .int p2]) (L2 := [.ref 46, .int 0, .int p1, .int p2, .null, .null]) (st := []) 0 0 dX7_isSigned_4 lk_X7_218 sl_X7_voiceFirst (rmK_of rfl) (by decide) rfl ⟨by decide, rfl⟩ rfl (Nat.le_of_ble_eq_true rfl) (Nat.le_of_ble_eq_true rfl) (t_X7_voiceFirst   0 p1 p2 M _ h) (fun v1 M2 h => ?_)
  show Ex true mX7_isSigned 78 78 0 0 7 [.ref 46, .int p1, .int p2, .null, .null, .null, .null] [.int v1] M2 Q
  refine ex_istore_n (L2 := [.ref 46, .int p1, .int p2, .int v1, .null, .null, .null]) dX7_isSigned_7 (by decide) rfl rfl ?_
  refine ex_aload_n dX7_isSigned_8 rfl ?_
  refine ex_iconst (v := 0) dX7_isSigned_9 (by decide) ?_
  refine ex_iload_n dX7_isSigned_10 rfl ?_
  refine ex_iload_n dX7_isSigned_11 rfl ?_
  refine ex_invV (k := 46) (ci := 7) (as := [.int 0, .int p1, .int p2]) (L2 := [.ref 46, .int 0, .int p1, .int p2, .null, .null]) (st := []) 0 0 dX7_isSigned_12 lk_X7_215 sl_X7_voiceSize (rmK_of rfl) (by decide) rfl ⟨by decide, rfl⟩ rfl (Nat.le_of_ble_eq_true rfl) (Nat.le_of_ble_eq_true rfl) (t_X7_voiceSize   0 p1 p2 M2 _ h) (fun v3 M4 h => ?_)
  show Ex true mX7_isSigned 78 78 0 0 15 [.ref 46, .int p1, .int p2, .int v1, .null, .null, .null] [.int v3] M4 Q
  refine ex_istore (L2 := [.ref 46, .int p1, .int p2, .int v1, .int v3, .null, .null]) dX7_isSigned_15 (by decide) rfl rfl ?_
  refine ex_aload_n dX7_isSigned_17 rfl ?_
  refine ex_getR (ci := 7) (j := 18) (v := 63) dX7_isSigned_18 (by decide) rfl rfl lk_X7_62 rfl (by decide) ?_
  refine ex_iload_n dX7_isSigned_21 rfl ?_
  obtain ⟨b5, h⟩ := h
  refine ex_iald dX7_isSigned_22 (by decide) rfl b5 ?_
  refine ex_iconst (v := 2) dX7_isSigned_23 (by decide) ?_
  refine ex_icmp_ne (tgt := 29) dX7_isSigned_24 (by decide) (fun c_24 => ?_) (fun c_24 => ?_)
  · replace h := h.1 c_24
    refine ex_iload dX7_isSigned_29 rfl ?_
    refine ex_iconst (v := 1) dX7_isSigned_31 (by decide) ?_
    refine ex_icmp_ne (tgt := 64) dX7_isSigned_32 (by decide) (fun c_32 => ?_) (fun c_32 => ?_)
    · replace h := h.1 c_32
      refine ex_iconst (v := 0) dX7_isSigned_64 (by decide) ?_
      refine ex_istore (L2 := [.ref 46, .int p1, .int p2, .int v1, .int v3, .int 0, .null]) dX7_isSigned_65 (by decide) rfl rfl ?_
      obtain ⟨k_, h⟩ := h
      exact t_X7_isSigned_67   Q   k_ p1 p2 v1 v3 0 M4 h
    · replace h := h.2 c_32
      refine ex_aload_n dX7_isSigned_35 rfl ?_
      refine ex_getR (ci := 7) (j := 15) (v := 60) dX7_isSigned_36 (by decide) rfl rfl lk_X7_53 rfl (by decide) ?_
      refine ex_iload_n dX7_isSigned_39 rfl ?_
      obtain ⟨b22, h⟩ := h
      refine ex_iald dX7_isSigned_40 (by decide) rfl b22 ?_
      refine ex_if_ge (tgt := 64) dX7_isSigned_41 (by decide) (fun c_41 => ?_) (fun c_41 => ?_)
      · replace h := h.1 c_41
        refine ex_iconst (v := 0) dX7_isSigned_64 (by decide) ?_
        refine ex_istore (L2 := [.ref 46, .int p1, .int p2, .int v1, .int v3, .int 0, .null]) dX7_isSigned_65 (by decide) rfl rfl ?_
        obtain ⟨k_, h⟩ := h
        exact t_X7_isSigned_67   Q   k_ p1 p2 v1 v3 0 M4 h
      · replace h := h.2 c_41
        refine ex_aload_n dX7_isSigned_44 rfl ?_
        refine ex_getR (ci := 7) (j := 17) (v := 62) dX7_isSigned_45 (by decide) rfl rfl lk_X7_59 rfl (by decide) ?_
        refine ex_iload_n dX7_isSigned_48 rfl ?_
        obtain ⟨b23, h⟩ := h
        refine ex_iald dX7_isSigned_49 (by decide) rfl b23 ?_
        refine ex_if_ne (tgt := 64) dX7_isSigned_50 (by decide) (fun c_50 => ?_) (fun c_50 => ?_)
        · replace h := h.1 c_50
          refine ex_iconst (v := 0) dX7_isSigned_64 (by decide) ?_
          refine ex_istore (L2 := [.ref 46, .int p1, .int p2, .int v1, .int v3, .int 0, .null]) dX7_isSigned_65 (by decide) rfl rfl ?_
          obtain ⟨k_, h⟩ := h
          exact t_X7_isSigned_67   Q   k_ p1 p2 v1 v3 0 M4 h
        · replace h := h.2 c_50
          refine ex_aload_n dX7_isSigned_53 rfl ?_
          refine ex_getR (ci := 7) (j := 19) (v := 64) dX7_isSigned_54 (by decide) rfl rfl lk_X7_65 rfl (by decide) ?_
          refine ex_iload_n dX7_isSigned_57 rfl ?_
          obtain ⟨b24, h⟩ := h
          refine ex_iald dX7_isSigned_58 (by decide) rfl b24 ?_
          refine ex_if_ne (tgt := 64) dX7_isSigned_59 (by decide) (fun c_59 => ?_) (fun c_59 => ?_)
          · replace h := h.1 c_59
            refine ex_iconst (v := 0) dX7_isSigned_64 (by decide) ?_
            refine ex_istore (L2 := [.ref 46, .int p1, .int p2, .int v1, .int v3, .int 0, .null]) dX7_isSigned_65 (by decide) rfl rfl ?_
            obtain ⟨k_, h⟩ := h
            exact t_X7_isSigned_67   Q   k_ p1 p2 v1 v3 0 M4 h
          · replace h := h.2 c_59
            refine ex_iconst (v := 1) dX7_isSigned_62 (by decide) ?_
            exact ex_iret dX7_isSigned_63 rfl rfl rfl h
  · replace h := h.2 c_24
    refine ex_iconst (v := 0) dX7_isSigned_27 (by decide) ?_
    exact ex_iret dX7_isSigned_28 rfl rfl rfl h
def wb_X7_slurs_192 (Q : Int32 → Mem → Prop) (B2 : Int32 → Mem → Prop) (B192 : Int32 → Int32 → Int32 → Int32 → Mem → Prop) (l1 : Int32) (l2 : Int32) (l3 : Int32) (l4 : Int32) (M : Mem) : Prop := ((l2 ≤ l4) → ((vp_in l1 600) ∧ (∀ M9 : Mem, M9 = (mset M 72 (Int32.toNatClampNeg l1) 1) → (vp_in l2 600) ∧ (∀ M11 : Mem, M11 = (mset M9 73 (Int32.toNatClampNeg l2) 1) → ∀ x12 : Int32, x12 = (l2 + 1) → B2 x12 M11)))) ∧ (¬ (l2 ≤ l4) → ((vp_in l4 600) ∧ (∀ M14 : Mem, M14 = (mset M 74 (Int32.toNatClampNeg l4) 0) → ∀ x15 : Int32, x15 = l4 + 1 → B192 l1 l2 l3 x15 M14)))
def w_X7_slurs_192 (Q : Int32 → Mem → Prop) (B2 : Int32 → Mem → Prop) : Nat → Int32 → Int32 → Int32 → Int32 → Mem → Prop
  | 0 => fun _ _ _ _ _ => False
  | k + 1 => wb_X7_slurs_192  Q B2 (w_X7_slurs_192  Q B2 k)
theorem t_X7_slurs_192 (Q : Int32 → Mem → Prop) (B2 : Int32 → Mem → Prop) (hB2 : ∀ (l1 : Int32) (M : Mem), B2 l1 M → Ex true mX7_slurs 78 78 0 0 2 [.ref 46, .int l1, .null, .null, .null] [] M Q) : ∀ (k : Nat) (l1 : Int32) (l2 : Int32) (l3 : Int32) (l4 : Int32) (M : Mem), w_X7_slurs_192  Q B2 k l1 l2 l3 l4 M → Ex true mX7_slurs 78 78 0 0 192 [.ref 46, .int l1, .int l2, .int l3, .int l4] [] M Q := by
  intro k
  induction k with
  | zero => intro l1 l2 l3 l4 M h; exact False.elim h
  | succ k hB192 =>
    intro l1 l2 l3 l4 M h
    replace h : wb_X7_slurs_192  Q B2 (w_X7_slurs_192  Q B2 k) l1 l2 l3 l4 M := h
    generalize w_X7_slurs_192  Q B2 k = B192 at hB192 h
    unfold wb_X7_slurs_192 at h
    refine ex_iload dX7_slurs_192 rfl ?_
    refine ex_iload_n dX7_slurs_194 rfl ?_
    refine ex_icmp_ge (tgt := 212) dX7_slurs_195 (by decide) (fun c_195 => ?_) (fun c_195 => ?_)
    · replace h := h.1 c_195
      refine ex_aload_n dX7_slurs_212 rfl ?_
      refine ex_getR (ci := 7) (j := 32) (v := 72) dX7_slurs_213 (by decide) rfl rfl lk_X7_90 rfl (by decide) ?_
      refine ex_iload_n dX7_slurs_216 rfl ?_
      refine ex_iconst (v := 1) dX7_slurs_217 (by decide) ?_
      obtain ⟨b8, h⟩ := h
      refine ex_iast dX7_slurs_218 (by decide) rfl b8 ?_
      refine ex_nmM (fun M9 eM9 => ?_)
      replace h := h M9 eM9
      refine ex_aload_n dX7_slurs_219 rfl ?_
      refine ex_getR (ci := 7) (j := 33) (v := 73) dX7_slurs_220 (by decide) rfl rfl lk_X7_93 rfl (by decide) ?_
      refine ex_iload_n dX7_slurs_223 rfl ?_
      refine ex_iconst (v := 1) dX7_slurs_224 (by decide) ?_
      obtain ⟨b10, h⟩ := h
      refine ex_iast dX7_slurs_225 (by decide) rfl b10 ?_
      refine ex_nmM (fun M11 eM11 => ?_)
      replace h := h M11 eM11
      refine ex_iload_n dX7_slurs_226 rfl ?_
      refine ex_iconst (v := 1) dX7_slurs_227 (by decide) ?_
      refine ex_iadd dX7_slurs_228 ?_
      refine ex_top (fun x12 ex12 => ?_)
      replace h := h x12 ex12
      refine ex_istore_n (L2 := [.ref 46, .int x12, .int l2, .int l3, .int l4]) dX7_slurs_229 (by decide) rfl rfl ?_
      refine ex_goto (tgt := 2) dX7_slurs_230 (by decide) ?_
      refine ex_less (L2 := [.ref 46, .int x12, .null, .null, .null]) ?_ (by intro i v hi hn; match i, hi with | 0, hi => exact hi | 1, hi => exact hi | 2, hi => (cases hi; cases hn) | 3, hi => (cases hi; cases hn) | 4, hi => (cases hi; cases hn) | k + 5, hi => (exact absurd hi (by simp)))
      exact hB2 x12 M11 h
    · replace h := h.2 c_195
      refine ex_aload_n dX7_slurs_198 rfl ?_
      refine ex_getR (ci := 7) (j := 34) (v := 74) dX7_slurs_199 (by decide) rfl rfl lk_X7_96 rfl (by decide) ?_
      refine ex_iload dX7_slurs_202 rfl ?_
      refine ex_iconst (v := 0) dX7_slurs_204 (by decide) ?_
      obtain ⟨b13, h⟩ := h
      refine ex_iast dX7_slurs_205 (by decide) rfl b13 ?_
      refine ex_nmM (fun M14 eM14 => ?_)
      replace h := h M14 eM14
      refine ex_iinc (v := l4 + 1) (L2 := [.ref 46, .int l1, .int l2, .int l3, .int (l4 + 1)]) dX7_slurs_206 rfl rfl (by decide) rfl rfl ?_
      obtain ⟨x15, ex15⟩ : ∃ x15 : Int32, x15 = l4 + 1 := ⟨_, rfl⟩
      rw [← ex15]
      replace h := h x15 ex15
      refine ex_goto (tgt := 192) dX7_slurs_209 (by decide) ?_
      exact hB192 l1 l2 l3 x15 M14 h
def w_X7_slurs_168 (Q : Int32 → Mem → Prop) (B2 : Int32 → Mem → Prop) (l1 : Int32) (l2 : Int32) (l3 : Int32) (M : Mem) : Prop := (vp_in 0 2) ∧ ((((M 54 (Int32.toNatClampNeg 0)) ≤ l2) → (∀ x5 : Int32, x5 = (l2 + 1) → B2 x5 M)) ∧ (¬ ((M 54 (Int32.toNatClampNeg 0)) ≤ l2) → ((((l2 - l1) < 4) → (∀ x6 : Int32, x6 = (l2 + 1) → B2 x6 M)) ∧ (¬ ((l2 - l1) < 4) → ((¬ (l3 = 0) → (∀ x7 : Int32, x7 = (l2 + 1) → B2 x7 M)) ∧ ((l3 = 0) → (∃ k, w_X7_slurs_192  Q B2 k l1 l2 l3 l1 M)))))))
theorem t_X7_slurs_168 (Q : Int32 → Mem → Prop) (B2 : Int32 → Mem → Prop) (hB2 : ∀ (l1 : Int32) (M : Mem), B2 l1 M → Ex true mX7_slurs 78 78 0 0 2 [.ref 46, .int l1, .null, .null, .null] [] M Q) (l1 : Int32) (l2 : Int32) (l3 : Int32) (M : Mem) (h : w_X7_slurs_168  Q B2 l1 l2 l3 M) : Ex true mX7_slurs 78 78 0 0 168 [.ref 46, .int l1, .int l2, .int l3, .null] [] M Q := by
  unfold w_X7_slurs_168 at h
  refine ex_iload_n dX7_slurs_168 rfl ?_
  refine ex_aload_n dX7_slurs_169 rfl ?_
  refine ex_getR (ci := 7) (j := 9) (v := 54) dX7_slurs_170 (by decide) rfl rfl lk_X7_35 rfl (by decide) ?_
  refine ex_iconst (v := 0) dX7_slurs_173 (by decide) ?_
  obtain ⟨b4, h⟩ := h
  refine ex_iald dX7_slurs_174 (by decide) rfl b4 ?_
  refine ex_icmp_ge (tgt := 226) dX7_slurs_175 (by decide) (fun c_175 => ?_) (fun c_175 => ?_)
  · replace h := h.1 c_175
    refine ex_iload_n dX7_slurs_226 rfl ?_
    refine ex_iconst (v := 1) dX7_slurs_227 (by decide) ?_
    refine ex_iadd dX7_slurs_228 ?_
    refine ex_top (fun x5 ex5 => ?_)
    replace h := h x5 ex5
    refine ex_istore_n (L2 := [.ref 46, .int x5, .int l2, .int l3, .null]) dX7_slurs_229 (by decide) rfl rfl ?_
    refine ex_goto (tgt := 2) dX7_slurs_230 (by decide) ?_
    refine ex_less (L2 := [.ref 46, .int x5, .null, .null, .null]) ?_ (by intro i v hi hn; match i, hi with | 0, hi => exact hi | 1, hi => exact hi | 2, hi => (cases hi; cases hn) | 3, hi => (cases hi; cases hn) | 4, hi => exact hi | k + 5, hi => (exact absurd hi (by simp)))
    exact hB2 x5 M h
  · replace h := h.2 c_175
    refine ex_iload_n dX7_slurs_178 rfl ?_
    refine ex_iload_n dX7_slurs_179 rfl ?_
    refine ex_isub dX7_slurs_180 ?_
    refine ex_iconst (v := 4) dX7_slurs_181 (by decide) ?_
    refine ex_icmp_lt (tgt := 226) dX7_slurs_182 (by decide) (fun c_182 => ?_) (fun c_182 => ?_)
    · replace h := h.1 c_182
      refine ex_iload_n dX7_slurs_226 rfl ?_
      refine ex_iconst (v := 1) dX7_slurs_227 (by decide) ?_
      refine ex_iadd dX7_slurs_228 ?_
      refine ex_top (fun x6 ex6 => ?_)
      replace h := h x6 ex6
      refine ex_istore_n (L2 := [.ref 46, .int x6, .int l2, .int l3, .null]) dX7_slurs_229 (by decide) rfl rfl ?_
      refine ex_goto (tgt := 2) dX7_slurs_230 (by decide) ?_
      refine ex_less (L2 := [.ref 46, .int x6, .null, .null, .null]) ?_ (by intro i v hi hn; match i, hi with | 0, hi => exact hi | 1, hi => exact hi | 2, hi => (cases hi; cases hn) | 3, hi => (cases hi; cases hn) | 4, hi => exact hi | k + 5, hi => (exact absurd hi (by simp)))
      exact hB2 x6 M h
    · replace h := h.2 c_182
      refine ex_iload_n dX7_slurs_185 rfl ?_
      refine ex_if_ne (tgt := 226) dX7_slurs_186 (by decide) (fun c_186 => ?_) (fun c_186 => ?_)
      · replace h := h.1 c_186
        refine ex_iload_n dX7_slurs_226 rfl ?_
        refine ex_iconst (v := 1) dX7_slurs_227 (by decide) ?_
        refine ex_iadd dX7_slurs_228 ?_
        refine ex_top (fun x7 ex7 => ?_)
        replace h := h x7 ex7
        refine ex_istore_n (L2 := [.ref 46, .int x7, .int l2, .int l3, .null]) dX7_slurs_229 (by decide) rfl rfl ?_
        refine ex_goto (tgt := 2) dX7_slurs_230 (by decide) ?_
        refine ex_less (L2 := [.ref 46, .int x7, .null, .null, .null]) ?_ (by intro i v hi hn; match i, hi with | 0, hi => exact hi | 1, hi => exact hi | 2, hi => (cases hi; cases hn) | 3, hi => (cases hi; cases hn) | 4, hi => exact hi | k + 5, hi => (exact absurd hi (by simp)))
        exact hB2 x7 M h
      · replace h := h.2 c_186
        refine ex_iload_n dX7_slurs_189 rfl ?_
        refine ex_istore (L2 := [.ref 46, .int l1, .int l2, .int l3, .int l1]) dX7_slurs_190 (by decide) rfl rfl ?_
        obtain ⟨k_, h⟩ := h
        exact t_X7_slurs_192   Q B2 hB2 k_ l1 l2 l3 l1 M h
def w_X7_slurs_137 (Q : Int32 → Mem → Prop) (B2 : Int32 → Mem → Prop) (l1 : Int32) (l2 : Int32) (l3 : Int32) (M : Mem) : Prop := (vp_in 0 2) ∧ ((((M 54 (Int32.toNatClampNeg 0)) ≤ l2) → (w_X7_slurs_168  Q B2 l1 l2 l3 M)) ∧ (¬ ((M 54 (Int32.toNatClampNeg 0)) ≤ l2) → ((vp_in l2 600) ∧ (∀ M17 : Mem, M17 = (mset M 72 (Int32.toNatClampNeg l2) 0) → (vp_in l2 600) ∧ (∀ M19 : Mem, M19 = (mset M17 73 (Int32.toNatClampNeg l2) 0) → (vp_in l2 600) ∧ (∀ M21 : Mem, M21 = (mset M19 74 (Int32.toNatClampNeg l2) 0) → w_X7_slurs_168  Q B2 l1 l2 l3 M21))))))
theorem t_X7_slurs_137 (Q : Int32 → Mem → Prop) (B2 : Int32 → Mem → Prop) (hB2 : ∀ (l1 : Int32) (M : Mem), B2 l1 M → Ex true mX7_slurs 78 78 0 0 2 [.ref 46, .int l1, .null, .null, .null] [] M Q) (l1 : Int32) (l2 : Int32) (l3 : Int32) (M : Mem) (h : w_X7_slurs_137  Q B2 l1 l2 l3 M) : Ex true mX7_slurs 78 78 0 0 137 [.ref 46, .int l1, .int l2, .int l3, .null] [] M Q := by
  unfold w_X7_slurs_137 at h
  refine ex_iload_n dX7_slurs_137 rfl ?_
  refine ex_aload_n dX7_slurs_138 rfl ?_
  refine ex_getR (ci := 7) (j := 9) (v := 54) dX7_slurs_139 (by decide) rfl rfl lk_X7_35 rfl (by decide) ?_
  refine ex_iconst (v := 0) dX7_slurs_142 (by decide) ?_
  obtain ⟨b3, h⟩ := h
  refine ex_iald dX7_slurs_143 (by decide) rfl b3 ?_
  refine ex_icmp_ge (tgt := 168) dX7_slurs_144 (by decide) (fun c_144 => ?_) (fun c_144 => ?_)
  · replace h := h.1 c_144
    exact t_X7_slurs_168   Q B2 hB2 l1 l2 l3 M h
  · replace h := h.2 c_144
    refine ex_aload_n dX7_slurs_147 rfl ?_
    refine ex_getR (ci := 7) (j := 32) (v := 72) dX7_slurs_148 (by decide) rfl rfl lk_X7_90 rfl (by decide) ?_
    refine ex_iload_n dX7_slurs_151 rfl ?_
    refine ex_iconst (v := 0) dX7_slurs_152 (by decide) ?_
    obtain ⟨b16, h⟩ := h
    refine ex_iast dX7_slurs_153 (by decide) rfl b16 ?_
    refine ex_nmM (fun M17 eM17 => ?_)
    replace h := h M17 eM17
    refine ex_aload_n dX7_slurs_154 rfl ?_
    refine ex_getR (ci := 7) (j := 33) (v := 73) dX7_slurs_155 (by decide) rfl rfl lk_X7_93 rfl (by decide) ?_
    refine ex_iload_n dX7_slurs_158 rfl ?_
    refine ex_iconst (v := 0) dX7_slurs_159 (by decide) ?_
    obtain ⟨b18, h⟩ := h
    refine ex_iast dX7_slurs_160 (by decide) rfl b18 ?_
    refine ex_nmM (fun M19 eM19 => ?_)
    replace h := h M19 eM19
    refine ex_aload_n dX7_slurs_161 rfl ?_
    refine ex_getR (ci := 7) (j := 34) (v := 74) dX7_slurs_162 (by decide) rfl rfl lk_X7_96 rfl (by decide) ?_
    refine ex_iload_n dX7_slurs_165 rfl ?_
    refine ex_iconst (v := 0) dX7_slurs_166 (by decide) ?_
    obtain ⟨b20, h⟩ := h
    refine ex_iast dX7_slurs_167 (by decide) rfl b20 ?_
    refine ex_nmM (fun M21 eM21 => ?_)
    replace h := h M21 eM21
    exact t_X7_slurs_168   Q B2 hB2 l1 l2 l3 M21 h
def wb_X7_slurs_16 (Q : Int32 → Mem → Prop) (B2 : Int32 → Mem → Prop) (B16 : Int32 → Int32 → Int32 → Mem → Prop) (l1 : Int32) (l2 : Int32) (l3 : Int32) (M : Mem) : Prop := (vp_in 0 2) ∧ ((((M 54 (Int32.toNatClampNeg 0)) ≤ l2) → (w_X7_slurs_137  Q B2 l1 l2 l3 M)) ∧ (¬ ((M 54 (Int32.toNatClampNeg 0)) ≤ l2) → ((vp_in l2 1200) ∧ ((¬ ((M 66 (Int32.toNatClampNeg l2)) = 1) → (w_X7_slurs_137  Q B2 l1 l2 l3 M)) ∧ (((M 66 (Int32.toNatClampNeg l2)) = 1) → ((vp_in l2 600) ∧ (∀ M24 : Mem, M24 = (mset M 72 (Int32.toNatClampNeg l2) 0) → (vp_in l2 600) ∧ (∀ M26 : Mem, M26 = (mset M24 73 (Int32.toNatClampNeg l2) 0) → (vp_in l2 600) ∧ (∀ M28 : Mem, M28 = (mset M26 74 (Int32.toNatClampNeg l2) 1) → ∀ x29 : Int32, x29 = l2 + 1 → (vp_in 0 2) ∧ (((((M28 54 (Int32.toNatClampNeg 0)) ≤ x29) → (True)) ∧ (¬ ((M28 54 (Int32.toNatClampNeg 0)) ≤ x29) → ((vp_in x29 1200) ∧ ((vp_in (x29 - 1) 1200) ∧ ((¬ ((M28 58 (Int32.toNatClampNeg x29)) = (M28 58 (Int32.toNatClampNeg (x29 - 1)))) → ((vp_in x29 1200) ∧ ((vp_in (x29 - 1) 1200) ∧ ((((M28 58 (Int32.toNatClampNeg x29)) ≤ ((M28 58 (Int32.toNatClampNeg (x29 - 1))) + 1)) → (True)) ∧ (¬ ((M28 58 (Int32.toNatClampNeg x29)) ≤ ((M28 58 (Int32.toNatClampNeg (x29 - 1))) + 1)) → (True)))))) ∧ (((M28 58 (Int32.toNatClampNeg x29)) = (M28 58 (Int32.toNatClampNeg (x29 - 1)))) → ((vp_in x29 1200) ∧ ((vp_in (x29 - 1) 1200) ∧ ((((M28 59 (Int32.toNatClampNeg x29)) = (M28 59 (Int32.toNatClampNeg (x29 - 1)))) → (True)) ∧ (¬ ((M28 59 (Int32.toNatClampNeg x29)) = (M28 59 (Int32.toNatClampNeg (x29 - 1)))) → (True))))))))))) ∧ (∀ z37 : Int32, z37 = (if (M28 54 (Int32.toNatClampNeg 0)) ≤ x29 then 0 else (if (M28 58 (Int32.toNatClampNeg x29)) = (M28 58 (Int32.toNatClampNeg (x29 - 1))) then (if (M28 59 (Int32.toNatClampNeg x29)) = (M28 59 (Int32.toNatClampNeg (x29 - 1))) then 0 else 1) else (if (M28 58 (Int32.toNatClampNeg x29)) ≤ ((M28 58 (Int32.toNatClampNeg (x29 - 1))) + 1) then 0 else 1))) → ∀ x38 : Int32, x38 = (l3 ||| z37) → B16 l1 x29 x38 M28)))))))))))
def w_X7_slurs_16 (Q : Int32 → Mem → Prop) (B2 : Int32 → Mem → Prop) : Nat → Int32 → Int32 → Int32 → Mem → Prop
  | 0 => fun _ _ _ _ => False
  | k + 1 => wb_X7_slurs_16  Q B2 (w_X7_slurs_16  Q B2 k)
theorem t_X7_slurs_16 (Q : Int32 → Mem → Prop) (B2 : Int32 → Mem → Prop) (hB2 : ∀ (l1 : Int32) (M : Mem), B2 l1 M → Ex true mX7_slurs 78 78 0 0 2 [.ref 46, .int l1, .null, .null, .null] [] M Q) : ∀ (k : Nat) (l1 : Int32) (l2 : Int32) (l3 : Int32) (M : Mem), w_X7_slurs_16  Q B2 k l1 l2 l3 M → Ex true mX7_slurs 78 78 0 0 16 [.ref 46, .int l1, .int l2, .int l3, .null] [] M Q := by
  intro k
  induction k with
  | zero => intro l1 l2 l3 M h; exact False.elim h
  | succ k hB16 =>
    intro l1 l2 l3 M h
    replace h : wb_X7_slurs_16  Q B2 (w_X7_slurs_16  Q B2 k) l1 l2 l3 M := h
    generalize w_X7_slurs_16  Q B2 k = B16 at hB16 h
    unfold wb_X7_slurs_16 at h
    refine ex_iload_n dX7_slurs_16 rfl ?_
    refine ex_aload_n dX7_slurs_17 rfl ?_
    refine ex_getR (ci := 7) (j := 9) (v := 54) dX7_slurs_18 (by decide) rfl rfl lk_X7_35 rfl (by decide) ?_
    refine ex_iconst (v := 0) dX7_slurs_21 (by decide) ?_
    obtain ⟨b2, h⟩ := h
    refine ex_iald dX7_slurs_22 (by decide) rfl b2 ?_
    refine ex_icmp_ge (tgt := 137) dX7_slurs_23 (by decide) (fun c_23 => ?_) (fun c_23 => ?_)
    · replace h := h.1 c_23
      exact t_X7_slurs_137   Q B2 hB2 l1 l2 l3 M h
    · replace h := h.2 c_23
      refine ex_aload_n dX7_slurs_26 rfl ?_
      refine ex_getR (ci := 7) (j := 21) (v := 66) dX7_slurs_27 (by decide) rfl rfl lk_X7_71 rfl (by decide) ?_
      refine ex_iload_n dX7_slurs_30 rfl ?_
      obtain ⟨b22, h⟩ := h
      refine ex_iald dX7_slurs_31 (by decide) rfl b22 ?_
      refine ex_iconst (v := 1) dX7_slurs_32 (by decide) ?_
      refine ex_icmp_ne (tgt := 137) dX7_slurs_33 (by decide) (fun c_33 => ?_) (fun c_33 => ?_)
      · replace h := h.1 c_33
        exact t_X7_slurs_137   Q B2 hB2 l1 l2 l3 M h
      · replace h := h.2 c_33
        refine ex_aload_n dX7_slurs_36 rfl ?_
        refine ex_getR (ci := 7) (j := 32) (v := 72) dX7_slurs_37 (by decide) rfl rfl lk_X7_90 rfl (by decide) ?_
        refine ex_iload_n dX7_slurs_40 rfl ?_
        refine ex_iconst (v := 0) dX7_slurs_41 (by decide) ?_
        obtain ⟨b23, h⟩ := h
        refine ex_iast dX7_slurs_42 (by decide) rfl b23 ?_
        refine ex_nmM (fun M24 eM24 => ?_)
        replace h := h M24 eM24
        refine ex_aload_n dX7_slurs_43 rfl ?_
        refine ex_getR (ci := 7) (j := 33) (v := 73) dX7_slurs_44 (by decide) rfl rfl lk_X7_93 rfl (by decide) ?_
        refine ex_iload_n dX7_slurs_47 rfl ?_
        refine ex_iconst (v := 0) dX7_slurs_48 (by decide) ?_
        obtain ⟨b25, h⟩ := h
        refine ex_iast dX7_slurs_49 (by decide) rfl b25 ?_
        refine ex_nmM (fun M26 eM26 => ?_)
        replace h := h M26 eM26
        refine ex_aload_n dX7_slurs_50 rfl ?_
        refine ex_getR (ci := 7) (j := 34) (v := 74) dX7_slurs_51 (by decide) rfl rfl lk_X7_96 rfl (by decide) ?_
        refine ex_iload_n dX7_slurs_54 rfl ?_
        refine ex_iconst (v := 1) dX7_slurs_55 (by decide) ?_
        obtain ⟨b27, h⟩ := h
        refine ex_iast dX7_slurs_56 (by decide) rfl b27 ?_
        refine ex_nmM (fun M28 eM28 => ?_)
        replace h := h M28 eM28
        refine ex_iinc (v := l2 + 1) (L2 := [.ref 46, .int l1, .int (l2 + 1), .int l3, .null]) dX7_slurs_57 rfl rfl (by decide) rfl rfl ?_
        obtain ⟨x29, ex29⟩ : ∃ x29 : Int32, x29 = l2 + 1 := ⟨_, rfl⟩
        rw [← ex29]
        replace h := h x29 ex29
        refine ex_iload_n dX7_slurs_60 rfl ?_
        refine ex_iload_n dX7_slurs_61 rfl ?_
        refine ex_aload_n dX7_slurs_62 rfl ?_
        refine ex_getR (ci := 7) (j := 9) (v := 54) dX7_slurs_63 (by decide) rfl rfl lk_X7_35 rfl (by decide) ?_
        refine ex_iconst (v := 0) dX7_slurs_66 (by decide) ?_
        obtain ⟨b30, h⟩ := h
        refine ex_iald dX7_slurs_67 (by decide) rfl b30 ?_
        obtain ⟨khJ39, h⟩ := h
        have hJ39 : ∀ z37 : Int32, z37 = (if (M28 54 (Int32.toNatClampNeg 0)) ≤ x29 then 0 else (if (M28 58 (Int32.toNatClampNeg x29)) = (M28 58 (Int32.toNatClampNeg (x29 - 1))) then (if (M28 59 (Int32.toNatClampNeg x29)) = (M28 59 (Int32.toNatClampNeg (x29 - 1))) then 0 else 1) else (if (M28 58 (Int32.toNatClampNeg x29)) ≤ ((M28 58 (Int32.toNatClampNeg (x29 - 1))) + 1) then 0 else 1))) → Ex true mX7_slurs 78 78 0 0 132 [.ref 46, .int l1, .int x29, .int l3, .null] [.int z37, .int l3] M28 Q := by
          intro z37 ez37
          replace h := h z37 ez37
          refine ex_ior dX7_slurs_132 ?_
          refine ex_top (fun x38 ex38 => ?_)
          replace h := h x38 ex38
          refine ex_istore_n (L2 := [.ref 46, .int l1, .int x29, .int x38, .null]) dX7_slurs_133 (by decide) rfl rfl ?_
          refine ex_goto (tgt := 16) dX7_slurs_134 (by decide) ?_
          exact hB16 l1 x29 x38 M28 h
        refine ex_icmp_ge (tgt := 131) dX7_slurs_68 (by decide) (fun c_68 => ?_) (fun c_68 => ?_)
        · replace h := khJ39.1 c_68
          refine ex_iconst (v := 0) dX7_slurs_131 (by decide) ?_
          exact hJ39 _ (by rw [if_pos c_68])
        · replace h := khJ39.2 c_68
          refine ex_aload_n dX7_slurs_71 rfl ?_
          refine ex_getR (ci := 7) (j := 13) (v := 58) dX7_slurs_72 (by decide) rfl rfl lk_X7_47 rfl (by decide) ?_
          refine ex_iload_n dX7_slurs_75 rfl ?_
          obtain ⟨b31, h⟩ := h
          refine ex_iald dX7_slurs_76 (by decide) rfl b31 ?_
          refine ex_aload_n dX7_slurs_77 rfl ?_
          refine ex_getR (ci := 7) (j := 13) (v := 58) dX7_slurs_78 (by decide) rfl rfl lk_X7_47 rfl (by decide) ?_
          refine ex_iload_n dX7_slurs_81 rfl ?_
          refine ex_iconst (v := 1) dX7_slurs_82 (by decide) ?_
          refine ex_isub dX7_slurs_83 ?_
          obtain ⟨b32, h⟩ := h
          refine ex_iald dX7_slurs_84 (by decide) rfl b32 ?_
          refine ex_icmp_ne (tgt := 108) dX7_slurs_85 (by decide) (fun c_85 => ?_) (fun c_85 => ?_)
          · replace h := h.1 c_85
            refine ex_aload_n dX7_slurs_108 rfl ?_
            refine ex_getR (ci := 7) (j := 13) (v := 58) dX7_slurs_109 (by decide) rfl rfl lk_X7_47 rfl (by decide) ?_
            refine ex_iload_n dX7_slurs_112 rfl ?_
            obtain ⟨b33, h⟩ := h
            refine ex_iald dX7_slurs_113 (by decide) rfl b33 ?_
            refine ex_aload_n dX7_slurs_114 rfl ?_
            refine ex_getR (ci := 7) (j := 13) (v := 58) dX7_slurs_115 (by decide) rfl rfl lk_X7_47 rfl (by decide) ?_
            refine ex_iload_n dX7_slurs_118 rfl ?_
            refine ex_iconst (v := 1) dX7_slurs_119 (by decide) ?_
            refine ex_isub dX7_slurs_120 ?_
            obtain ⟨b34, h⟩ := h
            refine ex_iald dX7_slurs_121 (by decide) rfl b34 ?_
            refine ex_iconst (v := 1) dX7_slurs_122 (by decide) ?_
            refine ex_iadd dX7_slurs_123 ?_
            refine ex_icmp_le (tgt := 131) dX7_slurs_124 (by decide) (fun c_124 => ?_) (fun c_124 => ?_)
            · replace h := h.1 c_124
              refine ex_iconst (v := 0) dX7_slurs_131 (by decide) ?_
              exact hJ39 _ (by rw [if_neg c_68, if_neg c_85, if_pos c_124])
            · replace h := h.2 c_124
              refine ex_iconst (v := 1) dX7_slurs_127 (by decide) ?_
              refine ex_goto (tgt := 132) dX7_slurs_128 (by decide) ?_
              exact hJ39 _ (by rw [if_neg c_68, if_neg c_85, if_neg c_124])
          · replace h := h.2 c_85
            refine ex_aload_n dX7_slurs_88 rfl ?_
            refine ex_getR (ci := 7) (j := 14) (v := 59) dX7_slurs_89 (by decide) rfl rfl lk_X7_50 rfl (by decide) ?_
            refine ex_iload_n dX7_slurs_92 rfl ?_
            obtain ⟨b35, h⟩ := h
            refine ex_iald dX7_slurs_93 (by decide) rfl b35 ?_
            refine ex_aload_n dX7_slurs_94 rfl ?_
            refine ex_getR (ci := 7) (j := 14) (v := 59) dX7_slurs_95 (by decide) rfl rfl lk_X7_50 rfl (by decide) ?_
            refine ex_iload_n dX7_slurs_98 rfl ?_
            refine ex_iconst (v := 1) dX7_slurs_99 (by decide) ?_
            refine ex_isub dX7_slurs_100 ?_
            obtain ⟨b36, h⟩ := h
            refine ex_iald dX7_slurs_101 (by decide) rfl b36 ?_
            refine ex_icmp_eq (tgt := 131) dX7_slurs_102 (by decide) (fun c_102 => ?_) (fun c_102 => ?_)
            · replace h := h.1 c_102
              refine ex_iconst (v := 0) dX7_slurs_131 (by decide) ?_
              exact hJ39 _ (by rw [if_neg c_68, if_pos c_85, if_pos c_102])
            · replace h := h.2 c_102
              refine ex_goto (tgt := 127) dX7_slurs_105 (by decide) ?_
              refine ex_iconst (v := 1) dX7_slurs_127 (by decide) ?_
              refine ex_goto (tgt := 132) dX7_slurs_128 (by decide) ?_
              exact hJ39 _ (by rw [if_neg c_68, if_pos c_85, if_neg c_102])
def wb_X7_slurs_2 (Q : Int32 → Mem → Prop) (B2 : Int32 → Mem → Prop) (l1 : Int32) (M : Mem) : Prop := (vp_in 0 2) ∧ ((((M 54 (Int32.toNatClampNeg 0)) ≤ l1) → (Q 0 M)) ∧ (¬ ((M 54 (Int32.toNatClampNeg 0)) ≤ l1) → (∃ k, w_X7_slurs_16  Q B2 k l1 l1 0 M)))
def w_X7_slurs_2 (Q : Int32 → Mem → Prop) : Nat → Int32 → Mem → Prop
  | 0 => fun _ _ => False
  | k + 1 => wb_X7_slurs_2  Q  (w_X7_slurs_2  Q  k)
theorem t_X7_slurs_2 (Q : Int32 → Mem → Prop) : ∀ (k : Nat) (l1 : Int32) (M : Mem), w_X7_slurs_2  Q  k l1 M → Ex true mX7_slurs 78 78 0 0 2 [.ref 46, .int l1, .null, .null, .null] [] M Q := by
  intro k
  induction k with
  | zero => intro l1 M h; exact False.elim h
  | succ k hB2 =>
    intro l1 M h
    replace h : wb_X7_slurs_2  Q  (w_X7_slurs_2  Q  k) l1 M := h
    generalize w_X7_slurs_2  Q  k = B2 at hB2 h
    unfold wb_X7_slurs_2 at h
    refine ex_iload_n dX7_slurs_2 rfl ?_
    refine ex_aload_n dX7_slurs_3 rfl ?_
    refine ex_getR (ci := 7) (j := 9) (v := 54) dX7_slurs_4 (by decide) rfl rfl lk_X7_35 rfl (by decide) ?_
    refine ex_iconst (v := 0) dX7_slurs_7 (by decide) ?_
    obtain ⟨b1, h⟩ := h
    refine ex_iald dX7_slurs_8 (by decide) rfl b1 ?_
    refine ex_icmp_ge (tgt := 233) dX7_slurs_9 (by decide) (fun c_9 => ?_) (fun c_9 => ?_)
    · replace h := h.1 c_9
      exact ex_vret dX7_slurs_233 rfl rfl h
    · replace h := h.2 c_9
      refine ex_iload_n dX7_slurs_12 rfl ?_
      refine ex_istore_n (L2 := [.ref 46, .int l1, .int l1, .null, .null]) dX7_slurs_13 (by decide) rfl rfl ?_
      refine ex_iconst (v := 0) dX7_slurs_14 (by decide) ?_
      refine ex_istore_n (L2 := [.ref 46, .int l1, .int l1, .int 0, .null]) dX7_slurs_15 (by decide) rfl rfl ?_
      obtain ⟨k_, h⟩ := h
      exact t_X7_slurs_16   Q B2 hB2 k_ l1 l1 0 M h
def w_X7_slurs (M : Mem) (Q : Int32 → Mem → Prop) : Prop := ∃ k, w_X7_slurs_2  Q  k 0 M
theorem t_X7_slurs (M : Mem) (Q : Int32 → Mem → Prop) (h : w_X7_slurs   M Q) : Ex true mX7_slurs 78 78 0 0 0 [.ref 46, .null, .null, .null, .null] [] M Q := by
  unfold w_X7_slurs at h
  refine ex_iconst (v := 0) dX7_slurs_0 (by decide) ?_
  refine ex_istore_n (L2 := [.ref 46, .int 0, .null, .null, .null]) dX7_slurs_1 (by decide) rfl rfl ?_
  obtain ⟨k_, h⟩ := h
  exact t_X7_slurs_2   Q   k_ 0 M h
def w_X7_lay (p1 : Int32) (M : Mem) (Q : Int32 → Mem → Prop) : Prop := ((4000 ≤ (M 46 37)) → (∀ M1 : Mem, M1 = (mset M 46 37 ((M 46 37) + 1)) → Q 0 M1)) ∧ (¬ (4000 ≤ (M 46 37)) → ((vp_in (M 46 37) 4000) ∧ (∀ M3 : Mem, M3 = (mset M 76 (Int32.toNatClampNeg (M 46 37)) p1) → ∀ M4 : Mem, M4 = (mset M3 46 37 ((M3 46 37) + 1)) → Q 0 M4)))
theorem t_X7_lay (p1 : Int32) (M : Mem) (Q : Int32 → Mem → Prop) (h : w_X7_lay  p1 M Q) : Ex true mX7_lay 78 78 0 0 0 [.ref 46, .int p1] [] M Q := by
  unfold w_X7_lay at h
  refine ex_aload_n dX7_lay_0 rfl ?_
  refine ex_getI (ci := 7) (j := 37) dX7_lay_1 (by decide) rfl rfl lk_X7_228 ?_
  refine ex_sipush (v := 4000) dX7_lay_4 (by decide) ?_
  refine ex_icmp_ge (tgt := 20) dX7_lay_7 (by decide) (fun c_7 => ?_) (fun c_7 => ?_)
  · replace h := h.1 c_7
    refine ex_aload_n dX7_lay_20 rfl ?_
    refine ex_dup dX7_lay_21 rfl ?_
    refine ex_getI (ci := 7) (j := 37) dX7_lay_22 (by decide) rfl rfl lk_X7_228 ?_
    refine ex_iconst (v := 1) dX7_lay_25 (by decide) ?_
    refine ex_iadd dX7_lay_26 ?_
    refine ex_putI (ci := 7) (j := 37) dX7_lay_27 (by decide) rfl rfl lk_X7_228 ⟨rfl, rfl⟩ ?_
    refine ex_nmM (fun M1 eM1 => ?_)
    replace h := h M1 eM1
    exact ex_vret dX7_lay_30 rfl rfl h
  · replace h := h.2 c_7
    refine ex_aload_n dX7_lay_10 rfl ?_
    refine ex_getR (ci := 7) (j := 36) (v := 76) dX7_lay_11 (by decide) rfl rfl lk_X7_102 rfl (by decide) ?_
    refine ex_aload_n dX7_lay_14 rfl ?_
    refine ex_getI (ci := 7) (j := 37) dX7_lay_15 (by decide) rfl rfl lk_X7_228 ?_
    refine ex_iload_n dX7_lay_18 rfl ?_
    obtain ⟨b2, h⟩ := h
    refine ex_iast dX7_lay_19 (by decide) rfl b2 ?_
    refine ex_nmM (fun M3 eM3 => ?_)
    replace h := h M3 eM3
    refine ex_aload_n dX7_lay_20 rfl ?_
    refine ex_dup dX7_lay_21 rfl ?_
    refine ex_getI (ci := 7) (j := 37) dX7_lay_22 (by decide) rfl rfl lk_X7_228 ?_
    refine ex_iconst (v := 1) dX7_lay_25 (by decide) ?_
    refine ex_iadd dX7_lay_26 ?_
    refine ex_putI (ci := 7) (j := 37) dX7_lay_27 (by decide) rfl rfl lk_X7_228 ⟨rfl, rfl⟩ ?_
    refine ex_nmM (fun M4 eM4 => ?_)
    replace h := h M4 eM4
    exact ex_vret dX7_lay_30 rfl rfl h
def w_X7_laySign (p1 : Int32) (M : Mem) (Q : Int32 → Mem → Prop) : Prop := ((p1 ≤ 0) → (Q 0 M)) ∧ (¬ (p1 ≤ 0) → (∀ z1 : Int32, z1 = (if p1 = 1 then 41 else (if p1 = 2 then 35 else 33)) → w_X7_lay z1 M (fun v2 M3 => Q 0 M3)))
theorem t_X7_laySign (p1 : Int32) (M : Mem) (Q : Int32 → Mem → Prop) (h : w_X7_laySign  p1 M Q) : Ex true mX7_laySign 78 78 0 0 0 [.ref 46, .int p1] [] M Q := by
  unfold w_X7_laySign at h
  refine ex_iload_n dX7_laySign_0 rfl ?_
  refine ex_if_le (tgt := 30) dX7_laySign_1 (by decide) (fun c_1 => ?_) (fun c_1 => ?_)
  · replace h := h.1 c_1
    exact ex_vret dX7_laySign_30 rfl rfl h
  · replace h := h.2 c_1
    refine ex_aload_n dX7_laySign_4 rfl ?_
    refine ex_iload_n dX7_laySign_5 rfl ?_
    refine ex_iconst (v := 1) dX7_laySign_6 (by decide) ?_
    have hJ4 : ∀ z1 : Int32, z1 = (if p1 = 1 then 41 else (if p1 = 2 then 35 else 33)) → Ex true mX7_laySign 78 78 0 0 27 [.ref 46, .int p1] [.int z1, .ref 46] M Q := by
      intro z1 ez1
      replace h := h z1 ez1
      refine ex_invV (k := 46) (ci := 7) (as := [.int z1]) (L2 := [.ref 46, .int z1]) (st := []) 0 0 dX7_laySign_27 lk_X7_231 sl_X7_lay (rmK_of rfl) (by decide) rfl ⟨by decide, rfl⟩ rfl (Nat.le_of_ble_eq_true rfl) (Nat.le_of_ble_eq_true rfl) (t_X7_lay   z1 M _ h) (fun v2 M3 h => ?_)
      show Ex true mX7_laySign 78 78 0 0 30 [.ref 46, .int p1] [] M3 Q
      exact ex_vret dX7_laySign_30 rfl rfl h
    refine ex_icmp_ne (tgt := 15) dX7_laySign_7 (by decide) (fun c_7 => ?_) (fun c_7 => ?_)
    ·
      refine ex_iload_n dX7_laySign_15 rfl ?_
      refine ex_iconst (v := 2) dX7_laySign_16 (by decide) ?_
      refine ex_icmp_ne (tgt := 25) dX7_laySign_17 (by decide) (fun c_17 => ?_) (fun c_17 => ?_)
      ·
        refine ex_bipush (v := 33) dX7_laySign_25 (by decide) ?_
        exact hJ4 _ (by rw [if_neg c_7, if_neg c_17])
      ·
        refine ex_bipush (v := 35) dX7_laySign_20 (by decide) ?_
        refine ex_goto (tgt := 27) dX7_laySign_22 (by decide) ?_
        exact hJ4 _ (by rw [if_neg c_7, if_pos c_17])
    ·
      refine ex_bipush (v := 41) dX7_laySign_10 (by decide) ?_
      refine ex_goto (tgt := 27) dX7_laySign_12 (by decide) ?_
      exact hJ4 _ (by rw [if_pos c_7])
def w_X7_layItem_266 (Q : Int32 → Mem → Prop) (l1 : Int32) (l2 : Int32) (M : Mem) : Prop := (vp_in l1 600) ∧ ((¬ ((M 73 (Int32.toNatClampNeg l1)) = 1) → (Q 0 M)) ∧ (((M 73 (Int32.toNatClampNeg l1)) = 1) → (w_X7_lay 24 M (fun v24 M25 => w_X7_lay 6 M25 (fun v26 M27 => Q 0 M27)))))
theorem t_X7_layItem_266 (Q : Int32 → Mem → Prop) (l1 : Int32) (l2 : Int32) (M : Mem) (h : w_X7_layItem_266  Q  l1 l2 M) : Ex true mX7_layItem 78 78 0 0 266 [.ref 46, .int l1, .int l2] [] M Q := by
  unfold w_X7_layItem_266 at h
  refine ex_aload_n dX7_layItem_266 rfl ?_
  refine ex_getR (ci := 7) (j := 33) (v := 73) dX7_layItem_267 (by decide) rfl rfl lk_X7_93 rfl (by decide) ?_
  refine ex_iload_n dX7_layItem_270 rfl ?_
  obtain ⟨b23, h⟩ := h
  refine ex_iald dX7_layItem_271 (by decide) rfl b23 ?_
  refine ex_iconst (v := 1) dX7_layItem_272 (by decide) ?_
  refine ex_icmp_ne (tgt := 288) dX7_layItem_273 (by decide) (fun c_273 => ?_) (fun c_273 => ?_)
  · replace h := h.1 c_273
    exact ex_vret dX7_layItem_288 rfl rfl h
  · replace h := h.2 c_273
    refine ex_aload_n dX7_layItem_276 rfl ?_
    refine ex_bipush (v := 24) dX7_layItem_277 (by decide) ?_
    refine ex_invV (k := 46) (ci := 7) (as := [.int 24]) (L2 := [.ref 46, .int 24]) (st := []) 0 0 dX7_layItem_279 lk_X7_231 sl_X7_lay (rmK_of rfl) (by decide) rfl ⟨by decide, rfl⟩ rfl (Nat.le_of_ble_eq_true rfl) (Nat.le_of_ble_eq_true rfl) (t_X7_lay   24 M _ h) (fun v24 M25 h => ?_)
    show Ex true mX7_layItem 78 78 0 0 282 [.ref 46, .int l1, .int l2] [] M25 Q
    refine ex_aload_n dX7_layItem_282 rfl ?_
    refine ex_bipush (v := 6) dX7_layItem_283 (by decide) ?_
    refine ex_invV (k := 46) (ci := 7) (as := [.int 6]) (L2 := [.ref 46, .int 6]) (st := []) 0 0 dX7_layItem_285 lk_X7_231 sl_X7_lay (rmK_of rfl) (by decide) rfl ⟨by decide, rfl⟩ rfl (Nat.le_of_ble_eq_true rfl) (Nat.le_of_ble_eq_true rfl) (t_X7_lay   6 M25 _ h) (fun v26 M27 h => ?_)
    show Ex true mX7_layItem 78 78 0 0 288 [.ref 46, .int l1, .int l2] [] M27 Q
    exact ex_vret dX7_layItem_288 rfl rfl h
def w_X7_layItem_250 (Q : Int32 → Mem → Prop) (l1 : Int32) (l2 : Int32) (M : Mem) : Prop := (vp_in l1 600) ∧ ((¬ ((M 74 (Int32.toNatClampNeg l1)) = 1) → (w_X7_layItem_266  Q  l1 l2 M)) ∧ (((M 74 (Int32.toNatClampNeg l1)) = 1) → (w_X7_lay 9 M (fun v28 M29 => w_X7_layItem_266  Q  l1 l2 M29))))
theorem t_X7_layItem_250 (Q : Int32 → Mem → Prop) (l1 : Int32) (l2 : Int32) (M : Mem) (h : w_X7_layItem_250  Q  l1 l2 M) : Ex true mX7_layItem 78 78 0 0 250 [.ref 46, .int l1, .int l2] [] M Q := by
  unfold w_X7_layItem_250 at h
  refine ex_aload_n dX7_layItem_250 rfl ?_
  refine ex_getR (ci := 7) (j := 34) (v := 74) dX7_layItem_251 (by decide) rfl rfl lk_X7_96 rfl (by decide) ?_
  refine ex_iload_n dX7_layItem_254 rfl ?_
  obtain ⟨b22, h⟩ := h
  refine ex_iald dX7_layItem_255 (by decide) rfl b22 ?_
  refine ex_iconst (v := 1) dX7_layItem_256 (by decide) ?_
  refine ex_icmp_ne (tgt := 266) dX7_layItem_257 (by decide) (fun c_257 => ?_) (fun c_257 => ?_)
  · replace h := h.1 c_257
    exact t_X7_layItem_266   Q   l1 l2 M h
  · replace h := h.2 c_257
    refine ex_aload_n dX7_layItem_260 rfl ?_
    refine ex_bipush (v := 9) dX7_layItem_261 (by decide) ?_
    refine ex_invV (k := 46) (ci := 7) (as := [.int 9]) (L2 := [.ref 46, .int 9]) (st := []) 0 0 dX7_layItem_263 lk_X7_231 sl_X7_lay (rmK_of rfl) (by decide) rfl ⟨by decide, rfl⟩ rfl (Nat.le_of_ble_eq_true rfl) (Nat.le_of_ble_eq_true rfl) (t_X7_lay   9 M _ h) (fun v28 M29 h => ?_)
    show Ex true mX7_layItem 78 78 0 0 266 [.ref 46, .int l1, .int l2] [] M29 Q
    exact t_X7_layItem_266   Q   l1 l2 M29 h
def wb_X7_layItem_171 (Q : Int32 → Mem → Prop) (B171 : Int32 → Int32 → Mem → Prop) (l1 : Int32) (l2 : Int32) (M : Mem) : Prop := (vp_in l1 1200) ∧ ((((M 67 (Int32.toNatClampNeg l1)) ≤ l2) → ((vp_in l1 1200) ∧ ((¬ ((M 65 (Int32.toNatClampNeg l1)) = 1) → (w_X7_layItem_250  Q  l1 l2 M)) ∧ (((M 65 (Int32.toNatClampNeg l1)) = 1) → (w_X7_lay 8 M (fun v30 M31 => w_X7_lay 9 M31 (fun v32 M33 => w_X7_layItem_250  Q  l1 l2 M33))))))) ∧ (¬ ((M 67 (Int32.toNatClampNeg l1)) ≤ l2) → ((vp_in ((4 * l1) + l2) 4800) ∧ (w_X7_laySign ((M 68 (Int32.toNatClampNeg ((4 * l1) + l2))) / 16) M (fun v35 M36 => (vp_in ((4 * l1) + l2) 4800) ∧ ((vp_in (((M36 68 (Int32.toNatClampNeg ((4 * l1) + l2))) - (M36 68 (Int32.toNatClampNeg ((4 * l1) + l2))) / 16 * 16) - 2) 7) ∧ (w_X7_lay (M36 51 (Int32.toNatClampNeg (((M36 68 (Int32.toNatClampNeg ((4 * l1) + l2))) - (M36 68 (Int32.toNatClampNeg ((4 * l1) + l2))) / 16 * 16) - 2))) M36 (fun v39 M40 => ∀ x41 : Int32, x41 = l2 + 1 → B171 l1 x41 M40))))))))
def w_X7_layItem_171 (Q : Int32 → Mem → Prop) : Nat → Int32 → Int32 → Mem → Prop
  | 0 => fun _ _ _ => False
  | k + 1 => wb_X7_layItem_171  Q  (w_X7_layItem_171  Q  k)
theorem t_X7_layItem_171 (Q : Int32 → Mem → Prop) : ∀ (k : Nat) (l1 : Int32) (l2 : Int32) (M : Mem), w_X7_layItem_171  Q  k l1 l2 M → Ex true mX7_layItem 78 78 0 0 171 [.ref 46, .int l1, .int l2] [] M Q := by
  intro k
  induction k with
  | zero => intro l1 l2 M h; exact False.elim h
  | succ k hB171 =>
    intro l1 l2 M h
    replace h : wb_X7_layItem_171  Q  (w_X7_layItem_171  Q  k) l1 l2 M := h
    generalize w_X7_layItem_171  Q  k = B171 at hB171 h
    unfold wb_X7_layItem_171 at h
    refine ex_iload_n dX7_layItem_171 rfl ?_
    refine ex_aload_n dX7_layItem_172 rfl ?_
    refine ex_getR (ci := 7) (j := 22) (v := 67) dX7_layItem_173 (by decide) rfl rfl lk_X7_74 rfl (by decide) ?_
    refine ex_iload_n dX7_layItem_176 rfl ?_
    obtain ⟨b20, h⟩ := h
    refine ex_iald dX7_layItem_177 (by decide) rfl b20 ?_
    refine ex_icmp_ge (tgt := 228) dX7_layItem_178 (by decide) (fun c_178 => ?_) (fun c_178 => ?_)
    · replace h := h.1 c_178
      refine ex_aload_n dX7_layItem_228 rfl ?_
      refine ex_getR (ci := 7) (j := 20) (v := 65) dX7_layItem_229 (by decide) rfl rfl lk_X7_68 rfl (by decide) ?_
      refine ex_iload_n dX7_layItem_232 rfl ?_
      obtain ⟨b21, h⟩ := h
      refine ex_iald dX7_layItem_233 (by decide) rfl b21 ?_
      refine ex_iconst (v := 1) dX7_layItem_234 (by decide) ?_
      refine ex_icmp_ne (tgt := 250) dX7_layItem_235 (by decide) (fun c_235 => ?_) (fun c_235 => ?_)
      · replace h := h.1 c_235
        exact t_X7_layItem_250   Q   l1 l2 M h
      · replace h := h.2 c_235
        refine ex_aload_n dX7_layItem_238 rfl ?_
        refine ex_bipush (v := 8) dX7_layItem_239 (by decide) ?_
        refine ex_invV (k := 46) (ci := 7) (as := [.int 8]) (L2 := [.ref 46, .int 8]) (st := []) 0 0 dX7_layItem_241 lk_X7_231 sl_X7_lay (rmK_of rfl) (by decide) rfl ⟨by decide, rfl⟩ rfl (Nat.le_of_ble_eq_true rfl) (Nat.le_of_ble_eq_true rfl) (t_X7_lay   8 M _ h) (fun v30 M31 h => ?_)
        show Ex true mX7_layItem 78 78 0 0 244 [.ref 46, .int l1, .int l2] [] M31 Q
        refine ex_aload_n dX7_layItem_244 rfl ?_
        refine ex_bipush (v := 9) dX7_layItem_245 (by decide) ?_
        refine ex_invV (k := 46) (ci := 7) (as := [.int 9]) (L2 := [.ref 46, .int 9]) (st := []) 0 0 dX7_layItem_247 lk_X7_231 sl_X7_lay (rmK_of rfl) (by decide) rfl ⟨by decide, rfl⟩ rfl (Nat.le_of_ble_eq_true rfl) (Nat.le_of_ble_eq_true rfl) (t_X7_lay   9 M31 _ h) (fun v32 M33 h => ?_)
        show Ex true mX7_layItem 78 78 0 0 250 [.ref 46, .int l1, .int l2] [] M33 Q
        exact t_X7_layItem_250   Q   l1 l2 M33 h
    · replace h := h.2 c_178
      refine ex_aload_n dX7_layItem_181 rfl ?_
      refine ex_aload_n dX7_layItem_182 rfl ?_
      refine ex_getR (ci := 7) (j := 23) (v := 68) dX7_layItem_183 (by decide) rfl rfl lk_X7_77 rfl (by decide) ?_
      refine ex_iconst (v := 4) dX7_layItem_186 (by decide) ?_
      refine ex_iload_n dX7_layItem_187 rfl ?_
      refine ex_imul dX7_layItem_188 ?_
      refine ex_iload_n dX7_layItem_189 rfl ?_
      refine ex_iadd dX7_layItem_190 ?_
      obtain ⟨b34, h⟩ := h
      refine ex_iald dX7_layItem_191 (by decide) rfl b34 ?_
      refine ex_bipush (v := 16) dX7_layItem_192 (by decide) ?_
      refine ex_idiv dX7_layItem_194 (by decide) ?_
      refine ex_invV (k := 46) (ci := 7) (as := [.int ((M 68 (Int32.toNatClampNeg ((4 * l1) + l2))) / 16)]) (L2 := [.ref 46, .int ((M 68 (Int32.toNatClampNeg ((4 * l1) + l2))) / 16)]) (st := []) 0 0 dX7_layItem_195 lk_X7_234 sl_X7_laySign (rmK_of rfl) (by decide) rfl ⟨by decide, rfl⟩ rfl (Nat.le_of_ble_eq_true rfl) (Nat.le_of_ble_eq_true rfl) (t_X7_laySign   ((M 68 (Int32.toNatClampNeg ((4 * l1) + l2))) / 16) M _ h) (fun v35 M36 h => ?_)
      show Ex true mX7_layItem 78 78 0 0 198 [.ref 46, .int l1, .int l2] [] M36 Q
      refine ex_aload_n dX7_layItem_198 rfl ?_
      refine ex_aload_n dX7_layItem_199 rfl ?_
      refine ex_getR (ci := 7) (j := 4) (v := 51) dX7_layItem_200 (by decide) rfl rfl lk_X7_22 rfl (by decide) ?_
      refine ex_aload_n dX7_layItem_203 rfl ?_
      refine ex_getR (ci := 7) (j := 23) (v := 68) dX7_layItem_204 (by decide) rfl rfl lk_X7_77 rfl (by decide) ?_
      refine ex_iconst (v := 4) dX7_layItem_207 (by decide) ?_
      refine ex_iload_n dX7_layItem_208 rfl ?_
      refine ex_imul dX7_layItem_209 ?_
      refine ex_iload_n dX7_layItem_210 rfl ?_
      refine ex_iadd dX7_layItem_211 ?_
      obtain ⟨b37, h⟩ := h
      refine ex_iald dX7_layItem_212 (by decide) rfl b37 ?_
      refine ex_bipush (v := 16) dX7_layItem_213 (by decide) ?_
      refine ex_irem dX7_layItem_215 (by decide) ?_
      refine ex_iconst (v := 2) dX7_layItem_216 (by decide) ?_
      refine ex_isub dX7_layItem_217 ?_
      obtain ⟨b38, h⟩ := h
      refine ex_iald dX7_layItem_218 (by decide) rfl b38 ?_
      refine ex_invV (k := 46) (ci := 7) (as := [.int (M36 51 (Int32.toNatClampNeg (((M36 68 (Int32.toNatClampNeg ((4 * l1) + l2))) - (M36 68 (Int32.toNatClampNeg ((4 * l1) + l2))) / 16 * 16) - 2)))]) (L2 := [.ref 46, .int (M36 51 (Int32.toNatClampNeg (((M36 68 (Int32.toNatClampNeg ((4 * l1) + l2))) - (M36 68 (Int32.toNatClampNeg ((4 * l1) + l2))) / 16 * 16) - 2)))]) (st := []) 0 0 dX7_layItem_219 lk_X7_231 sl_X7_lay (rmK_of rfl) (by decide) rfl ⟨by decide, rfl⟩ rfl (Nat.le_of_ble_eq_true rfl) (Nat.le_of_ble_eq_true rfl) (t_X7_lay   (M36 51 (Int32.toNatClampNeg (((M36 68 (Int32.toNatClampNeg ((4 * l1) + l2))) - (M36 68 (Int32.toNatClampNeg ((4 * l1) + l2))) / 16 * 16) - 2))) M36 _ h) (fun v39 M40 h => ?_)
      show Ex true mX7_layItem 78 78 0 0 222 [.ref 46, .int l1, .int l2] [] M40 Q
      refine ex_iinc (v := l2 + 1) (L2 := [.ref 46, .int l1, .int (l2 + 1)]) dX7_layItem_222 rfl rfl (by decide) rfl rfl ?_
      obtain ⟨x41, ex41⟩ : ∃ x41 : Int32, x41 = l2 + 1 := ⟨_, rfl⟩
      rw [← ex41]
      replace h := h x41 ex41
      refine ex_goto (tgt := 171) dX7_layItem_225 (by decide) ?_
      exact hB171 l1 x41 M40 h
def wb_X7_layItem_148 (Q : Int32 → Mem → Prop) (B148 : Int32 → Int32 → Mem → Prop) (l1 : Int32) (l2 : Int32) (M : Mem) : Prop := (vp_in l1 1200) ∧ ((((M 64 (Int32.toNatClampNeg l1)) ≤ l2) → (∃ k, w_X7_layItem_171  Q  k l1 0 M)) ∧ (¬ ((M 64 (Int32.toNatClampNeg l1)) ≤ l2) → (w_X7_lay 4 M (fun v42 M43 => ∀ x44 : Int32, x44 = l2 + 1 → B148 l1 x44 M43))))
def w_X7_layItem_148 (Q : Int32 → Mem → Prop) : Nat → Int32 → Int32 → Mem → Prop
  | 0 => fun _ _ _ => False
  | k + 1 => wb_X7_layItem_148  Q  (w_X7_layItem_148  Q  k)
theorem t_X7_layItem_148 (Q : Int32 → Mem → Prop) : ∀ (k : Nat) (l1 : Int32) (l2 : Int32) (M : Mem), w_X7_layItem_148  Q  k l1 l2 M → Ex true mX7_layItem 78 78 0 0 148 [.ref 46, .int l1, .int l2] [] M Q := by
  intro k
  induction k with
  | zero => intro l1 l2 M h; exact False.elim h
  | succ k hB148 =>
    intro l1 l2 M h
    replace h : wb_X7_layItem_148  Q  (w_X7_layItem_148  Q  k) l1 l2 M := h
    generalize w_X7_layItem_148  Q  k = B148 at hB148 h
    unfold wb_X7_layItem_148 at h
    refine ex_iload_n dX7_layItem_148 rfl ?_
    refine ex_aload_n dX7_layItem_149 rfl ?_
    refine ex_getR (ci := 7) (j := 19) (v := 64) dX7_layItem_150 (by decide) rfl rfl lk_X7_65 rfl (by decide) ?_
    refine ex_iload_n dX7_layItem_153 rfl ?_
    obtain ⟨b19, h⟩ := h
    refine ex_iald dX7_layItem_154 (by decide) rfl b19 ?_
    refine ex_icmp_ge (tgt := 169) dX7_layItem_155 (by decide) (fun c_155 => ?_) (fun c_155 => ?_)
    · replace h := h.1 c_155
      refine ex_iconst (v := 0) dX7_layItem_169 (by decide) ?_
      refine ex_istore_n (L2 := [.ref 46, .int l1, .int 0]) dX7_layItem_170 (by decide) rfl rfl ?_
      obtain ⟨k_, h⟩ := h
      exact t_X7_layItem_171   Q   k_ l1 0 M h
    · replace h := h.2 c_155
      refine ex_aload_n dX7_layItem_158 rfl ?_
      refine ex_iconst (v := 4) dX7_layItem_159 (by decide) ?_
      refine ex_invV (k := 46) (ci := 7) (as := [.int 4]) (L2 := [.ref 46, .int 4]) (st := []) 0 0 dX7_layItem_160 lk_X7_231 sl_X7_lay (rmK_of rfl) (by decide) rfl ⟨by decide, rfl⟩ rfl (Nat.le_of_ble_eq_true rfl) (Nat.le_of_ble_eq_true rfl) (t_X7_lay   4 M _ h) (fun v42 M43 h => ?_)
      show Ex true mX7_layItem 78 78 0 0 163 [.ref 46, .int l1, .int l2] [] M43 Q
      refine ex_iinc (v := l2 + 1) (L2 := [.ref 46, .int l1, .int (l2 + 1)]) dX7_layItem_163 rfl rfl (by decide) rfl rfl ?_
      obtain ⟨x44, ex44⟩ : ∃ x44 : Int32, x44 = l2 + 1 := ⟨_, rfl⟩
      rw [← ex44]
      replace h := h x44 ex44
      refine ex_goto (tgt := 148) dX7_layItem_166 (by decide) ?_
      exact hB148 l1 x44 M43 h
def w_X7_layItem_101 (Q : Int32 → Mem → Prop) (l1 : Int32) (M : Mem) : Prop := ∀ M10 : Mem, M10 = (mset M 46 27 0) → (vp_in l1 1200) ∧ (∀ M12 : Mem, M12 = (mset M10 46 28 (M10 60 (Int32.toNatClampNeg l1))) → (vp_in l1 1200) ∧ ((vp_in ((M12 60 (Int32.toNatClampNeg l1)) - (M12 60 (Int32.toNatClampNeg l1)) / 7 * 7) 7) ∧ ((vp_in l1 1200) ∧ ((vp_in (M12 62 (Int32.toNatClampNeg l1)) 4) ∧ (w_X7_lay ((M12 47 (Int32.toNatClampNeg ((M12 60 (Int32.toNatClampNeg l1)) - (M12 60 (Int32.toNatClampNeg l1)) / 7 * 7))) ||| (M12 48 (Int32.toNatClampNeg (M12 62 (Int32.toNatClampNeg l1))))) M12 (fun v17 M18 => ∃ k, w_X7_layItem_148  Q  k l1 0 M18))))))
theorem t_X7_layItem_101 (Q : Int32 → Mem → Prop) (l1 : Int32) (M : Mem) (h : w_X7_layItem_101  Q  l1 M) : Ex true mX7_layItem 78 78 0 0 101 [.ref 46, .int l1, .null] [] M Q := by
  unfold w_X7_layItem_101 at h
  refine ex_aload_n dX7_layItem_101 rfl ?_
  refine ex_iconst (v := 0) dX7_layItem_102 (by decide) ?_
  refine ex_putI (ci := 7) (j := 27) dX7_layItem_103 (by decide) rfl rfl lk_X7_157 ⟨rfl, rfl⟩ ?_
  refine ex_nmM (fun M10 eM10 => ?_)
  replace h := h M10 eM10
  refine ex_aload_n dX7_layItem_106 rfl ?_
  refine ex_aload_n dX7_layItem_107 rfl ?_
  refine ex_getR (ci := 7) (j := 15) (v := 60) dX7_layItem_108 (by decide) rfl rfl lk_X7_53 rfl (by decide) ?_
  refine ex_iload_n dX7_layItem_111 rfl ?_
  obtain ⟨b11, h⟩ := h
  refine ex_iald dX7_layItem_112 (by decide) rfl b11 ?_
  refine ex_putI (ci := 7) (j := 28) dX7_layItem_113 (by decide) rfl rfl lk_X7_160 ⟨rfl, rfl⟩ ?_
  refine ex_nmM (fun M12 eM12 => ?_)
  replace h := h M12 eM12
  refine ex_aload_n dX7_layItem_116 rfl ?_
  refine ex_aload_n dX7_layItem_117 rfl ?_
  refine ex_getR (ci := 7) (j := 0) (v := 47) dX7_layItem_118 (by decide) rfl rfl lk_X7_7 rfl (by decide) ?_
  refine ex_aload_n dX7_layItem_121 rfl ?_
  refine ex_getR (ci := 7) (j := 15) (v := 60) dX7_layItem_122 (by decide) rfl rfl lk_X7_53 rfl (by decide) ?_
  refine ex_iload_n dX7_layItem_125 rfl ?_
  obtain ⟨b13, h⟩ := h
  refine ex_iald dX7_layItem_126 (by decide) rfl b13 ?_
  refine ex_bipush (v := 7) dX7_layItem_127 (by decide) ?_
  refine ex_irem dX7_layItem_129 (by decide) ?_
  obtain ⟨b14, h⟩ := h
  refine ex_iald dX7_layItem_130 (by decide) rfl b14 ?_
  refine ex_aload_n dX7_layItem_131 rfl ?_
  refine ex_getR (ci := 7) (j := 1) (v := 48) dX7_layItem_132 (by decide) rfl rfl lk_X7_13 rfl (by decide) ?_
  refine ex_aload_n dX7_layItem_135 rfl ?_
  refine ex_getR (ci := 7) (j := 17) (v := 62) dX7_layItem_136 (by decide) rfl rfl lk_X7_59 rfl (by decide) ?_
  refine ex_iload_n dX7_layItem_139 rfl ?_
  obtain ⟨b15, h⟩ := h
  refine ex_iald dX7_layItem_140 (by decide) rfl b15 ?_
  obtain ⟨b16, h⟩ := h
  refine ex_iald dX7_layItem_141 (by decide) rfl b16 ?_
  refine ex_ior dX7_layItem_142 ?_
  refine ex_invV (k := 46) (ci := 7) (as := [.int ((M12 47 (Int32.toNatClampNeg ((M12 60 (Int32.toNatClampNeg l1)) - (M12 60 (Int32.toNatClampNeg l1)) / 7 * 7))) ||| (M12 48 (Int32.toNatClampNeg (M12 62 (Int32.toNatClampNeg l1)))))]) (L2 := [.ref 46, .int ((M12 47 (Int32.toNatClampNeg ((M12 60 (Int32.toNatClampNeg l1)) - (M12 60 (Int32.toNatClampNeg l1)) / 7 * 7))) ||| (M12 48 (Int32.toNatClampNeg (M12 62 (Int32.toNatClampNeg l1)))))]) (st := []) 0 0 dX7_layItem_143 lk_X7_231 sl_X7_lay (rmK_of rfl) (by decide) rfl ⟨by decide, rfl⟩ rfl (Nat.le_of_ble_eq_true rfl) (Nat.le_of_ble_eq_true rfl) (t_X7_lay   ((M12 47 (Int32.toNatClampNeg ((M12 60 (Int32.toNatClampNeg l1)) - (M12 60 (Int32.toNatClampNeg l1)) / 7 * 7))) ||| (M12 48 (Int32.toNatClampNeg (M12 62 (Int32.toNatClampNeg l1))))) M12 _ h) (fun v17 M18 h => ?_)
  show Ex true mX7_layItem 78 78 0 0 146 [.ref 46, .int l1, .null] [] M18 Q
  refine ex_iconst (v := 0) dX7_layItem_146 (by decide) ?_
  refine ex_istore_n (L2 := [.ref 46, .int l1, .int 0]) dX7_layItem_147 (by decide) rfl rfl ?_
  obtain ⟨k_, h⟩ := h
  exact t_X7_layItem_148   Q   k_ l1 0 M18 h
def w_X7_layItem_81 (Q : Int32 → Mem → Prop) (l1 : Int32) (M : Mem) : Prop := (vp_in l1 1200) ∧ ((vp_in (((M 60 (Int32.toNatClampNeg l1)) / 7) - 1) 7) ∧ (w_X7_lay (M 50 (Int32.toNatClampNeg (((M 60 (Int32.toNatClampNeg l1)) / 7) - 1))) M (fun v8 M9 => w_X7_layItem_101  Q  l1 M9)))
theorem t_X7_layItem_81 (Q : Int32 → Mem → Prop) (l1 : Int32) (M : Mem) (h : w_X7_layItem_81  Q  l1 M) : Ex true mX7_layItem 78 78 0 0 81 [.ref 46, .int l1, .null] [] M Q := by
  unfold w_X7_layItem_81 at h
  refine ex_aload_n dX7_layItem_81 rfl ?_
  refine ex_aload_n dX7_layItem_82 rfl ?_
  refine ex_getR (ci := 7) (j := 3) (v := 50) dX7_layItem_83 (by decide) rfl rfl lk_X7_19 rfl (by decide) ?_
  refine ex_aload_n dX7_layItem_86 rfl ?_
  refine ex_getR (ci := 7) (j := 15) (v := 60) dX7_layItem_87 (by decide) rfl rfl lk_X7_53 rfl (by decide) ?_
  refine ex_iload_n dX7_layItem_90 rfl ?_
  obtain ⟨b6, h⟩ := h
  refine ex_iald dX7_layItem_91 (by decide) rfl b6 ?_
  refine ex_bipush (v := 7) dX7_layItem_92 (by decide) ?_
  refine ex_idiv dX7_layItem_94 (by decide) ?_
  refine ex_iconst (v := 1) dX7_layItem_95 (by decide) ?_
  refine ex_isub dX7_layItem_96 ?_
  obtain ⟨b7, h⟩ := h
  refine ex_iald dX7_layItem_97 (by decide) rfl b7 ?_
  refine ex_invV (k := 46) (ci := 7) (as := [.int (M 50 (Int32.toNatClampNeg (((M 60 (Int32.toNatClampNeg l1)) / 7) - 1)))]) (L2 := [.ref 46, .int (M 50 (Int32.toNatClampNeg (((M 60 (Int32.toNatClampNeg l1)) / 7) - 1)))]) (st := []) 0 0 dX7_layItem_98 lk_X7_231 sl_X7_lay (rmK_of rfl) (by decide) rfl ⟨by decide, rfl⟩ rfl (Nat.le_of_ble_eq_true rfl) (Nat.le_of_ble_eq_true rfl) (t_X7_lay   (M 50 (Int32.toNatClampNeg (((M 60 (Int32.toNatClampNeg l1)) / 7) - 1))) M _ h) (fun v8 M9 h => ?_)
  show Ex true mX7_layItem 78 78 0 0 101 [.ref 46, .int l1, .null] [] M9 Q
  exact t_X7_layItem_101   Q   l1 M9 h
def w_X7_layItem_21 (Q : Int32 → Mem → Prop) (l1 : Int32) (M : Mem) : Prop := (vp_in l1 1200) ∧ (((0 ≤ (M 60 (Int32.toNatClampNeg l1))) → ((vp_in l1 1200) ∧ (w_X7_laySign (M 61 (Int32.toNatClampNeg l1)) M (fun v4 M5 => (¬ ((M5 46 27) = 0) → (w_X7_layItem_81  Q  l1 M5)) ∧ (((M5 46 27) = 0) → ((vp_in l1 1200) ∧ (w_X7_wantsSign (M5 46 28) (M5 60 (Int32.toNatClampNeg l1)) M5 (fun v46 M47 => ((v46 = 0) → (w_X7_layItem_101  Q  l1 M47)) ∧ (¬ (v46 = 0) → (w_X7_layItem_81  Q  l1 M47)))))))))) ∧ (¬ (0 ≤ (M 60 (Int32.toNatClampNeg l1))) → ((vp_in l1 1200) ∧ ((vp_in (M 62 (Int32.toNatClampNeg l1)) 4) ∧ (w_X7_lay (M 49 (Int32.toNatClampNeg (M 62 (Int32.toNatClampNeg l1)))) M (fun v50 M51 => ∃ k, w_X7_layItem_148  Q  k l1 0 M51))))))
theorem t_X7_layItem_21 (Q : Int32 → Mem → Prop) (l1 : Int32) (M : Mem) (h : w_X7_layItem_21  Q  l1 M) : Ex true mX7_layItem 78 78 0 0 21 [.ref 46, .int l1, .null] [] M Q := by
  unfold w_X7_layItem_21 at h
  refine ex_aload_n dX7_layItem_21 rfl ?_
  refine ex_getR (ci := 7) (j := 15) (v := 60) dX7_layItem_22 (by decide) rfl rfl lk_X7_53 rfl (by decide) ?_
  refine ex_iload_n dX7_layItem_25 rfl ?_
  obtain ⟨b2, h⟩ := h
  refine ex_iald dX7_layItem_26 (by decide) rfl b2 ?_
  refine ex_if_ge (tgt := 48) dX7_layItem_27 (by decide) (fun c_27 => ?_) (fun c_27 => ?_)
  · replace h := h.1 c_27
    refine ex_aload_n dX7_layItem_48 rfl ?_
    refine ex_aload_n dX7_layItem_49 rfl ?_
    refine ex_getR (ci := 7) (j := 16) (v := 61) dX7_layItem_50 (by decide) rfl rfl lk_X7_56 rfl (by decide) ?_
    refine ex_iload_n dX7_layItem_53 rfl ?_
    obtain ⟨b3, h⟩ := h
    refine ex_iald dX7_layItem_54 (by decide) rfl b3 ?_
    refine ex_invV (k := 46) (ci := 7) (as := [.int (M 61 (Int32.toNatClampNeg l1))]) (L2 := [.ref 46, .int (M 61 (Int32.toNatClampNeg l1))]) (st := []) 0 0 dX7_layItem_55 lk_X7_234 sl_X7_laySign (rmK_of rfl) (by decide) rfl ⟨by decide, rfl⟩ rfl (Nat.le_of_ble_eq_true rfl) (Nat.le_of_ble_eq_true rfl) (t_X7_laySign   (M 61 (Int32.toNatClampNeg l1)) M _ h) (fun v4 M5 h => ?_)
    show Ex true mX7_layItem 78 78 0 0 58 [.ref 46, .int l1, .null] [] M5 Q
    refine ex_aload_n dX7_layItem_58 rfl ?_
    refine ex_getI (ci := 7) (j := 27) dX7_layItem_59 (by decide) rfl rfl lk_X7_157 ?_
    refine ex_if_ne (tgt := 81) dX7_layItem_62 (by decide) (fun c_62 => ?_) (fun c_62 => ?_)
    · replace h := h.1 c_62
      exact t_X7_layItem_81   Q   l1 M5 h
    · replace h := h.2 c_62
      refine ex_aload_n dX7_layItem_65 rfl ?_
      refine ex_getI (ci := 7) (j := 28) dX7_layItem_66 (by decide) rfl rfl lk_X7_160 ?_
      refine ex_aload_n dX7_layItem_69 rfl ?_
      refine ex_getR (ci := 7) (j := 15) (v := 60) dX7_layItem_70 (by decide) rfl rfl lk_X7_53 rfl (by decide) ?_
      refine ex_iload_n dX7_layItem_73 rfl ?_
      obtain ⟨b45, h⟩ := h
      refine ex_iald dX7_layItem_74 (by decide) rfl b45 ?_
      refine ex_invS (as := [.int (M5 46 28), .int (M5 60 (Int32.toNatClampNeg l1))]) (L2 := [.int (M5 46 28), .int (M5 60 (Int32.toNatClampNeg l1)), .null]) (st := []) 0 0 dX7_layItem_75 lk_X7_163 sl_X7_wantsSign (rmK_of rfl) rfl (Nat.le_of_ble_eq_true rfl) (Nat.le_of_ble_eq_true rfl) (t_X7_wantsSign   (M5 46 28) (M5 60 (Int32.toNatClampNeg l1)) M5 _ h) (fun v46 M47 h => ?_)
      show Ex true mX7_layItem 78 78 0 0 78 [.ref 46, .int l1, .null] [.int v46] M47 Q
      refine ex_if_eq (tgt := 101) dX7_layItem_78 (by decide) (fun c_78 => ?_) (fun c_78 => ?_)
      · replace h := h.1 c_78
        exact t_X7_layItem_101   Q   l1 M47 h
      · replace h := h.2 c_78
        exact t_X7_layItem_81   Q   l1 M47 h
  · replace h := h.2 c_27
    refine ex_aload_n dX7_layItem_30 rfl ?_
    refine ex_aload_n dX7_layItem_31 rfl ?_
    refine ex_getR (ci := 7) (j := 2) (v := 49) dX7_layItem_32 (by decide) rfl rfl lk_X7_16 rfl (by decide) ?_
    refine ex_aload_n dX7_layItem_35 rfl ?_
    refine ex_getR (ci := 7) (j := 17) (v := 62) dX7_layItem_36 (by decide) rfl rfl lk_X7_59 rfl (by decide) ?_
    refine ex_iload_n dX7_layItem_39 rfl ?_
    obtain ⟨b48, h⟩ := h
    refine ex_iald dX7_layItem_40 (by decide) rfl b48 ?_
    obtain ⟨b49, h⟩ := h
    refine ex_iald dX7_layItem_41 (by decide) rfl b49 ?_
    refine ex_invV (k := 46) (ci := 7) (as := [.int (M 49 (Int32.toNatClampNeg (M 62 (Int32.toNatClampNeg l1))))]) (L2 := [.ref 46, .int (M 49 (Int32.toNatClampNeg (M 62 (Int32.toNatClampNeg l1))))]) (st := []) 0 0 dX7_layItem_42 lk_X7_231 sl_X7_lay (rmK_of rfl) (by decide) rfl ⟨by decide, rfl⟩ rfl (Nat.le_of_ble_eq_true rfl) (Nat.le_of_ble_eq_true rfl) (t_X7_lay   (M 49 (Int32.toNatClampNeg (M 62 (Int32.toNatClampNeg l1)))) M _ h) (fun v50 M51 h => ?_)
    show Ex true mX7_layItem 78 78 0 0 45 [.ref 46, .int l1, .null] [] M51 Q
    refine ex_goto (tgt := 146) dX7_layItem_45 (by decide) ?_
    refine ex_iconst (v := 0) dX7_layItem_146 (by decide) ?_
    refine ex_istore_n (L2 := [.ref 46, .int l1, .int 0]) dX7_layItem_147 (by decide) rfl rfl ?_
    obtain ⟨k_, h⟩ := h
    exact t_X7_layItem_148   Q   k_ l1 0 M51 h
def w_X7_layItem (p1 : Int32) (M : Mem) (Q : Int32 → Mem → Prop) : Prop := (vp_in p1 600) ∧ ((¬ ((M 72 (Int32.toNatClampNeg p1)) = 1) → (w_X7_layItem_21  Q  p1 M)) ∧ (((M 72 (Int32.toNatClampNeg p1)) = 1) → (w_X7_lay 48 M (fun v52 M53 => w_X7_lay 3 M53 (fun v54 M55 => w_X7_layItem_21  Q  p1 M55)))))
theorem t_X7_layItem (p1 : Int32) (M : Mem) (Q : Int32 → Mem → Prop) (h : w_X7_layItem  p1 M Q) : Ex true mX7_layItem 78 78 0 0 0 [.ref 46, .int p1, .null] [] M Q := by
  unfold w_X7_layItem at h
  refine ex_aload_n dX7_layItem_0 rfl ?_
  refine ex_getR (ci := 7) (j := 32) (v := 72) dX7_layItem_1 (by decide) rfl rfl lk_X7_90 rfl (by decide) ?_
  refine ex_iload_n dX7_layItem_4 rfl ?_
  obtain ⟨b1, h⟩ := h
  refine ex_iald dX7_layItem_5 (by decide) rfl b1 ?_
  refine ex_iconst (v := 1) dX7_layItem_6 (by decide) ?_
  refine ex_icmp_ne (tgt := 21) dX7_layItem_7 (by decide) (fun c_7 => ?_) (fun c_7 => ?_)
  · replace h := h.1 c_7
    exact t_X7_layItem_21   Q   p1 M h
  · replace h := h.2 c_7
    refine ex_aload_n dX7_layItem_10 rfl ?_
    refine ex_bipush (v := 48) dX7_layItem_11 (by decide) ?_
    refine ex_invV (k := 46) (ci := 7) (as := [.int 48]) (L2 := [.ref 46, .int 48]) (st := []) 0 0 dX7_layItem_13 lk_X7_231 sl_X7_lay (rmK_of rfl) (by decide) rfl ⟨by decide, rfl⟩ rfl (Nat.le_of_ble_eq_true rfl) (Nat.le_of_ble_eq_true rfl) (t_X7_lay   48 M _ h) (fun v52 M53 h => ?_)
    show Ex true mX7_layItem 78 78 0 0 16 [.ref 46, .int p1, .null] [] M53 Q
    refine ex_aload_n dX7_layItem_16 rfl ?_
    refine ex_iconst (v := 3) dX7_layItem_17 (by decide) ?_
    refine ex_invV (k := 46) (ci := 7) (as := [.int 3]) (L2 := [.ref 46, .int 3]) (st := []) 0 0 dX7_layItem_18 lk_X7_231 sl_X7_lay (rmK_of rfl) (by decide) rfl ⟨by decide, rfl⟩ rfl (Nat.le_of_ble_eq_true rfl) (Nat.le_of_ble_eq_true rfl) (t_X7_lay   3 M53 _ h) (fun v54 M55 h => ?_)
    show Ex true mX7_layItem 78 78 0 0 21 [.ref 46, .int p1, .null] [] M55 Q
    exact t_X7_layItem_21   Q   p1 M55 h
def w_X7_layBar_155 (Q : Int32 → Mem → Prop) (B29 : Int32 → Int32 → Mem → Prop) (B65 : Int32 → Int32 → Int32 → Int32 → Mem → Prop) (l1 : Int32) (l2 : Int32) (l3 : Int32) (l4 : Int32) (M : Mem) : Prop := (vp_in l4 1200) ∧ (∀ x17 : Int32, x17 = (M 63 (Int32.toNatClampNeg l4)) → w_X7_layItem l4 M (fun v18 M19 => ∀ x20 : Int32, x20 = l4 + 1 → B65 l1 l2 x17 x20 M19))
theorem t_X7_layBar_155 (Q : Int32 → Mem → Prop) (B29 : Int32 → Int32 → Mem → Prop) (B65 : Int32 → Int32 → Int32 → Int32 → Mem → Prop) (hB29 : ∀ (l1 : Int32) (l2 : Int32) (M : Mem), B29 l1 l2 M → Ex true mX7_layBar 78 78 0 0 29 [.ref 46, .int l1, .int l2, .null, .null] [] M Q) (hB65 : ∀ (l1 : Int32) (l2 : Int32) (l3 : Int32) (l4 : Int32) (M : Mem), B65 l1 l2 l3 l4 M → Ex true mX7_layBar 78 78 0 0 65 [.ref 46, .int l1, .int l2, .int l3, .int l4] [] M Q) (l1 : Int32) (l2 : Int32) (l3 : Int32) (l4 : Int32) (M : Mem) (h : w_X7_layBar_155  Q B29 B65 l1 l2 l3 l4 M) : Ex true mX7_layBar 78 78 0 0 155 [.ref 46, .int l1, .int l2, .int l3, .int l4] [] M Q := by
  unfold w_X7_layBar_155 at h
  refine ex_aload_n dX7_layBar_155 rfl ?_
  refine ex_getR (ci := 7) (j := 18) (v := 63) dX7_layBar_156 (by decide) rfl rfl lk_X7_62 rfl (by decide) ?_
  refine ex_iload dX7_layBar_159 rfl ?_
  obtain ⟨b16, h⟩ := h
  refine ex_iald dX7_layBar_161 (by decide) rfl b16 ?_
  refine ex_top (fun x17 ex17 => ?_)
  replace h := h x17 ex17
  refine ex_istore_n (L2 := [.ref 46, .int l1, .int l2, .int x17, .int l4]) dX7_layBar_162 (by decide) rfl rfl ?_
  refine ex_aload_n dX7_layBar_163 rfl ?_
  refine ex_iload dX7_layBar_164 rfl ?_
  refine ex_invV (k := 46) (ci := 7) (as := [.int l4]) (L2 := [.ref 46, .int l4, .null]) (st := []) 0 0 dX7_layBar_166 lk_X7_237 sl_X7_layItem (rmK_of rfl) (by decide) rfl ⟨by decide, rfl⟩ rfl (Nat.le_of_ble_eq_true rfl) (Nat.le_of_ble_eq_true rfl) (t_X7_layItem   l4 M _ h) (fun v18 M19 h => ?_)
  show Ex true mX7_layBar 78 78 0 0 169 [.ref 46, .int l1, .int l2, .int x17, .int l4] [] M19 Q
  refine ex_iinc (v := l4 + 1) (L2 := [.ref 46, .int l1, .int l2, .int x17, .int (l4 + 1)]) dX7_layBar_169 rfl rfl (by decide) rfl rfl ?_
  obtain ⟨x20, ex20⟩ : ∃ x20 : Int32, x20 = l4 + 1 := ⟨_, rfl⟩
  rw [← ex20]
  replace h := h x20 ex20
  refine ex_goto (tgt := 65) dX7_layBar_172 (by decide) ?_
  exact hB65 l1 l2 x17 x20 M19 h
def wb_X7_layBar_65 (Q : Int32 → Mem → Prop) (B29 : Int32 → Int32 → Mem → Prop) (B65 : Int32 → Int32 → Int32 → Int32 → Mem → Prop) (l1 : Int32) (l2 : Int32) (l3 : Int32) (l4 : Int32) (M : Mem) : Prop := (vp_in 0 2) ∧ ((((M 54 (Int32.toNatClampNeg 0)) ≤ l4) → (∀ x10 : Int32, x10 = l2 + 1 → B29 l1 x10 M)) ∧ (¬ ((M 54 (Int32.toNatClampNeg 0)) ≤ l4) → ((vp_in l4 1200) ∧ ((¬ ((M 58 (Int32.toNatClampNeg l4)) = l1) → (∀ x12 : Int32, x12 = l4 + 1 → B65 l1 l2 l3 x12 M)) ∧ (((M 58 (Int32.toNatClampNeg l4)) = l1) → ((vp_in l4 1200) ∧ ((¬ ((M 59 (Int32.toNatClampNeg l4)) = l2) → (∀ x14 : Int32, x14 = l4 + 1 → B65 l1 l2 l3 x14 M)) ∧ (((M 59 (Int32.toNatClampNeg l4)) = l2) → ((vp_in ((3 * l1) + l2) 180) ∧ ((¬ ((M 75 (Int32.toNatClampNeg ((3 * l1) + l2))) = 1) → (w_X7_layBar_155  Q B29 B65 l1 l2 l3 l4 M)) ∧ (((M 75 (Int32.toNatClampNeg ((3 * l1) + l2))) = 1) → ((vp_in l4 1200) ∧ ((((M 63 (Int32.toNatClampNeg l4)) = l3) → (w_X7_layBar_155  Q B29 B65 l1 l2 l3 l4 M)) ∧ (¬ ((M 63 (Int32.toNatClampNeg l4)) = l3) → ((vp_in l4 1200) ∧ (∀ z23 : Int32, z23 = (if (M 63 (Int32.toNatClampNeg l4)) = 0 then 24 else 32) → w_X7_lay z23 M (fun v24 M25 => w_X7_lay 35 M25 (fun v26 M27 => w_X7_lay 2 M27 (fun v28 M29 => w_X7_layBar_155  Q B29 B65 l1 l2 l3 l4 M29)))))))))))))))))))
def w_X7_layBar_65 (Q : Int32 → Mem → Prop) (B29 : Int32 → Int32 → Mem → Prop) : Nat → Int32 → Int32 → Int32 → Int32 → Mem → Prop
  | 0 => fun _ _ _ _ _ => False
  | k + 1 => wb_X7_layBar_65  Q B29 (w_X7_layBar_65  Q B29 k)
theorem t_X7_layBar_65 (Q : Int32 → Mem → Prop) (B29 : Int32 → Int32 → Mem → Prop) (hB29 : ∀ (l1 : Int32) (l2 : Int32) (M : Mem), B29 l1 l2 M → Ex true mX7_layBar 78 78 0 0 29 [.ref 46, .int l1, .int l2, .null, .null] [] M Q) : ∀ (k : Nat) (l1 : Int32) (l2 : Int32) (l3 : Int32) (l4 : Int32) (M : Mem), w_X7_layBar_65  Q B29 k l1 l2 l3 l4 M → Ex true mX7_layBar 78 78 0 0 65 [.ref 46, .int l1, .int l2, .int l3, .int l4] [] M Q := by
  intro k
  induction k with
  | zero => intro l1 l2 l3 l4 M h; exact False.elim h
  | succ k hB65 =>
    intro l1 l2 l3 l4 M h
    replace h : wb_X7_layBar_65  Q B29 (w_X7_layBar_65  Q B29 k) l1 l2 l3 l4 M := h
    generalize w_X7_layBar_65  Q B29 k = B65 at hB65 h
    unfold wb_X7_layBar_65 at h
    refine ex_iload dX7_layBar_65 rfl ?_
    refine ex_aload_n dX7_layBar_67 rfl ?_
    refine ex_getR (ci := 7) (j := 9) (v := 54) dX7_layBar_68 (by decide) rfl rfl lk_X7_35 rfl (by decide) ?_
    refine ex_iconst (v := 0) dX7_layBar_71 (by decide) ?_
    obtain ⟨b9, h⟩ := h
    refine ex_iald dX7_layBar_72 (by decide) rfl b9 ?_
    refine ex_icmp_ge (tgt := 175) dX7_layBar_73 (by decide) (fun c_73 => ?_) (fun c_73 => ?_)
    · replace h := h.1 c_73
      refine ex_iinc (v := l2 + 1) (L2 := [.ref 46, .int l1, .int (l2 + 1), .int l3, .int l4]) dX7_layBar_175 rfl rfl (by decide) rfl rfl ?_
      obtain ⟨x10, ex10⟩ : ∃ x10 : Int32, x10 = l2 + 1 := ⟨_, rfl⟩
      rw [← ex10]
      replace h := h x10 ex10
      refine ex_goto (tgt := 29) dX7_layBar_178 (by decide) ?_
      refine ex_less (L2 := [.ref 46, .int l1, .int x10, .null, .null]) ?_ (by intro i v hi hn; match i, hi with | 0, hi => exact hi | 1, hi => exact hi | 2, hi => exact hi | 3, hi => (cases hi; cases hn) | 4, hi => (cases hi; cases hn) | k + 5, hi => (exact absurd hi (by simp)))
      exact hB29 l1 x10 M h
    · replace h := h.2 c_73
      refine ex_aload_n dX7_layBar_76 rfl ?_
      refine ex_getR (ci := 7) (j := 13) (v := 58) dX7_layBar_77 (by decide) rfl rfl lk_X7_47 rfl (by decide) ?_
      refine ex_iload dX7_layBar_80 rfl ?_
      obtain ⟨b11, h⟩ := h
      refine ex_iald dX7_layBar_82 (by decide) rfl b11 ?_
      refine ex_iload_n dX7_layBar_83 rfl ?_
      refine ex_icmp_ne (tgt := 169) dX7_layBar_84 (by decide) (fun c_84 => ?_) (fun c_84 => ?_)
      · replace h := h.1 c_84
        refine ex_iinc (v := l4 + 1) (L2 := [.ref 46, .int l1, .int l2, .int l3, .int (l4 + 1)]) dX7_layBar_169 rfl rfl (by decide) rfl rfl ?_
        obtain ⟨x12, ex12⟩ : ∃ x12 : Int32, x12 = l4 + 1 := ⟨_, rfl⟩
        rw [← ex12]
        replace h := h x12 ex12
        refine ex_goto (tgt := 65) dX7_layBar_172 (by decide) ?_
        exact hB65 l1 l2 l3 x12 M h
      · replace h := h.2 c_84
        refine ex_aload_n dX7_layBar_87 rfl ?_
        refine ex_getR (ci := 7) (j := 14) (v := 59) dX7_layBar_88 (by decide) rfl rfl lk_X7_50 rfl (by decide) ?_
        refine ex_iload dX7_layBar_91 rfl ?_
        obtain ⟨b13, h⟩ := h
        refine ex_iald dX7_layBar_93 (by decide) rfl b13 ?_
        refine ex_iload_n dX7_layBar_94 rfl ?_
        refine ex_icmp_ne (tgt := 169) dX7_layBar_95 (by decide) (fun c_95 => ?_) (fun c_95 => ?_)
        · replace h := h.1 c_95
          refine ex_iinc (v := l4 + 1) (L2 := [.ref 46, .int l1, .int l2, .int l3, .int (l4 + 1)]) dX7_layBar_169 rfl rfl (by decide) rfl rfl ?_
          obtain ⟨x14, ex14⟩ : ∃ x14 : Int32, x14 = l4 + 1 := ⟨_, rfl⟩
          rw [← ex14]
          replace h := h x14 ex14
          refine ex_goto (tgt := 65) dX7_layBar_172 (by decide) ?_
          exact hB65 l1 l2 l3 x14 M h
        · replace h := h.2 c_95
          refine ex_aload_n dX7_layBar_98 rfl ?_
          refine ex_getR (ci := 7) (j := 35) (v := 75) dX7_layBar_99 (by decide) rfl rfl lk_X7_99 rfl (by decide) ?_
          refine ex_iconst (v := 3) dX7_layBar_102 (by decide) ?_
          refine ex_iload_n dX7_layBar_103 rfl ?_
          refine ex_imul dX7_layBar_104 ?_
          refine ex_iload_n dX7_layBar_105 rfl ?_
          refine ex_iadd dX7_layBar_106 ?_
          obtain ⟨b15, h⟩ := h
          refine ex_iald dX7_layBar_107 (by decide) rfl b15 ?_
          refine ex_iconst (v := 1) dX7_layBar_108 (by decide) ?_
          refine ex_icmp_ne (tgt := 155) dX7_layBar_109 (by decide) (fun c_109 => ?_) (fun c_109 => ?_)
          · replace h := h.1 c_109
            exact t_X7_layBar_155   Q B29 B65 hB29 hB65 l1 l2 l3 l4 M h
          · replace h := h.2 c_109
            refine ex_aload_n dX7_layBar_112 rfl ?_
            refine ex_getR (ci := 7) (j := 18) (v := 63) dX7_layBar_113 (by decide) rfl rfl lk_X7_62 rfl (by decide) ?_
            refine ex_iload dX7_layBar_116 rfl ?_
            obtain ⟨b21, h⟩ := h
            refine ex_iald dX7_layBar_118 (by decide) rfl b21 ?_
            refine ex_iload_n dX7_layBar_119 rfl ?_
            refine ex_icmp_eq (tgt := 155) dX7_layBar_120 (by decide) (fun c_120 => ?_) (fun c_120 => ?_)
            · replace h := h.1 c_120
              exact t_X7_layBar_155   Q B29 B65 hB29 hB65 l1 l2 l3 l4 M h
            · replace h := h.2 c_120
              refine ex_aload_n dX7_layBar_123 rfl ?_
              refine ex_aload_n dX7_layBar_124 rfl ?_
              refine ex_getR (ci := 7) (j := 18) (v := 63) dX7_layBar_125 (by decide) rfl rfl lk_X7_62 rfl (by decide) ?_
              refine ex_iload dX7_layBar_128 rfl ?_
              obtain ⟨b22, h⟩ := h
              refine ex_iald dX7_layBar_130 (by decide) rfl b22 ?_
              have hJ30 : ∀ z23 : Int32, z23 = (if (M 63 (Int32.toNatClampNeg l4)) = 0 then 24 else 32) → Ex true mX7_layBar 78 78 0 0 141 [.ref 46, .int l1, .int l2, .int l3, .int l4] [.int z23, .ref 46] M Q := by
                intro z23 ez23
                replace h := h z23 ez23
                refine ex_invV (k := 46) (ci := 7) (as := [.int z23]) (L2 := [.ref 46, .int z23]) (st := []) 0 0 dX7_layBar_141 lk_X7_231 sl_X7_lay (rmK_of rfl) (by decide) rfl ⟨by decide, rfl⟩ rfl (Nat.le_of_ble_eq_true rfl) (Nat.le_of_ble_eq_true rfl) (t_X7_lay   z23 M _ h) (fun v24 M25 h => ?_)
                show Ex true mX7_layBar 78 78 0 0 144 [.ref 46, .int l1, .int l2, .int l3, .int l4] [] M25 Q
                refine ex_aload_n dX7_layBar_144 rfl ?_
                refine ex_bipush (v := 35) dX7_layBar_145 (by decide) ?_
                refine ex_invV (k := 46) (ci := 7) (as := [.int 35]) (L2 := [.ref 46, .int 35]) (st := []) 0 0 dX7_layBar_147 lk_X7_231 sl_X7_lay (rmK_of rfl) (by decide) rfl ⟨by decide, rfl⟩ rfl (Nat.le_of_ble_eq_true rfl) (Nat.le_of_ble_eq_true rfl) (t_X7_lay   35 M25 _ h) (fun v26 M27 h => ?_)
                show Ex true mX7_layBar 78 78 0 0 150 [.ref 46, .int l1, .int l2, .int l3, .int l4] [] M27 Q
                refine ex_aload_n dX7_layBar_150 rfl ?_
                refine ex_iconst (v := 2) dX7_layBar_151 (by decide) ?_
                refine ex_invV (k := 46) (ci := 7) (as := [.int 2]) (L2 := [.ref 46, .int 2]) (st := []) 0 0 dX7_layBar_152 lk_X7_231 sl_X7_lay (rmK_of rfl) (by decide) rfl ⟨by decide, rfl⟩ rfl (Nat.le_of_ble_eq_true rfl) (Nat.le_of_ble_eq_true rfl) (t_X7_lay   2 M27 _ h) (fun v28 M29 h => ?_)
                show Ex true mX7_layBar 78 78 0 0 155 [.ref 46, .int l1, .int l2, .int l3, .int l4] [] M29 Q
                exact t_X7_layBar_155   Q B29 B65 hB29 hB65 l1 l2 l3 l4 M29 h
              refine ex_if_ne (tgt := 139) dX7_layBar_131 (by decide) (fun c_131 => ?_) (fun c_131 => ?_)
              ·
                refine ex_bipush (v := 32) dX7_layBar_139 (by decide) ?_
                exact hJ30 _ (by rw [if_neg c_131])
              ·
                refine ex_bipush (v := 24) dX7_layBar_134 (by decide) ?_
                refine ex_goto (tgt := 141) dX7_layBar_136 (by decide) ?_
                exact hJ30 _ (by rw [if_pos c_131])
def wb_X7_layBar_29 (Q : Int32 → Mem → Prop) (B29 : Int32 → Int32 → Mem → Prop) (l1 : Int32) (l2 : Int32) (M : Mem) : Prop := (vp_in l1 120) ∧ ((((M 57 (Int32.toNatClampNeg l1)) ≤ l2) → ((vp_in l1 120) ∧ (∀ z5 : Int32, z5 = (if (M 57 (Int32.toNatClampNeg l1)) ≤ 1 then 0 else 1) → (((M 46 27) ||| z5) = 0 ∨ ((M 46 27) ||| z5) = 1) ∧ (∀ M7 : Mem, M7 = (mset M 46 27 ((M 46 27) ||| z5)) → Q 0 M7)))) ∧ (¬ ((M 57 (Int32.toNatClampNeg l1)) ≤ l2) → (((l2 ≤ 0) → (∃ k, w_X7_layBar_65  Q B29 k l1 l2 (-1) 0 M)) ∧ (¬ (l2 ≤ 0) → (w_X7_lay 35 M (fun v31 M32 => w_X7_lay 28 M32 (fun v33 M34 => ∀ M35 : Mem, M35 = (mset M34 46 27 1) → ∃ k, w_X7_layBar_65  Q B29 k l1 l2 (-1) 0 M35)))))))
def w_X7_layBar_29 (Q : Int32 → Mem → Prop) : Nat → Int32 → Int32 → Mem → Prop
  | 0 => fun _ _ _ => False
  | k + 1 => wb_X7_layBar_29  Q  (w_X7_layBar_29  Q  k)
theorem t_X7_layBar_29 (Q : Int32 → Mem → Prop) : ∀ (k : Nat) (l1 : Int32) (l2 : Int32) (M : Mem), w_X7_layBar_29  Q  k l1 l2 M → Ex true mX7_layBar 78 78 0 0 29 [.ref 46, .int l1, .int l2, .null, .null] [] M Q := by
  intro k
  induction k with
  | zero => intro l1 l2 M h; exact False.elim h
  | succ k hB29 =>
    intro l1 l2 M h
    replace h : wb_X7_layBar_29  Q  (w_X7_layBar_29  Q  k) l1 l2 M := h
    generalize w_X7_layBar_29  Q  k = B29 at hB29 h
    unfold wb_X7_layBar_29 at h
    refine ex_iload_n dX7_layBar_29 rfl ?_
    refine ex_aload_n dX7_layBar_30 rfl ?_
    refine ex_getR (ci := 7) (j := 12) (v := 57) dX7_layBar_31 (by decide) rfl rfl lk_X7_44 rfl (by decide) ?_
    refine ex_iload_n dX7_layBar_34 rfl ?_
    obtain ⟨b3, h⟩ := h
    refine ex_iald dX7_layBar_35 (by decide) rfl b3 ?_
    refine ex_icmp_ge (tgt := 181) dX7_layBar_36 (by decide) (fun c_36 => ?_) (fun c_36 => ?_)
    · replace h := h.1 c_36
      refine ex_aload_n dX7_layBar_181 rfl ?_
      refine ex_dup dX7_layBar_182 rfl ?_
      refine ex_getI (ci := 7) (j := 27) dX7_layBar_183 (by decide) rfl rfl lk_X7_157 ?_
      refine ex_aload_n dX7_layBar_186 rfl ?_
      refine ex_getR (ci := 7) (j := 12) (v := 57) dX7_layBar_187 (by decide) rfl rfl lk_X7_44 rfl (by decide) ?_
      refine ex_iload_n dX7_layBar_190 rfl ?_
      obtain ⟨b4, h⟩ := h
      refine ex_iald dX7_layBar_191 (by decide) rfl b4 ?_
      refine ex_iconst (v := 1) dX7_layBar_192 (by decide) ?_
      have hJ8 : ∀ z5 : Int32, z5 = (if (M 57 (Int32.toNatClampNeg l1)) ≤ 1 then 0 else 1) → Ex true mX7_layBar 78 78 0 0 201 [.ref 46, .int l1, .int l2, .null, .null] [.int z5, .int (M 46 27), .ref 46] M Q := by
        intro z5 ez5
        replace h := h z5 ez5
        refine ex_ior dX7_layBar_201 ?_
        obtain ⟨b6, h⟩ := h
        refine ex_putI (ci := 7) (j := 27) dX7_layBar_202 (by decide) rfl rfl lk_X7_157 (nf01 b6) ?_
        refine ex_nmM (fun M7 eM7 => ?_)
        replace h := h M7 eM7
        exact ex_vret dX7_layBar_205 rfl rfl h
      refine ex_icmp_le (tgt := 200) dX7_layBar_193 (by decide) (fun c_193 => ?_) (fun c_193 => ?_)
      ·
        refine ex_iconst (v := 0) dX7_layBar_200 (by decide) ?_
        exact hJ8 _ (by rw [if_pos c_193])
      ·
        refine ex_iconst (v := 1) dX7_layBar_196 (by decide) ?_
        refine ex_goto (tgt := 201) dX7_layBar_197 (by decide) ?_
        exact hJ8 _ (by rw [if_neg c_193])
    · replace h := h.2 c_36
      refine ex_iload_n dX7_layBar_39 rfl ?_
      refine ex_if_le (tgt := 60) dX7_layBar_40 (by decide) (fun c_40 => ?_) (fun c_40 => ?_)
      · replace h := h.1 c_40
        refine ex_iconst (v := (-1)) dX7_layBar_60 (by decide) ?_
        refine ex_istore_n (L2 := [.ref 46, .int l1, .int l2, .int (-1), .null]) dX7_layBar_61 (by decide) rfl rfl ?_
        refine ex_iconst (v := 0) dX7_layBar_62 (by decide) ?_
        refine ex_istore (L2 := [.ref 46, .int l1, .int l2, .int (-1), .int 0]) dX7_layBar_63 (by decide) rfl rfl ?_
        obtain ⟨k_, h⟩ := h
        exact t_X7_layBar_65   Q B29 hB29 k_ l1 l2 (-1) 0 M h
      · replace h := h.2 c_40
        refine ex_aload_n dX7_layBar_43 rfl ?_
        refine ex_bipush (v := 35) dX7_layBar_44 (by decide) ?_
        refine ex_invV (k := 46) (ci := 7) (as := [.int 35]) (L2 := [.ref 46, .int 35]) (st := []) 0 0 dX7_layBar_46 lk_X7_231 sl_X7_lay (rmK_of rfl) (by decide) rfl ⟨by decide, rfl⟩ rfl (Nat.le_of_ble_eq_true rfl) (Nat.le_of_ble_eq_true rfl) (t_X7_lay   35 M _ h) (fun v31 M32 h => ?_)
        show Ex true mX7_layBar 78 78 0 0 49 [.ref 46, .int l1, .int l2, .null, .null] [] M32 Q
        refine ex_aload_n dX7_layBar_49 rfl ?_
        refine ex_bipush (v := 28) dX7_layBar_50 (by decide) ?_
        refine ex_invV (k := 46) (ci := 7) (as := [.int 28]) (L2 := [.ref 46, .int 28]) (st := []) 0 0 dX7_layBar_52 lk_X7_231 sl_X7_lay (rmK_of rfl) (by decide) rfl ⟨by decide, rfl⟩ rfl (Nat.le_of_ble_eq_true rfl) (Nat.le_of_ble_eq_true rfl) (t_X7_lay   28 M32 _ h) (fun v33 M34 h => ?_)
        show Ex true mX7_layBar 78 78 0 0 55 [.ref 46, .int l1, .int l2, .null, .null] [] M34 Q
        refine ex_aload_n dX7_layBar_55 rfl ?_
        refine ex_iconst (v := 1) dX7_layBar_56 (by decide) ?_
        refine ex_putI (ci := 7) (j := 27) dX7_layBar_57 (by decide) rfl rfl lk_X7_157 ⟨rfl, rfl⟩ ?_
        refine ex_nmM (fun M35 eM35 => ?_)
        replace h := h M35 eM35
        refine ex_iconst (v := (-1)) dX7_layBar_60 (by decide) ?_
        refine ex_istore_n (L2 := [.ref 46, .int l1, .int l2, .int (-1), .null]) dX7_layBar_61 (by decide) rfl rfl ?_
        refine ex_iconst (v := 0) dX7_layBar_62 (by decide) ?_
        refine ex_istore (L2 := [.ref 46, .int l1, .int l2, .int (-1), .int 0]) dX7_layBar_63 (by decide) rfl rfl ?_
        obtain ⟨k_, h⟩ := h
        exact t_X7_layBar_65   Q B29 hB29 k_ l1 l2 (-1) 0 M35 h
def w_X7_layBar (p1 : Int32) (M : Mem) (Q : Int32 → Mem → Prop) : Prop := ∀ M1 : Mem, M1 = (mset M 46 37 0) → (vp_in p1 120) ∧ ((¬ ((M1 56 (Int32.toNatClampNeg p1)) = 1) → (∃ k, w_X7_layBar_29  Q  k p1 0 M1)) ∧ (((M1 56 (Int32.toNatClampNeg p1)) = 1) → (w_X7_lay 54 M1 (fun v36 M37 => ∀ M38 : Mem, M38 = (mset M37 46 27 1) → Q 0 M38))))
theorem t_X7_layBar (p1 : Int32) (M : Mem) (Q : Int32 → Mem → Prop) (h : w_X7_layBar  p1 M Q) : Ex true mX7_layBar 78 78 0 0 0 [.ref 46, .int p1, .null, .null, .null] [] M Q := by
  unfold w_X7_layBar at h
  refine ex_aload_n dX7_layBar_0 rfl ?_
  refine ex_iconst (v := 0) dX7_layBar_1 (by decide) ?_
  refine ex_putI (ci := 7) (j := 37) dX7_layBar_2 (by decide) rfl rfl lk_X7_228 ⟨rfl, rfl⟩ ?_
  refine ex_nmM (fun M1 eM1 => ?_)
  replace h := h M1 eM1
  refine ex_aload_n dX7_layBar_5 rfl ?_
  refine ex_getR (ci := 7) (j := 11) (v := 56) dX7_layBar_6 (by decide) rfl rfl lk_X7_41 rfl (by decide) ?_
  refine ex_iload_n dX7_layBar_9 rfl ?_
  obtain ⟨b2, h⟩ := h
  refine ex_iald dX7_layBar_10 (by decide) rfl b2 ?_
  refine ex_iconst (v := 1) dX7_layBar_11 (by decide) ?_
  refine ex_icmp_ne (tgt := 27) dX7_layBar_12 (by decide) (fun c_12 => ?_) (fun c_12 => ?_)
  · replace h := h.1 c_12
    refine ex_iconst (v := 0) dX7_layBar_27 (by decide) ?_
    refine ex_istore_n (L2 := [.ref 46, .int p1, .int 0, .null, .null]) dX7_layBar_28 (by decide) rfl rfl ?_
    obtain ⟨k_, h⟩ := h
    exact t_X7_layBar_29   Q   k_ p1 0 M1 h
  · replace h := h.2 c_12
    refine ex_aload_n dX7_layBar_15 rfl ?_
    refine ex_bipush (v := 54) dX7_layBar_16 (by decide) ?_
    refine ex_invV (k := 46) (ci := 7) (as := [.int 54]) (L2 := [.ref 46, .int 54]) (st := []) 0 0 dX7_layBar_18 lk_X7_231 sl_X7_lay (rmK_of rfl) (by decide) rfl ⟨by decide, rfl⟩ rfl (Nat.le_of_ble_eq_true rfl) (Nat.le_of_ble_eq_true rfl) (t_X7_lay   54 M1 _ h) (fun v36 M37 h => ?_)
    show Ex true mX7_layBar 78 78 0 0 21 [.ref 46, .int p1, .null, .null, .null] [] M37 Q
    refine ex_aload_n dX7_layBar_21 rfl ?_
    refine ex_iconst (v := 1) dX7_layBar_22 (by decide) ?_
    refine ex_putI (ci := 7) (j := 27) dX7_layBar_23 (by decide) rfl rfl lk_X7_157 ⟨rfl, rfl⟩ ?_
    refine ex_nmM (fun M38 eM38 => ?_)
    replace h := h M38 eM38
    exact ex_vret dX7_layBar_26 rfl rfl h
def wb_X7_write_362 (Q : Int32 → Mem → Prop) (B362 : Int32 → Int32 → Int32 → Int32 → Mem → Prop) (l1 : Int32) (l2 : Int32) (l3 : Int32) (l4 : Int32) (M : Mem) : Prop := ((l2 ≤ l4) → (∀ M11 : Mem, M11 = (mset M 46 6 l2) → Q l2 M11)) ∧ (¬ (l2 ≤ l4) → ((vp_in l4 4000) ∧ ((vp_in l4 4000) ∧ (∀ M14 : Mem, M14 = (mset M 52 (Int32.toNatClampNeg l4) (M 77 (Int32.toNatClampNeg l4))) → ∀ x15 : Int32, x15 = l4 + 1 → B362 l1 l2 l3 x15 M14))))
def w_X7_write_362 (Q : Int32 → Mem → Prop) : Nat → Int32 → Int32 → Int32 → Int32 → Mem → Prop
  | 0 => fun _ _ _ _ _ => False
  | k + 1 => wb_X7_write_362  Q  (w_X7_write_362  Q  k)
theorem t_X7_write_362 (Q : Int32 → Mem → Prop) : ∀ (k : Nat) (l1 : Int32) (l2 : Int32) (l3 : Int32) (l4 : Int32) (M : Mem), w_X7_write_362  Q  k l1 l2 l3 l4 M → Ex true mX7_write 78 78 0 0 362 [.ref 46, .int l1, .int l2, .int l3, .int l4, .null, .null, .null, .null] [] M Q := by
  intro k
  induction k with
  | zero => intro l1 l2 l3 l4 M h; exact False.elim h
  | succ k hB362 =>
    intro l1 l2 l3 l4 M h
    replace h : wb_X7_write_362  Q  (w_X7_write_362  Q  k) l1 l2 l3 l4 M := h
    generalize w_X7_write_362  Q  k = B362 at hB362 h
    unfold wb_X7_write_362 at h
    refine ex_iload dX7_write_362 rfl ?_
    refine ex_iload_n dX7_write_364 rfl ?_
    refine ex_icmp_ge (tgt := 388) dX7_write_365 (by decide) (fun c_365 => ?_) (fun c_365 => ?_)
    · replace h := h.1 c_365
      refine ex_aload_n dX7_write_388 rfl ?_
      refine ex_iload_n dX7_write_389 rfl ?_
      refine ex_putI (ci := 7) (j := 6) dX7_write_390 (by decide) rfl rfl lk_X7_108 ⟨rfl, rfl⟩ ?_
      refine ex_nmM (fun M11 eM11 => ?_)
      replace h := h M11 eM11
      refine ex_iload_n dX7_write_393 rfl ?_
      exact ex_iret dX7_write_394 rfl rfl rfl h
    · replace h := h.2 c_365
      refine ex_aload_n dX7_write_368 rfl ?_
      refine ex_getR (ci := 7) (j := 5) (v := 52) dX7_write_369 (by decide) rfl rfl lk_X7_25 rfl (by decide) ?_
      refine ex_iload dX7_write_372 rfl ?_
      refine ex_aload_n dX7_write_374 rfl ?_
      refine ex_getR (ci := 7) (j := 38) (v := 77) dX7_write_375 (by decide) rfl rfl lk_X7_105 rfl (by decide) ?_
      refine ex_iload dX7_write_378 rfl ?_
      obtain ⟨b12, h⟩ := h
      refine ex_iald dX7_write_380 (by decide) rfl b12 ?_
      obtain ⟨b13, h⟩ := h
      refine ex_iast dX7_write_381 (by decide) rfl b13 ?_
      refine ex_nmM (fun M14 eM14 => ?_)
      replace h := h M14 eM14
      refine ex_iinc (v := l4 + 1) (L2 := [.ref 46, .int l1, .int l2, .int l3, .int (l4 + 1), .null, .null, .null, .null]) dX7_write_382 rfl rfl (by decide) rfl rfl ?_
      obtain ⟨x15, ex15⟩ : ∃ x15 : Int32, x15 = l4 + 1 := ⟨_, rfl⟩
      rw [← ex15]
      replace h := h x15 ex15
      refine ex_goto (tgt := 362) dX7_write_385 (by decide) ?_
      exact hB362 l1 l2 l3 x15 M14 h
def wb_X7_write_295 (Q : Int32 → Mem → Prop) (B160 : Int32 → Int32 → Int32 → Int32 → Mem → Prop) (B295 : Int32 → Int32 → Int32 → Int32 → Int32 → Int32 → Int32 → Int32 → Mem → Prop) (l1 : Int32) (l2 : Int32) (l3 : Int32) (l4 : Int32) (l5 : Int32) (l6 : Int32) (l7 : Int32) (l8 : Int32) (M : Mem) : Prop := (((M 46 37) ≤ l8) → (∀ x20 : Int32, x20 = (l3 + (l6 + (M 46 37))) → ∀ x21 : Int32, x21 = l4 + 1 → B160 l1 l2 x20 x21 M)) ∧ (¬ ((M 46 37) ≤ l8) → (((4000 ≤ l2) → (∀ x22 : Int32, x22 = l2 + 1 → ∀ x23 : Int32, x23 = l8 + 1 → B295 l1 x22 l3 l4 l5 l6 l7 x23 M)) ∧ (¬ (4000 ≤ l2) → ((vp_in l8 4000) ∧ ((vp_in l2 4000) ∧ (∀ M26 : Mem, M26 = (mset M 77 (Int32.toNatClampNeg l2) (M 76 (Int32.toNatClampNeg l8))) → ∀ x27 : Int32, x27 = l2 + 1 → ∀ x28 : Int32, x28 = l8 + 1 → B295 l1 x27 l3 l4 l5 l6 l7 x28 M26))))))
def w_X7_write_295 (Q : Int32 → Mem → Prop) (B160 : Int32 → Int32 → Int32 → Int32 → Mem → Prop) : Nat → Int32 → Int32 → Int32 → Int32 → Int32 → Int32 → Int32 → Int32 → Mem → Prop
  | 0 => fun _ _ _ _ _ _ _ _ _ => False
  | k + 1 => wb_X7_write_295  Q B160 (w_X7_write_295  Q B160 k)
theorem t_X7_write_295 (Q : Int32 → Mem → Prop) (B160 : Int32 → Int32 → Int32 → Int32 → Mem → Prop) (hB160 : ∀ (l1 : Int32) (l2 : Int32) (l3 : Int32) (l4 : Int32) (M : Mem), B160 l1 l2 l3 l4 M → Ex true mX7_write 78 78 0 0 160 [.ref 46, .int l1, .int l2, .int l3, .int l4, .null, .null, .null, .null] [] M Q) : ∀ (k : Nat) (l1 : Int32) (l2 : Int32) (l3 : Int32) (l4 : Int32) (l5 : Int32) (l6 : Int32) (l7 : Int32) (l8 : Int32) (M : Mem), w_X7_write_295  Q B160 k l1 l2 l3 l4 l5 l6 l7 l8 M → Ex true mX7_write 78 78 0 0 295 [.ref 46, .int l1, .int l2, .int l3, .int l4, .int l5, .int l6, .int l7, .int l8] [] M Q := by
  intro k
  induction k with
  | zero => intro l1 l2 l3 l4 l5 l6 l7 l8 M h; exact False.elim h
  | succ k hB295 =>
    intro l1 l2 l3 l4 l5 l6 l7 l8 M h
    replace h : wb_X7_write_295  Q B160 (w_X7_write_295  Q B160 k) l1 l2 l3 l4 l5 l6 l7 l8 M := h
    generalize w_X7_write_295  Q B160 k = B295 at hB295 h
    unfold wb_X7_write_295 at h
    refine ex_iload dX7_write_295 rfl ?_
    refine ex_aload_n dX7_write_297 rfl ?_
    refine ex_getI (ci := 7) (j := 37) dX7_write_298 (by decide) rfl rfl lk_X7_228 ?_
    refine ex_icmp_ge (tgt := 333) dX7_write_301 (by decide) (fun c_301 => ?_) (fun c_301 => ?_)
    · replace h := h.1 c_301
      refine ex_iload_n dX7_write_333 rfl ?_
      refine ex_iload dX7_write_334 rfl ?_
      refine ex_aload_n dX7_write_336 rfl ?_
      refine ex_getI (ci := 7) (j := 37) dX7_write_337 (by decide) rfl rfl lk_X7_228 ?_
      refine ex_iadd dX7_write_340 ?_
      refine ex_iadd dX7_write_341 ?_
      refine ex_top (fun x20 ex20 => ?_)
      replace h := h x20 ex20
      refine ex_istore_n (L2 := [.ref 46, .int l1, .int l2, .int x20, .int l4, .int l5, .int l6, .int l7, .int l8]) dX7_write_342 (by decide) rfl rfl ?_
      refine ex_iinc (v := l4 + 1) (L2 := [.ref 46, .int l1, .int l2, .int x20, .int (l4 + 1), .int l5, .int l6, .int l7, .int l8]) dX7_write_343 rfl rfl (by decide) rfl rfl ?_
      obtain ⟨x21, ex21⟩ : ∃ x21 : Int32, x21 = l4 + 1 := ⟨_, rfl⟩
      rw [← ex21]
      replace h := h x21 ex21
      refine ex_goto (tgt := 160) dX7_write_346 (by decide) ?_
      refine ex_less (L2 := [.ref 46, .int l1, .int l2, .int x20, .int x21, .null, .null, .null, .null]) ?_ (by intro i v hi hn; match i, hi with | 0, hi => exact hi | 1, hi => exact hi | 2, hi => exact hi | 3, hi => exact hi | 4, hi => exact hi | 5, hi => (cases hi; cases hn) | 6, hi => (cases hi; cases hn) | 7, hi => (cases hi; cases hn) | 8, hi => (cases hi; cases hn) | k + 9, hi => (exact absurd hi (by simp)))
      exact hB160 l1 l2 x20 x21 M h
    · replace h := h.2 c_301
      refine ex_iload_n dX7_write_304 rfl ?_
      refine ex_sipush (v := 4000) dX7_write_305 (by decide) ?_
      refine ex_icmp_ge (tgt := 324) dX7_write_308 (by decide) (fun c_308 => ?_) (fun c_308 => ?_)
      · replace h := h.1 c_308
        refine ex_iinc (v := l2 + 1) (L2 := [.ref 46, .int l1, .int (l2 + 1), .int l3, .int l4, .int l5, .int l6, .int l7, .int l8]) dX7_write_324 rfl rfl (by decide) rfl rfl ?_
        obtain ⟨x22, ex22⟩ : ∃ x22 : Int32, x22 = l2 + 1 := ⟨_, rfl⟩
        rw [← ex22]
        replace h := h x22 ex22
        refine ex_iinc (v := l8 + 1) (L2 := [.ref 46, .int l1, .int x22, .int l3, .int l4, .int l5, .int l6, .int l7, .int (l8 + 1)]) dX7_write_327 rfl rfl (by decide) rfl rfl ?_
        obtain ⟨x23, ex23⟩ : ∃ x23 : Int32, x23 = l8 + 1 := ⟨_, rfl⟩
        rw [← ex23]
        replace h := h x23 ex23
        refine ex_goto (tgt := 295) dX7_write_330 (by decide) ?_
        exact hB295 l1 x22 l3 l4 l5 l6 l7 x23 M h
      · replace h := h.2 c_308
        refine ex_aload_n dX7_write_311 rfl ?_
        refine ex_getR (ci := 7) (j := 38) (v := 77) dX7_write_312 (by decide) rfl rfl lk_X7_105 rfl (by decide) ?_
        refine ex_iload_n dX7_write_315 rfl ?_
        refine ex_aload_n dX7_write_316 rfl ?_
        refine ex_getR (ci := 7) (j := 36) (v := 76) dX7_write_317 (by decide) rfl rfl lk_X7_102 rfl (by decide) ?_
        refine ex_iload dX7_write_320 rfl ?_
        obtain ⟨b24, h⟩ := h
        refine ex_iald dX7_write_322 (by decide) rfl b24 ?_
        obtain ⟨b25, h⟩ := h
        refine ex_iast dX7_write_323 (by decide) rfl b25 ?_
        refine ex_nmM (fun M26 eM26 => ?_)
        replace h := h M26 eM26
        refine ex_iinc (v := l2 + 1) (L2 := [.ref 46, .int l1, .int (l2 + 1), .int l3, .int l4, .int l5, .int l6, .int l7, .int l8]) dX7_write_324 rfl rfl (by decide) rfl rfl ?_
        obtain ⟨x27, ex27⟩ : ∃ x27 : Int32, x27 = l2 + 1 := ⟨_, rfl⟩
        rw [← ex27]
        replace h := h x27 ex27
        refine ex_iinc (v := l8 + 1) (L2 := [.ref 46, .int l1, .int x27, .int l3, .int l4, .int l5, .int l6, .int l7, .int (l8 + 1)]) dX7_write_327 rfl rfl (by decide) rfl rfl ?_
        obtain ⟨x28, ex28⟩ : ∃ x28 : Int32, x28 = l8 + 1 := ⟨_, rfl⟩
        rw [← ex28]
        replace h := h x28 ex28
        refine ex_goto (tgt := 295) dX7_write_330 (by decide) ?_
        exact hB295 l1 x27 l3 l4 l5 l6 l7 x28 M26 h
def w_X7_write_240 (Q : Int32 → Mem → Prop) (B160 : Int32 → Int32 → Int32 → Int32 → Mem → Prop) (l1 : Int32) (l2 : Int32) (l3 : Int32) (l4 : Int32) (l5 : Int32) (l6 : Int32) (l7 : Int32) (M : Mem) : Prop := ((((l3 + l6) + (M 46 37)) ≤ l1) → (((l4 ≤ 0) → (∃ k, w_X7_write_295  Q B160 k l1 l2 l3 l4 l5 l6 l7 0 M)) ∧ (¬ (l4 ≤ 0) → (((4000 ≤ l2) → (∀ x29 : Int32, x29 = l2 + 1 → ∃ k, w_X7_write_295  Q B160 k l1 x29 l3 l4 l5 l6 l7 0 M)) ∧ (¬ (4000 ≤ l2) → (∀ z30 : Int32, z30 = (if l7 = 1 then 64 else 0) → (vp_in l2 4000) ∧ (∀ M32 : Mem, M32 = (mset M 77 (Int32.toNatClampNeg l2) z30) → ∀ x33 : Int32, x33 = l2 + 1 → ∃ k, w_X7_write_295  Q B160 k l1 x33 l3 l4 l5 l6 l7 0 M32))))))) ∧ (¬ (((l3 + l6) + (M 46 37)) ≤ l1) → (Q ((-10) - l4) M))
theorem t_X7_write_240 (Q : Int32 → Mem → Prop) (B160 : Int32 → Int32 → Int32 → Int32 → Mem → Prop) (hB160 : ∀ (l1 : Int32) (l2 : Int32) (l3 : Int32) (l4 : Int32) (M : Mem), B160 l1 l2 l3 l4 M → Ex true mX7_write 78 78 0 0 160 [.ref 46, .int l1, .int l2, .int l3, .int l4, .null, .null, .null, .null] [] M Q) (l1 : Int32) (l2 : Int32) (l3 : Int32) (l4 : Int32) (l5 : Int32) (l6 : Int32) (l7 : Int32) (M : Mem) (h : w_X7_write_240  Q B160 l1 l2 l3 l4 l5 l6 l7 M) : Ex true mX7_write 78 78 0 0 240 [.ref 46, .int l1, .int l2, .int l3, .int l4, .int l5, .int l6, .int l7, .null] [] M Q := by
  unfold w_X7_write_240 at h
  refine ex_iload_n dX7_write_240 rfl ?_
  refine ex_iload dX7_write_241 rfl ?_
  refine ex_iadd dX7_write_243 ?_
  refine ex_aload_n dX7_write_244 rfl ?_
  refine ex_getI (ci := 7) (j := 37) dX7_write_245 (by decide) rfl rfl lk_X7_228 ?_
  refine ex_iadd dX7_write_248 ?_
  refine ex_iload_n dX7_write_249 rfl ?_
  refine ex_icmp_le (tgt := 259) dX7_write_250 (by decide) (fun c_250 => ?_) (fun c_250 => ?_)
  · replace h := h.1 c_250
    refine ex_iload dX7_write_259 rfl ?_
    refine ex_if_le (tgt := 292) dX7_write_261 (by decide) (fun c_261 => ?_) (fun c_261 => ?_)
    · replace h := h.1 c_261
      refine ex_iconst (v := 0) dX7_write_292 (by decide) ?_
      refine ex_istore (L2 := [.ref 46, .int l1, .int l2, .int l3, .int l4, .int l5, .int l6, .int l7, .int 0]) dX7_write_293 (by decide) rfl rfl ?_
      obtain ⟨k_, h⟩ := h
      exact t_X7_write_295   Q B160 hB160 k_ l1 l2 l3 l4 l5 l6 l7 0 M h
    · replace h := h.2 c_261
      refine ex_iload_n dX7_write_264 rfl ?_
      refine ex_sipush (v := 4000) dX7_write_265 (by decide) ?_
      refine ex_icmp_ge (tgt := 289) dX7_write_268 (by decide) (fun c_268 => ?_) (fun c_268 => ?_)
      · replace h := h.1 c_268
        refine ex_iinc (v := l2 + 1) (L2 := [.ref 46, .int l1, .int (l2 + 1), .int l3, .int l4, .int l5, .int l6, .int l7, .null]) dX7_write_289 rfl rfl (by decide) rfl rfl ?_
        obtain ⟨x29, ex29⟩ : ∃ x29 : Int32, x29 = l2 + 1 := ⟨_, rfl⟩
        rw [← ex29]
        replace h := h x29 ex29
        refine ex_iconst (v := 0) dX7_write_292 (by decide) ?_
        refine ex_istore (L2 := [.ref 46, .int l1, .int x29, .int l3, .int l4, .int l5, .int l6, .int l7, .int 0]) dX7_write_293 (by decide) rfl rfl ?_
        obtain ⟨k_, h⟩ := h
        exact t_X7_write_295   Q B160 hB160 k_ l1 x29 l3 l4 l5 l6 l7 0 M h
      · replace h := h.2 c_268
        refine ex_aload_n dX7_write_271 rfl ?_
        refine ex_getR (ci := 7) (j := 38) (v := 77) dX7_write_272 (by decide) rfl rfl lk_X7_105 rfl (by decide) ?_
        refine ex_iload_n dX7_write_275 rfl ?_
        refine ex_iload dX7_write_276 rfl ?_
        refine ex_iconst (v := 1) dX7_write_278 (by decide) ?_
        have hJ34 : ∀ z30 : Int32, z30 = (if l7 = 1 then 64 else 0) → Ex true mX7_write 78 78 0 0 288 [.ref 46, .int l1, .int l2, .int l3, .int l4, .int l5, .int l6, .int l7, .null] [.int z30, .int l2, .ref 77] M Q := by
          intro z30 ez30
          replace h := h z30 ez30
          obtain ⟨b31, h⟩ := h
          refine ex_iast dX7_write_288 (by decide) rfl b31 ?_
          refine ex_nmM (fun M32 eM32 => ?_)
          replace h := h M32 eM32
          refine ex_iinc (v := l2 + 1) (L2 := [.ref 46, .int l1, .int (l2 + 1), .int l3, .int l4, .int l5, .int l6, .int l7, .null]) dX7_write_289 rfl rfl (by decide) rfl rfl ?_
          obtain ⟨x33, ex33⟩ : ∃ x33 : Int32, x33 = l2 + 1 := ⟨_, rfl⟩
          rw [← ex33]
          replace h := h x33 ex33
          refine ex_iconst (v := 0) dX7_write_292 (by decide) ?_
          refine ex_istore (L2 := [.ref 46, .int l1, .int x33, .int l3, .int l4, .int l5, .int l6, .int l7, .int 0]) dX7_write_293 (by decide) rfl rfl ?_
          obtain ⟨k_, h⟩ := h
          exact t_X7_write_295   Q B160 hB160 k_ l1 x33 l3 l4 l5 l6 l7 0 M32 h
        refine ex_icmp_ne (tgt := 287) dX7_write_279 (by decide) (fun c_279 => ?_) (fun c_279 => ?_)
        ·
          refine ex_iconst (v := 0) dX7_write_287 (by decide) ?_
          exact hJ34 _ (by rw [if_neg c_279])
        ·
          refine ex_bipush (v := 64) dX7_write_282 (by decide) ?_
          refine ex_goto (tgt := 288) dX7_write_284 (by decide) ?_
          exact hJ34 _ (by rw [if_pos c_279])
  · replace h := h.2 c_250
    refine ex_bipush (v := (-10)) dX7_write_253 (by decide) ?_
    refine ex_iload dX7_write_255 rfl ?_
    refine ex_isub dX7_write_257 ?_
    exact ex_iret dX7_write_258 rfl rfl rfl h
def wb_X7_write_160 (Q : Int32 → Mem → Prop) (B160 : Int32 → Int32 → Int32 → Int32 → Mem → Prop) (l1 : Int32) (l2 : Int32) (l3 : Int32) (l4 : Int32) (M : Mem) : Prop := (vp_in 0 2) ∧ ((((M 53 (Int32.toNatClampNeg 0)) ≤ l4) → (((l2 ≤ 4000) → (∃ k, w_X7_write_362  Q  k l1 l2 l3 0 M)) ∧ (¬ (l2 ≤ 4000) → (Q (-4) M)))) ∧ (¬ ((M 53 (Int32.toNatClampNeg 0)) ≤ l4) → (∀ x16 : Int32, x16 = (M 46 28) → w_X7_layBar l4 M (fun v17 M18 => ∀ z19 : Int32, z19 = (if l4 = 0 then 0 else 1) → ((l4 ≤ 0) → (w_X7_write_240  Q B160 l1 l2 l3 l4 x16 z19 0 M18)) ∧ (¬ (l4 ≤ 0) → (((((l3 + 1) + (M18 46 37)) ≤ l1) → (w_X7_write_240  Q B160 l1 l2 l3 l4 x16 z19 0 M18)) ∧ (¬ (((l3 + 1) + (M18 46 37)) ≤ l1) → (∀ M35 : Mem, M35 = (mset M18 46 27 1) → ∀ M36 : Mem, M36 = (mset M35 46 28 x16) → w_X7_layBar l4 M36 (fun v37 M38 => w_X7_write_240  Q B160 l1 l2 0 l4 x16 0 1 M38)))))))))
def w_X7_write_160 (Q : Int32 → Mem → Prop) : Nat → Int32 → Int32 → Int32 → Int32 → Mem → Prop
  | 0 => fun _ _ _ _ _ => False
  | k + 1 => wb_X7_write_160  Q  (w_X7_write_160  Q  k)
theorem t_X7_write_160 (Q : Int32 → Mem → Prop) : ∀ (k : Nat) (l1 : Int32) (l2 : Int32) (l3 : Int32) (l4 : Int32) (M : Mem), w_X7_write_160  Q  k l1 l2 l3 l4 M → Ex true mX7_write 78 78 0 0 160 [.ref 46, .int l1, .int l2, .int l3, .int l4, .null, .null, .null, .null] [] M Q := by
  intro k
  induction k with
  | zero => intro l1 l2 l3 l4 M h; exact False.elim h
  | succ k hB160 =>
    intro l1 l2 l3 l4 M h
    replace h : wb_X7_write_160  Q  (w_X7_write_160  Q  k) l1 l2 l3 l4 M := h
    generalize w_X7_write_160  Q  k = B160 at hB160 h
    unfold wb_X7_write_160 at h
    refine ex_iload dX7_write_160 rfl ?_
    refine ex_aload_n dX7_write_162 rfl ?_
    refine ex_getR (ci := 7) (j := 8) (v := 53) dX7_write_163 (by decide) rfl rfl lk_X7_32 rfl (by decide) ?_
    refine ex_iconst (v := 0) dX7_write_166 (by decide) ?_
    obtain ⟨b10, h⟩ := h
    refine ex_iald dX7_write_167 (by decide) rfl b10 ?_
    refine ex_icmp_ge (tgt := 349) dX7_write_168 (by decide) (fun c_168 => ?_) (fun c_168 => ?_)
    · replace h := h.1 c_168
      refine ex_iload_n dX7_write_349 rfl ?_
      refine ex_sipush (v := 4000) dX7_write_350 (by decide) ?_
      refine ex_icmp_le (tgt := 359) dX7_write_353 (by decide) (fun c_353 => ?_) (fun c_353 => ?_)
      · replace h := h.1 c_353
        refine ex_iconst (v := 0) dX7_write_359 (by decide) ?_
        refine ex_istore (L2 := [.ref 46, .int l1, .int l2, .int l3, .int 0, .null, .null, .null, .null]) dX7_write_360 (by decide) rfl rfl ?_
        obtain ⟨k_, h⟩ := h
        exact t_X7_write_362   Q   k_ l1 l2 l3 0 M h
      · replace h := h.2 c_353
        refine ex_bipush (v := (-4)) dX7_write_356 (by decide) ?_
        exact ex_iret dX7_write_358 rfl rfl rfl h
    · replace h := h.2 c_168
      refine ex_aload_n dX7_write_171 rfl ?_
      refine ex_getI (ci := 7) (j := 28) dX7_write_172 (by decide) rfl rfl lk_X7_160 ?_
      refine ex_top (fun x16 ex16 => ?_)
      replace h := h x16 ex16
      refine ex_istore (L2 := [.ref 46, .int l1, .int l2, .int l3, .int l4, .int x16, .null, .null, .null]) dX7_write_175 (by decide) rfl rfl ?_
      refine ex_aload_n dX7_write_177 rfl ?_
      refine ex_iload dX7_write_178 rfl ?_
      refine ex_invV (k := 46) (ci := 7) (as := [.int l4]) (L2 := [.ref 46, .int l4, .null, .null, .null]) (st := []) 0 0 dX7_write_180 lk_X7_246 sl_X7_layBar (rmK_of rfl) (by decide) rfl ⟨by decide, rfl⟩ rfl (Nat.le_of_ble_eq_true rfl) (Nat.le_of_ble_eq_true rfl) (t_X7_layBar   l4 M _ h) (fun v17 M18 h => ?_)
      show Ex true mX7_write 78 78 0 0 183 [.ref 46, .int l1, .int l2, .int l3, .int l4, .int x16, .null, .null, .null] [] M18 Q
      refine ex_iload dX7_write_183 rfl ?_
      have hJ39 : ∀ z19 : Int32, z19 = (if l4 = 0 then 0 else 1) → Ex true mX7_write 78 78 0 0 193 [.ref 46, .int l1, .int l2, .int l3, .int l4, .int x16, .null, .null, .null] [.int z19] M18 Q := by
        intro z19 ez19
        replace h := h z19 ez19
        refine ex_istore (L2 := [.ref 46, .int l1, .int l2, .int l3, .int l4, .int x16, .int z19, .null, .null]) dX7_write_193 (by decide) rfl rfl ?_
        refine ex_iconst (v := 0) dX7_write_195 (by decide) ?_
        refine ex_istore (L2 := [.ref 46, .int l1, .int l2, .int l3, .int l4, .int x16, .int z19, .int 0, .null]) dX7_write_196 (by decide) rfl rfl ?_
        refine ex_iload dX7_write_198 rfl ?_
        refine ex_if_le (tgt := 240) dX7_write_200 (by decide) (fun c_200 => ?_) (fun c_200 => ?_)
        · replace h := h.1 c_200
          exact t_X7_write_240   Q B160 hB160 l1 l2 l3 l4 x16 z19 0 M18 h
        · replace h := h.2 c_200
          refine ex_iload_n dX7_write_203 rfl ?_
          refine ex_iconst (v := 1) dX7_write_204 (by decide) ?_
          refine ex_iadd dX7_write_205 ?_
          refine ex_aload_n dX7_write_206 rfl ?_
          refine ex_getI (ci := 7) (j := 37) dX7_write_207 (by decide) rfl rfl lk_X7_228 ?_
          refine ex_iadd dX7_write_210 ?_
          refine ex_iload_n dX7_write_211 rfl ?_
          refine ex_icmp_le (tgt := 240) dX7_write_212 (by decide) (fun c_212 => ?_) (fun c_212 => ?_)
          · replace h := h.1 c_212
            exact t_X7_write_240   Q B160 hB160 l1 l2 l3 l4 x16 z19 0 M18 h
          · replace h := h.2 c_212
            refine ex_aload_n dX7_write_215 rfl ?_
            refine ex_iconst (v := 1) dX7_write_216 (by decide) ?_
            refine ex_putI (ci := 7) (j := 27) dX7_write_217 (by decide) rfl rfl lk_X7_157 ⟨rfl, rfl⟩ ?_
            refine ex_nmM (fun M35 eM35 => ?_)
            replace h := h M35 eM35
            refine ex_aload_n dX7_write_220 rfl ?_
            refine ex_iload dX7_write_221 rfl ?_
            refine ex_putI (ci := 7) (j := 28) dX7_write_223 (by decide) rfl rfl lk_X7_160 ⟨rfl, rfl⟩ ?_
            refine ex_nmM (fun M36 eM36 => ?_)
            replace h := h M36 eM36
            refine ex_aload_n dX7_write_226 rfl ?_
            refine ex_iload dX7_write_227 rfl ?_
            refine ex_invV (k := 46) (ci := 7) (as := [.int l4]) (L2 := [.ref 46, .int l4, .null, .null, .null]) (st := []) 0 0 dX7_write_229 lk_X7_246 sl_X7_layBar (rmK_of rfl) (by decide) rfl ⟨by decide, rfl⟩ rfl (Nat.le_of_ble_eq_true rfl) (Nat.le_of_ble_eq_true rfl) (t_X7_layBar   l4 M36 _ h) (fun v37 M38 h => ?_)
            show Ex true mX7_write 78 78 0 0 232 [.ref 46, .int l1, .int l2, .int l3, .int l4, .int x16, .int z19, .int 0, .null] [] M38 Q
            refine ex_iconst (v := 0) dX7_write_232 (by decide) ?_
            refine ex_istore_n (L2 := [.ref 46, .int l1, .int l2, .int 0, .int l4, .int x16, .int z19, .int 0, .null]) dX7_write_233 (by decide) rfl rfl ?_
            refine ex_iconst (v := 0) dX7_write_234 (by decide) ?_
            refine ex_istore (L2 := [.ref 46, .int l1, .int l2, .int 0, .int l4, .int x16, .int 0, .int 0, .null]) dX7_write_235 (by decide) rfl rfl ?_
            refine ex_iconst (v := 1) dX7_write_237 (by decide) ?_
            refine ex_istore (L2 := [.ref 46, .int l1, .int l2, .int 0, .int l4, .int x16, .int 0, .int 1, .null]) dX7_write_238 (by decide) rfl rfl ?_
            exact t_X7_write_240   Q B160 hB160 l1 l2 0 l4 x16 0 1 M38 h
      refine ex_if_ne (tgt := 192) dX7_write_185 (by decide) (fun c_185 => ?_) (fun c_185 => ?_)
      ·
        refine ex_iconst (v := 1) dX7_write_192 (by decide) ?_
        exact hJ39 _ (by rw [if_neg c_185])
      ·
        refine ex_iconst (v := 0) dX7_write_188 (by decide) ?_
        refine ex_goto (tgt := 193) dX7_write_189 (by decide) ?_
        exact hJ39 _ (by rw [if_pos c_185])
def w_X7_write_147 (Q : Int32 → Mem → Prop) (l1 : Int32) (l2 : Int32) (l3 : Int32) (M : Mem) : Prop := ∀ M8 : Mem, M8 = (mset M 46 27 1) → ∀ M9 : Mem, M9 = (mset M8 46 28 0) → ∃ k, w_X7_write_160  Q  k l1 l2 l3 0 M9
theorem t_X7_write_147 (Q : Int32 → Mem → Prop) (l1 : Int32) (l2 : Int32) (l3 : Int32) (M : Mem) (h : w_X7_write_147  Q  l1 l2 l3 M) : Ex true mX7_write 78 78 0 0 147 [.ref 46, .int l1, .int l2, .int l3, .null, .null, .null, .null, .null] [] M Q := by
  unfold w_X7_write_147 at h
  refine ex_aload_n dX7_write_147 rfl ?_
  refine ex_iconst (v := 1) dX7_write_148 (by decide) ?_
  refine ex_putI (ci := 7) (j := 27) dX7_write_149 (by decide) rfl rfl lk_X7_157 ⟨rfl, rfl⟩ ?_
  refine ex_nmM (fun M8 eM8 => ?_)
  replace h := h M8 eM8
  refine ex_aload_n dX7_write_152 rfl ?_
  refine ex_iconst (v := 0) dX7_write_153 (by decide) ?_
  refine ex_putI (ci := 7) (j := 28) dX7_write_154 (by decide) rfl rfl lk_X7_160 ⟨rfl, rfl⟩ ?_
  refine ex_nmM (fun M9 eM9 => ?_)
  replace h := h M9 eM9
  refine ex_iconst (v := 0) dX7_write_157 (by decide) ?_
  refine ex_istore (L2 := [.ref 46, .int l1, .int l2, .int l3, .int 0, .null, .null, .null, .null]) dX7_write_158 (by decide) rfl rfl ?_
  obtain ⟨k_, h⟩ := h
  exact t_X7_write_160   Q   k_ l1 l2 l3 0 M9 h
def wb_X7_write_53 (Q : Int32 → Mem → Prop) (B41 : Int32 → Int32 → Mem → Prop) (B53 : Int32 → Int32 → Int32 → Mem → Prop) (l1 : Int32) (l2 : Int32) (l3 : Int32) (M : Mem) : Prop := (vp_in l2 120) ∧ ((((M 57 (Int32.toNatClampNeg l2)) ≤ l3) → (∀ x48 : Int32, x48 = l2 + 1 → B41 l1 x48 M)) ∧ (¬ ((M 57 (Int32.toNatClampNeg l2)) ≤ l3) → (w_X7_isSigned l2 l3 M (fun v49 M50 => ∀ z51 : Int32, z51 = (if v49 = 0 then 0 else 1) → (vp_in ((3 * l2) + l3) 180) ∧ (∀ M53 : Mem, M53 = (mset M50 75 (Int32.toNatClampNeg ((3 * l2) + l3)) z51) → ∀ x54 : Int32, x54 = l3 + 1 → B53 l1 l2 x54 M53)))))
def w_X7_write_53 (Q : Int32 → Mem → Prop) (B41 : Int32 → Int32 → Mem → Prop) : Nat → Int32 → Int32 → Int32 → Mem → Prop
  | 0 => fun _ _ _ _ => False
  | k + 1 => wb_X7_write_53  Q B41 (w_X7_write_53  Q B41 k)
theorem t_X7_write_53 (Q : Int32 → Mem → Prop) (B41 : Int32 → Int32 → Mem → Prop) (hB41 : ∀ (l1 : Int32) (l2 : Int32) (M : Mem), B41 l1 l2 M → Ex true mX7_write 78 78 0 0 41 [.ref 46, .int l1, .int l2, .null, .null, .null, .null, .null, .null] [] M Q) : ∀ (k : Nat) (l1 : Int32) (l2 : Int32) (l3 : Int32) (M : Mem), w_X7_write_53  Q B41 k l1 l2 l3 M → Ex true mX7_write 78 78 0 0 53 [.ref 46, .int l1, .int l2, .int l3, .null, .null, .null, .null, .null] [] M Q := by
  intro k
  induction k with
  | zero => intro l1 l2 l3 M h; exact False.elim h
  | succ k hB53 =>
    intro l1 l2 l3 M h
    replace h : wb_X7_write_53  Q B41 (w_X7_write_53  Q B41 k) l1 l2 l3 M := h
    generalize w_X7_write_53  Q B41 k = B53 at hB53 h
    unfold wb_X7_write_53 at h
    refine ex_iload_n dX7_write_53 rfl ?_
    refine ex_aload_n dX7_write_54 rfl ?_
    refine ex_getR (ci := 7) (j := 12) (v := 57) dX7_write_55 (by decide) rfl rfl lk_X7_44 rfl (by decide) ?_
    refine ex_iload_n dX7_write_58 rfl ?_
    obtain ⟨b47, h⟩ := h
    refine ex_iald dX7_write_59 (by decide) rfl b47 ?_
    refine ex_icmp_ge (tgt := 93) dX7_write_60 (by decide) (fun c_60 => ?_) (fun c_60 => ?_)
    · replace h := h.1 c_60
      refine ex_iinc (v := l2 + 1) (L2 := [.ref 46, .int l1, .int (l2 + 1), .int l3, .null, .null, .null, .null, .null]) dX7_write_93 rfl rfl (by decide) rfl rfl ?_
      obtain ⟨x48, ex48⟩ : ∃ x48 : Int32, x48 = l2 + 1 := ⟨_, rfl⟩
      rw [← ex48]
      replace h := h x48 ex48
      refine ex_goto (tgt := 41) dX7_write_96 (by decide) ?_
      refine ex_less (L2 := [.ref 46, .int l1, .int x48, .null, .null, .null, .null, .null, .null]) ?_ (by intro i v hi hn; match i, hi with | 0, hi => exact hi | 1, hi => exact hi | 2, hi => exact hi | 3, hi => (cases hi; cases hn) | 4, hi => exact hi | 5, hi => exact hi | 6, hi => exact hi | 7, hi => exact hi | 8, hi => exact hi | k + 9, hi => (exact absurd hi (by simp)))
      exact hB41 l1 x48 M h
    · replace h := h.2 c_60
      refine ex_aload_n dX7_write_63 rfl ?_
      refine ex_getR (ci := 7) (j := 35) (v := 75) dX7_write_64 (by decide) rfl rfl lk_X7_99 rfl (by decide) ?_
      refine ex_iconst (v := 3) dX7_write_67 (by decide) ?_
      refine ex_iload_n dX7_write_68 rfl ?_
      refine ex_imul dX7_write_69 ?_
      refine ex_iload_n dX7_write_70 rfl ?_
      refine ex_iadd dX7_write_71 ?_
      refine ex_aload_n dX7_write_72 rfl ?_
      refine ex_iload_n dX7_write_73 rfl ?_
      refine ex_iload_n dX7_write_74 rfl ?_
      refine ex_invV (k := 46) (ci := 7) (as := [.int l2, .int l3]) (L2 := [.ref 46, .int l2, .int l3, .null, .null, .null, .null]) (st := [.int ((3 * l2) + l3), .ref 75]) 0 0 dX7_write_75 lk_X7_243 sl_X7_isSigned (rmK_of rfl) (by decide) rfl ⟨by decide, rfl⟩ rfl (Nat.le_of_ble_eq_true rfl) (Nat.le_of_ble_eq_true rfl) (t_X7_isSigned   l2 l3 M _ h) (fun v49 M50 h => ?_)
      show Ex true mX7_write 78 78 0 0 78 [.ref 46, .int l1, .int l2, .int l3, .null, .null, .null, .null, .null] [.int v49, .int ((3 * l2) + l3), .ref 75] M50 Q
      have hJ55 : ∀ z51 : Int32, z51 = (if v49 = 0 then 0 else 1) → Ex true mX7_write 78 78 0 0 86 [.ref 46, .int l1, .int l2, .int l3, .null, .null, .null, .null, .null] [.int z51, .int ((3 * l2) + l3), .ref 75] M50 Q := by
        intro z51 ez51
        replace h := h z51 ez51
        obtain ⟨b52, h⟩ := h
        refine ex_iast dX7_write_86 (by decide) rfl b52 ?_
        refine ex_nmM (fun M53 eM53 => ?_)
        replace h := h M53 eM53
        refine ex_iinc (v := l3 + 1) (L2 := [.ref 46, .int l1, .int l2, .int (l3 + 1), .null, .null, .null, .null, .null]) dX7_write_87 rfl rfl (by decide) rfl rfl ?_
        obtain ⟨x54, ex54⟩ : ∃ x54 : Int32, x54 = l3 + 1 := ⟨_, rfl⟩
        rw [← ex54]
        replace h := h x54 ex54
        refine ex_goto (tgt := 53) dX7_write_90 (by decide) ?_
        exact hB53 l1 l2 x54 M53 h
      refine ex_if_eq (tgt := 85) dX7_write_78 (by decide) (fun c_78 => ?_) (fun c_78 => ?_)
      ·
        refine ex_iconst (v := 0) dX7_write_85 (by decide) ?_
        exact hJ55 _ (by rw [if_pos c_78])
      ·
        refine ex_iconst (v := 1) dX7_write_81 (by decide) ?_
        refine ex_goto (tgt := 86) dX7_write_82 (by decide) ?_
        exact hJ55 _ (by rw [if_neg c_78])
def wb_X7_write_41 (Q : Int32 → Mem → Prop) (B41 : Int32 → Int32 → Mem → Prop) (l1 : Int32) (l2 : Int32) (M : Mem) : Prop := (vp_in 0 2) ∧ ((((M 53 (Int32.toNatClampNeg 0)) ≤ l2) → ((vp_in 0 2) ∧ ((((M 55 (Int32.toNatClampNeg 0)) ≤ 0) → (w_X7_write_147  Q  l1 0 0 M)) ∧ (¬ ((M 55 (Int32.toNatClampNeg 0)) ≤ 0) → ((vp_in 0 2) ∧ (∀ z41 : Int32, z41 = (if (M 55 (Int32.toNatClampNeg 0)) = 1 then 40 else 56) → (vp_in 0 4000) ∧ (∀ M43 : Mem, M43 = (mset M 77 (Int32.toNatClampNeg 0) z41) → (vp_in 1 4000) ∧ (∀ M45 : Mem, M45 = (mset M43 77 (Int32.toNatClampNeg 1) 28) → w_X7_write_147  Q  l1 2 2 M45)))))))) ∧ (¬ ((M 53 (Int32.toNatClampNeg 0)) ≤ l2) → (∃ k, w_X7_write_53  Q B41 k l1 l2 0 M)))
def w_X7_write_41 (Q : Int32 → Mem → Prop) : Nat → Int32 → Int32 → Mem → Prop
  | 0 => fun _ _ _ => False
  | k + 1 => wb_X7_write_41  Q  (w_X7_write_41  Q  k)
theorem t_X7_write_41 (Q : Int32 → Mem → Prop) : ∀ (k : Nat) (l1 : Int32) (l2 : Int32) (M : Mem), w_X7_write_41  Q  k l1 l2 M → Ex true mX7_write 78 78 0 0 41 [.ref 46, .int l1, .int l2, .null, .null, .null, .null, .null, .null] [] M Q := by
  intro k
  induction k with
  | zero => intro l1 l2 M h; exact False.elim h
  | succ k hB41 =>
    intro l1 l2 M h
    replace h : wb_X7_write_41  Q  (w_X7_write_41  Q  k) l1 l2 M := h
    generalize w_X7_write_41  Q  k = B41 at hB41 h
    unfold wb_X7_write_41 at h
    refine ex_iload_n dX7_write_41 rfl ?_
    refine ex_aload_n dX7_write_42 rfl ?_
    refine ex_getR (ci := 7) (j := 8) (v := 53) dX7_write_43 (by decide) rfl rfl lk_X7_32 rfl (by decide) ?_
    refine ex_iconst (v := 0) dX7_write_46 (by decide) ?_
    obtain ⟨b6, h⟩ := h
    refine ex_iald dX7_write_47 (by decide) rfl b6 ?_
    refine ex_icmp_ge (tgt := 99) dX7_write_48 (by decide) (fun c_48 => ?_) (fun c_48 => ?_)
    · replace h := h.1 c_48
      refine ex_iconst (v := 0) dX7_write_99 (by decide) ?_
      refine ex_istore_n (L2 := [.ref 46, .int l1, .int 0, .null, .null, .null, .null, .null, .null]) dX7_write_100 (by decide) rfl rfl ?_
      refine ex_iconst (v := 0) dX7_write_101 (by decide) ?_
      refine ex_istore_n (L2 := [.ref 46, .int l1, .int 0, .int 0, .null, .null, .null, .null, .null]) dX7_write_102 (by decide) rfl rfl ?_
      refine ex_aload_n dX7_write_103 rfl ?_
      refine ex_getR (ci := 7) (j := 10) (v := 55) dX7_write_104 (by decide) rfl rfl lk_X7_38 rfl (by decide) ?_
      refine ex_iconst (v := 0) dX7_write_107 (by decide) ?_
      obtain ⟨b7, h⟩ := h
      refine ex_iald dX7_write_108 (by decide) rfl b7 ?_
      refine ex_if_le (tgt := 147) dX7_write_109 (by decide) (fun c_109 => ?_) (fun c_109 => ?_)
      · replace h := h.1 c_109
        exact t_X7_write_147   Q   l1 0 0 M h
      · replace h := h.2 c_109
        refine ex_aload_n dX7_write_112 rfl ?_
        refine ex_getR (ci := 7) (j := 38) (v := 77) dX7_write_113 (by decide) rfl rfl lk_X7_105 rfl (by decide) ?_
        refine ex_iconst (v := 0) dX7_write_116 (by decide) ?_
        refine ex_aload_n dX7_write_117 rfl ?_
        refine ex_getR (ci := 7) (j := 10) (v := 55) dX7_write_118 (by decide) rfl rfl lk_X7_38 rfl (by decide) ?_
        refine ex_iconst (v := 0) dX7_write_121 (by decide) ?_
        obtain ⟨b40, h⟩ := h
        refine ex_iald dX7_write_122 (by decide) rfl b40 ?_
        refine ex_iconst (v := 1) dX7_write_123 (by decide) ?_
        have hJ46 : ∀ z41 : Int32, z41 = (if (M 55 (Int32.toNatClampNeg 0)) = 1 then 40 else 56) → Ex true mX7_write 78 78 0 0 134 [.ref 46, .int l1, .int 0, .int 0, .null, .null, .null, .null, .null] [.int z41, .int 0, .ref 77] M Q := by
          intro z41 ez41
          replace h := h z41 ez41
          obtain ⟨b42, h⟩ := h
          refine ex_iast dX7_write_134 (by decide) rfl b42 ?_
          refine ex_nmM (fun M43 eM43 => ?_)
          replace h := h M43 eM43
          refine ex_aload_n dX7_write_135 rfl ?_
          refine ex_getR (ci := 7) (j := 38) (v := 77) dX7_write_136 (by decide) rfl rfl lk_X7_105 rfl (by decide) ?_
          refine ex_iconst (v := 1) dX7_write_139 (by decide) ?_
          refine ex_bipush (v := 28) dX7_write_140 (by decide) ?_
          obtain ⟨b44, h⟩ := h
          refine ex_iast dX7_write_142 (by decide) rfl b44 ?_
          refine ex_nmM (fun M45 eM45 => ?_)
          replace h := h M45 eM45
          refine ex_iconst (v := 2) dX7_write_143 (by decide) ?_
          refine ex_istore_n (L2 := [.ref 46, .int l1, .int 2, .int 0, .null, .null, .null, .null, .null]) dX7_write_144 (by decide) rfl rfl ?_
          refine ex_iconst (v := 2) dX7_write_145 (by decide) ?_
          refine ex_istore_n (L2 := [.ref 46, .int l1, .int 2, .int 2, .null, .null, .null, .null, .null]) dX7_write_146 (by decide) rfl rfl ?_
          exact t_X7_write_147   Q   l1 2 2 M45 h
        refine ex_icmp_ne (tgt := 132) dX7_write_124 (by decide) (fun c_124 => ?_) (fun c_124 => ?_)
        ·
          refine ex_bipush (v := 56) dX7_write_132 (by decide) ?_
          exact hJ46 _ (by rw [if_neg c_124])
        ·
          refine ex_bipush (v := 40) dX7_write_127 (by decide) ?_
          refine ex_goto (tgt := 134) dX7_write_129 (by decide) ?_
          exact hJ46 _ (by rw [if_pos c_124])
    · replace h := h.2 c_48
      refine ex_iconst (v := 0) dX7_write_51 (by decide) ?_
      refine ex_istore_n (L2 := [.ref 46, .int l1, .int l2, .int 0, .null, .null, .null, .null, .null]) dX7_write_52 (by decide) rfl rfl ?_
      obtain ⟨k_, h⟩ := h
      exact t_X7_write_53   Q B41 hB41 k_ l1 l2 0 M h
def w_X7_write (p1 : Int32) (M : Mem) (Q : Int32 → Mem → Prop) : Prop := ((p1 < 12) → (Q (-2) M)) ∧ (¬ (p1 < 12) → (((p1 ≤ 200) → ((vp_in 0 2) ∧ ((((M 53 (Int32.toNatClampNeg 0)) = 0) → (Q (-3) M)) ∧ (¬ ((M 53 (Int32.toNatClampNeg 0)) = 0) → (w_X7_lacks M (fun v2 M3 => ((v2 = 0) → (w_X7_slurs M3 (fun v4 M5 => ∃ k, w_X7_write_41  Q  k p1 0 M5))) ∧ (¬ (v2 = 0) → (Q (-3) M3)))))))) ∧ (¬ (p1 ≤ 200) → (Q (-2) M))))
theorem t_X7_write (p1 : Int32) (M : Mem) (Q : Int32 → Mem → Prop) (h : w_X7_write  p1 M Q) : Ex true mX7_write 78 78 0 0 0 [.ref 46, .int p1, .null, .null, .null, .null, .null, .null, .null] [] M Q := by
  unfold w_X7_write at h
  refine ex_iload_n dX7_write_0 rfl ?_
  refine ex_bipush (v := 12) dX7_write_1 (by decide) ?_
  refine ex_icmp_lt (tgt := 13) dX7_write_3 (by decide) (fun c_3 => ?_) (fun c_3 => ?_)
  · replace h := h.1 c_3
    refine ex_bipush (v := (-2)) dX7_write_13 (by decide) ?_
    exact ex_iret dX7_write_15 rfl rfl rfl h
  · replace h := h.2 c_3
    refine ex_iload_n dX7_write_6 rfl ?_
    refine ex_sipush (v := 200) dX7_write_7 (by decide) ?_
    refine ex_icmp_le (tgt := 16) dX7_write_10 (by decide) (fun c_10 => ?_) (fun c_10 => ?_)
    · replace h := h.1 c_10
      refine ex_aload_n dX7_write_16 rfl ?_
      refine ex_getR (ci := 7) (j := 8) (v := 53) dX7_write_17 (by decide) rfl rfl lk_X7_32 rfl (by decide) ?_
      refine ex_iconst (v := 0) dX7_write_20 (by decide) ?_
      obtain ⟨b1, h⟩ := h
      refine ex_iald dX7_write_21 (by decide) rfl b1 ?_
      refine ex_if_eq (tgt := 32) dX7_write_22 (by decide) (fun c_22 => ?_) (fun c_22 => ?_)
      · replace h := h.1 c_22
        refine ex_bipush (v := (-3)) dX7_write_32 (by decide) ?_
        exact ex_iret dX7_write_34 rfl rfl rfl h
      · replace h := h.2 c_22
        refine ex_aload_n dX7_write_25 rfl ?_
        refine ex_invV (k := 46) (ci := 7) (as := []) (L2 := [.ref 46, .null]) (st := []) 0 0 dX7_write_26 lk_X7_211 sl_X7_lacks (rmK_of rfl) (by decide) rfl ⟨by decide, rfl⟩ rfl (Nat.le_of_ble_eq_true rfl) (Nat.le_of_ble_eq_true rfl) (t_X7_lacks   M _ h) (fun v2 M3 h => ?_)
        show Ex true mX7_write 78 78 0 0 29 [.ref 46, .int p1, .null, .null, .null, .null, .null, .null, .null] [.int v2] M3 Q
        refine ex_if_eq (tgt := 35) dX7_write_29 (by decide) (fun c_29 => ?_) (fun c_29 => ?_)
        · replace h := h.1 c_29
          refine ex_aload_n dX7_write_35 rfl ?_
          refine ex_invV (k := 46) (ci := 7) (as := []) (L2 := [.ref 46, .null, .null, .null, .null]) (st := []) 0 0 dX7_write_36 lk_X7_240 sl_X7_slurs (rmK_of rfl) (by decide) rfl ⟨by decide, rfl⟩ rfl (Nat.le_of_ble_eq_true rfl) (Nat.le_of_ble_eq_true rfl) (t_X7_slurs   M3 _ h) (fun v4 M5 h => ?_)
          show Ex true mX7_write 78 78 0 0 39 [.ref 46, .int p1, .null, .null, .null, .null, .null, .null, .null] [] M5 Q
          refine ex_iconst (v := 0) dX7_write_39 (by decide) ?_
          refine ex_istore_n (L2 := [.ref 46, .int p1, .int 0, .null, .null, .null, .null, .null, .null]) dX7_write_40 (by decide) rfl rfl ?_
          obtain ⟨k_, h⟩ := h
          exact t_X7_write_41   Q   k_ p1 0 M5 h
        · replace h := h.2 c_29
          refine ex_bipush (v := (-3)) dX7_write_32 (by decide) ?_
          exact ex_iret dX7_write_34 rfl rfl rfl h
    · replace h := h.2 c_10
      refine ex_bipush (v := (-2)) dX7_write_13 (by decide) ?_
      exact ex_iret dX7_write_15 rfl rfl rfl h
def w_X7_wants (p1 : Int32) (p2 : Int32) (M : Mem) (Q : Int32 → Mem → Prop) : Prop := ((p1 < 7) → (Q (-2) M)) ∧ (¬ (p1 < 7) → (((55 < p1) → (Q (-2) M)) ∧ (¬ (55 < p1) → (((p2 < 7) → (Q (-2) M)) ∧ (¬ (p2 < 7) → (((p2 ≤ 55) → (w_X7_wantsSign p1 p2 M (fun v1 M2 => ∀ z3 : Int32, z3 = (if v1 = 0 then 0 else 1) → Q z3 M2))) ∧ (¬ (p2 ≤ 55) → (Q (-2) M))))))))
theorem t_X7_wants (p1 : Int32) (p2 : Int32) (M : Mem) (Q : Int32 → Mem → Prop) (h : w_X7_wants  p1 p2 M Q) : Ex true mX7_wants 78 78 0 0 0 [.ref 46, .int p1, .int p2] [] M Q := by
  unfold w_X7_wants at h
  refine ex_iload_n dX7_wants_0 rfl ?_
  refine ex_bipush (v := 7) dX7_wants_1 (by decide) ?_
  refine ex_icmp_lt (tgt := 24) dX7_wants_3 (by decide) (fun c_3 => ?_) (fun c_3 => ?_)
  · replace h := h.1 c_3
    refine ex_bipush (v := (-2)) dX7_wants_24 (by decide) ?_
    refine ex_goto (tgt := 42) dX7_wants_26 (by decide) ?_
    exact ex_iret dX7_wants_42 rfl rfl rfl h
  · replace h := h.2 c_3
    refine ex_iload_n dX7_wants_6 rfl ?_
    refine ex_bipush (v := 55) dX7_wants_7 (by decide) ?_
    refine ex_icmp_gt (tgt := 24) dX7_wants_9 (by decide) (fun c_9 => ?_) (fun c_9 => ?_)
    · replace h := h.1 c_9
      refine ex_bipush (v := (-2)) dX7_wants_24 (by decide) ?_
      refine ex_goto (tgt := 42) dX7_wants_26 (by decide) ?_
      exact ex_iret dX7_wants_42 rfl rfl rfl h
    · replace h := h.2 c_9
      refine ex_iload_n dX7_wants_12 rfl ?_
      refine ex_bipush (v := 7) dX7_wants_13 (by decide) ?_
      refine ex_icmp_lt (tgt := 24) dX7_wants_15 (by decide) (fun c_15 => ?_) (fun c_15 => ?_)
      · replace h := h.1 c_15
        refine ex_bipush (v := (-2)) dX7_wants_24 (by decide) ?_
        refine ex_goto (tgt := 42) dX7_wants_26 (by decide) ?_
        exact ex_iret dX7_wants_42 rfl rfl rfl h
      · replace h := h.2 c_15
        refine ex_iload_n dX7_wants_18 rfl ?_
        refine ex_bipush (v := 55) dX7_wants_19 (by decide) ?_
        refine ex_icmp_le (tgt := 29) dX7_wants_21 (by decide) (fun c_21 => ?_) (fun c_21 => ?_)
        · replace h := h.1 c_21
          refine ex_iload_n dX7_wants_29 rfl ?_
          refine ex_iload_n dX7_wants_30 rfl ?_
          refine ex_invS (as := [.int p1, .int p2]) (L2 := [.int p1, .int p2, .null]) (st := []) 0 0 dX7_wants_31 lk_X7_163 sl_X7_wantsSign (rmK_of rfl) rfl (Nat.le_of_ble_eq_true rfl) (Nat.le_of_ble_eq_true rfl) (t_X7_wantsSign   p1 p2 M _ h) (fun v1 M2 h => ?_)
          show Ex true mX7_wants 78 78 0 0 34 [.ref 46, .int p1, .int p2] [.int v1] M2 Q
          have hJ4 : ∀ z3 : Int32, z3 = (if v1 = 0 then 0 else 1) → Ex true mX7_wants 78 78 0 0 42 [.ref 46, .int p1, .int p2] [.int z3] M2 Q := by
            intro z3 ez3
            replace h := h z3 ez3
            exact ex_iret dX7_wants_42 rfl rfl rfl h
          refine ex_if_eq (tgt := 41) dX7_wants_34 (by decide) (fun c_34 => ?_) (fun c_34 => ?_)
          ·
            refine ex_iconst (v := 0) dX7_wants_41 (by decide) ?_
            exact hJ4 _ (by rw [if_pos c_34])
          ·
            refine ex_iconst (v := 1) dX7_wants_37 (by decide) ?_
            refine ex_goto (tgt := 42) dX7_wants_38 (by decide) ?_
            exact hJ4 _ (by rw [if_neg c_34])
        · replace h := h.2 c_21
          refine ex_bipush (v := (-2)) dX7_wants_24 (by decide) ?_
          refine ex_goto (tgt := 42) dX7_wants_26 (by decide) ?_
          exact ex_iret dX7_wants_42 rfl rfl rfl h
def wb_X7_ways_140 (Q : Int32 → Mem → Prop) (B85 : Int32 → Int32 → Int32 → Int32 → Int32 → Mem → Prop) (B140 : Int32 → Int32 → Int32 → Int32 → Int32 → Int32 → Int32 → Int32 → Mem → Prop) (l1 : Int32) (l2 : Int32) (l3 : Int32) (l4 : Int32) (l5 : Int32) (l6 : Int32) (l7 : Int32) (l8 : Int32) (M : Mem) : Prop := ((l8 < 0) → (∀ x18 : Int32, x18 = l5 + 1 → B85 l1 l2 l3 l4 x18 M)) ∧ (¬ (l8 < 0) → ((((l8 < l6) → (True)) ∧ (¬ (l8 < l6) → ((vp_in (l8 - l6) 163920) ∧ (True)))) ∧ (∀ z20 : Int32, z20 = (if l8 < l6 then 0 else (M 69 (Int32.toNatClampNeg (l8 - l6)))) → (((l8 < l7) → (True)) ∧ (¬ (l8 < l7) → ((vp_in (l8 - l7) 163920) ∧ (True)))) ∧ (∀ z22 : Int32, z22 = (if l8 < l7 then 0 else (M 69 (Int32.toNatClampNeg (l8 - l7)))) → ∀ x23 : Int32, x23 = (z20 + z22) → ∀ z24 : Int32, z24 = (if x23 ≤ 2 then x23 else 2) → (vp_in l8 163920) ∧ (∀ M26 : Mem, M26 = (mset M 69 (Int32.toNatClampNeg l8) z24) → ∀ x27 : Int32, x27 = l8 + (-1) → B140 l1 l2 l3 l4 l5 l6 l7 x27 M26)))))
def w_X7_ways_140 (Q : Int32 → Mem → Prop) (B85 : Int32 → Int32 → Int32 → Int32 → Int32 → Mem → Prop) : Nat → Int32 → Int32 → Int32 → Int32 → Int32 → Int32 → Int32 → Int32 → Mem → Prop
  | 0 => fun _ _ _ _ _ _ _ _ _ => False
  | k + 1 => wb_X7_ways_140  Q B85 (w_X7_ways_140  Q B85 k)
theorem t_X7_ways_140 (Q : Int32 → Mem → Prop) (B85 : Int32 → Int32 → Int32 → Int32 → Int32 → Mem → Prop) (hB85 : ∀ (l1 : Int32) (l2 : Int32) (l3 : Int32) (l4 : Int32) (l5 : Int32) (M : Mem), B85 l1 l2 l3 l4 l5 M → Ex true mX7_ways 78 78 0 0 85 [.ref 46, .int l1, .int l2, .int l3, .int l4, .int l5, .null, .null, .null, .null] [] M Q) : ∀ (k : Nat) (l1 : Int32) (l2 : Int32) (l3 : Int32) (l4 : Int32) (l5 : Int32) (l6 : Int32) (l7 : Int32) (l8 : Int32) (M : Mem), w_X7_ways_140  Q B85 k l1 l2 l3 l4 l5 l6 l7 l8 M → Ex true mX7_ways 78 78 0 0 140 [.ref 46, .int l1, .int l2, .int l3, .int l4, .int l5, .int l6, .int l7, .int l8, .null] [] M Q := by
  intro k
  induction k with
  | zero => intro l1 l2 l3 l4 l5 l6 l7 l8 M h; exact False.elim h
  | succ k hB140 =>
    intro l1 l2 l3 l4 l5 l6 l7 l8 M h
    replace h : wb_X7_ways_140  Q B85 (w_X7_ways_140  Q B85 k) l1 l2 l3 l4 l5 l6 l7 l8 M := h
    generalize w_X7_ways_140  Q B85 k = B140 at hB140 h
    unfold wb_X7_ways_140 at h
    refine ex_iload dX7_ways_140 rfl ?_
    refine ex_if_lt (tgt := 215) dX7_ways_142 (by decide) (fun c_142 => ?_) (fun c_142 => ?_)
    · replace h := h.1 c_142
      refine ex_iinc (v := l5 + 1) (L2 := [.ref 46, .int l1, .int l2, .int l3, .int l4, .int (l5 + 1), .int l6, .int l7, .int l8, .null]) dX7_ways_215 rfl rfl (by decide) rfl rfl ?_
      obtain ⟨x18, ex18⟩ : ∃ x18 : Int32, x18 = l5 + 1 := ⟨_, rfl⟩
      rw [← ex18]
      replace h := h x18 ex18
      refine ex_goto (tgt := 85) dX7_ways_218 (by decide) ?_
      refine ex_less (L2 := [.ref 46, .int l1, .int l2, .int l3, .int l4, .int x18, .null, .null, .null, .null]) ?_ (by intro i v hi hn; match i, hi with | 0, hi => exact hi | 1, hi => exact hi | 2, hi => exact hi | 3, hi => exact hi | 4, hi => exact hi | 5, hi => exact hi | 6, hi => (cases hi; cases hn) | 7, hi => (cases hi; cases hn) | 8, hi => (cases hi; cases hn) | 9, hi => exact hi | k + 10, hi => (exact absurd hi (by simp)))
      exact hB85 l1 l2 l3 l4 x18 M h
    · replace h := h.2 c_142
      refine ex_iload dX7_ways_145 rfl ?_
      refine ex_iload dX7_ways_147 rfl ?_
      obtain ⟨khJ30, h⟩ := h
      have hJ30 : ∀ z20 : Int32, z20 = (if l8 < l6 then 0 else (M 69 (Int32.toNatClampNeg (l8 - l6)))) → Ex true mX7_ways 78 78 0 0 166 [.ref 46, .int l1, .int l2, .int l3, .int l4, .int l5, .int l6, .int l7, .int l8, .null] [.int z20] M Q := by
        intro z20 ez20
        replace h := h z20 ez20
        refine ex_iload dX7_ways_166 rfl ?_
        refine ex_iload dX7_ways_168 rfl ?_
        obtain ⟨khJ29, h⟩ := h
        have hJ29 : ∀ z22 : Int32, z22 = (if l8 < l7 then 0 else (M 69 (Int32.toNatClampNeg (l8 - l7)))) → Ex true mX7_ways 78 78 0 0 187 [.ref 46, .int l1, .int l2, .int l3, .int l4, .int l5, .int l6, .int l7, .int l8, .null] [.int z22, .int z20] M Q := by
          intro z22 ez22
          replace h := h z22 ez22
          refine ex_iadd dX7_ways_187 ?_
          refine ex_top (fun x23 ex23 => ?_)
          replace h := h x23 ex23
          refine ex_istore (L2 := [.ref 46, .int l1, .int l2, .int l3, .int l4, .int l5, .int l6, .int l7, .int l8, .int x23]) dX7_ways_188 (by decide) rfl rfl ?_
          refine ex_aload_n dX7_ways_190 rfl ?_
          refine ex_getR (ci := 7) (j := 29) (v := 69) dX7_ways_191 (by decide) rfl rfl lk_X7_81 rfl (by decide) ?_
          refine ex_iload dX7_ways_194 rfl ?_
          refine ex_iload dX7_ways_196 rfl ?_
          refine ex_iconst (v := 2) dX7_ways_198 (by decide) ?_
          have hJ28 : ∀ z24 : Int32, z24 = (if x23 ≤ 2 then x23 else 2) → Ex true mX7_ways 78 78 0 0 208 [.ref 46, .int l1, .int l2, .int l3, .int l4, .int l5, .int l6, .int l7, .int l8, .int x23] [.int z24, .int l8, .ref 69] M Q := by
            intro z24 ez24
            replace h := h z24 ez24
            obtain ⟨b25, h⟩ := h
            refine ex_iast dX7_ways_208 (by decide) rfl b25 ?_
            refine ex_nmM (fun M26 eM26 => ?_)
            replace h := h M26 eM26
            refine ex_iinc (v := l8 + (-1)) (L2 := [.ref 46, .int l1, .int l2, .int l3, .int l4, .int l5, .int l6, .int l7, .int (l8 + (-1)), .int x23]) dX7_ways_209 rfl rfl (by decide) rfl rfl ?_
            obtain ⟨x27, ex27⟩ : ∃ x27 : Int32, x27 = l8 + (-1) := ⟨_, rfl⟩
            rw [← ex27]
            replace h := h x27 ex27
            refine ex_goto (tgt := 140) dX7_ways_212 (by decide) ?_
            refine ex_less (L2 := [.ref 46, .int l1, .int l2, .int l3, .int l4, .int l5, .int l6, .int l7, .int x27, .null]) ?_ (by intro i v hi hn; match i, hi with | 0, hi => exact hi | 1, hi => exact hi | 2, hi => exact hi | 3, hi => exact hi | 4, hi => exact hi | 5, hi => exact hi | 6, hi => exact hi | 7, hi => exact hi | 8, hi => exact hi | 9, hi => (cases hi; cases hn) | k + 10, hi => (exact absurd hi (by simp)))
            exact hB140 l1 l2 l3 l4 l5 l6 l7 x27 M26 h
          refine ex_icmp_le (tgt := 206) dX7_ways_199 (by decide) (fun c_199 => ?_) (fun c_199 => ?_)
          ·
            refine ex_iload dX7_ways_206 rfl ?_
            exact hJ28 _ (by rw [if_pos c_199])
          ·
            refine ex_iconst (v := 2) dX7_ways_202 (by decide) ?_
            refine ex_goto (tgt := 208) dX7_ways_203 (by decide) ?_
            exact hJ28 _ (by rw [if_neg c_199])
        refine ex_icmp_lt (tgt := 186) dX7_ways_170 (by decide) (fun c_170 => ?_) (fun c_170 => ?_)
        · replace h := khJ29.1 c_170
          refine ex_iconst (v := 0) dX7_ways_186 (by decide) ?_
          exact hJ29 _ (by rw [if_pos c_170])
        · replace h := khJ29.2 c_170
          refine ex_aload_n dX7_ways_173 rfl ?_
          refine ex_getR (ci := 7) (j := 29) (v := 69) dX7_ways_174 (by decide) rfl rfl lk_X7_81 rfl (by decide) ?_
          refine ex_iload dX7_ways_177 rfl ?_
          refine ex_iload dX7_ways_179 rfl ?_
          refine ex_isub dX7_ways_181 ?_
          obtain ⟨b21, h⟩ := h
          refine ex_iald dX7_ways_182 (by decide) rfl b21 ?_
          refine ex_goto (tgt := 187) dX7_ways_183 (by decide) ?_
          exact hJ29 _ (by rw [if_neg c_170])
      refine ex_icmp_lt (tgt := 165) dX7_ways_149 (by decide) (fun c_149 => ?_) (fun c_149 => ?_)
      · replace h := khJ30.1 c_149
        refine ex_iconst (v := 0) dX7_ways_165 (by decide) ?_
        exact hJ30 _ (by rw [if_pos c_149])
      · replace h := khJ30.2 c_149
        refine ex_aload_n dX7_ways_152 rfl ?_
        refine ex_getR (ci := 7) (j := 29) (v := 69) dX7_ways_153 (by decide) rfl rfl lk_X7_81 rfl (by decide) ?_
        refine ex_iload dX7_ways_156 rfl ?_
        refine ex_iload dX7_ways_158 rfl ?_
        refine ex_isub dX7_ways_160 ?_
        obtain ⟨b19, h⟩ := h
        refine ex_iald dX7_ways_161 (by decide) rfl b19 ?_
        refine ex_goto (tgt := 166) dX7_ways_162 (by decide) ?_
        exact hJ30 _ (by rw [if_neg c_149])
def wb_X7_ways_85 (Q : Int32 → Mem → Prop) (B85 : Int32 → Int32 → Int32 → Int32 → Int32 → Mem → Prop) (l1 : Int32) (l2 : Int32) (l3 : Int32) (l4 : Int32) (l5 : Int32) (M : Mem) : Prop := (((l3 + l4) ≤ l5) → ((vp_in (M 46 7) 163920) ∧ (Q (M 69 (Int32.toNatClampNeg (M 46 7))) M))) ∧ (¬ ((l3 + l4) ≤ l5) → ((vp_in l5 1200) ∧ ((vp_in l5 1200) ∧ (w_X7_lasts (M 62 (Int32.toNatClampNeg l5)) 0 (M 64 (Int32.toNatClampNeg l5)) M (fun v11 M12 => (vp_in l5 1200) ∧ ((vp_in l5 1200) ∧ (w_X7_lasts (M12 62 (Int32.toNatClampNeg l5)) 1 (M12 64 (Int32.toNatClampNeg l5)) M12 (fun v15 M16 => ∀ x17 : Int32, x17 = (M16 46 7) → ∃ k, w_X7_ways_140  Q B85 k l1 l2 l3 l4 l5 v11 v15 x17 M16))))))))
def w_X7_ways_85 (Q : Int32 → Mem → Prop) : Nat → Int32 → Int32 → Int32 → Int32 → Int32 → Mem → Prop
  | 0 => fun _ _ _ _ _ _ => False
  | k + 1 => wb_X7_ways_85  Q  (w_X7_ways_85  Q  k)
theorem t_X7_ways_85 (Q : Int32 → Mem → Prop) : ∀ (k : Nat) (l1 : Int32) (l2 : Int32) (l3 : Int32) (l4 : Int32) (l5 : Int32) (M : Mem), w_X7_ways_85  Q  k l1 l2 l3 l4 l5 M → Ex true mX7_ways 78 78 0 0 85 [.ref 46, .int l1, .int l2, .int l3, .int l4, .int l5, .null, .null, .null, .null] [] M Q := by
  intro k
  induction k with
  | zero => intro l1 l2 l3 l4 l5 M h; exact False.elim h
  | succ k hB85 =>
    intro l1 l2 l3 l4 l5 M h
    replace h : wb_X7_ways_85  Q  (w_X7_ways_85  Q  k) l1 l2 l3 l4 l5 M := h
    generalize w_X7_ways_85  Q  k = B85 at hB85 h
    unfold wb_X7_ways_85 at h
    refine ex_iload dX7_ways_85 rfl ?_
    refine ex_iload_n dX7_ways_87 rfl ?_
    refine ex_iload dX7_ways_88 rfl ?_
    refine ex_iadd dX7_ways_90 ?_
    refine ex_icmp_ge (tgt := 221) dX7_ways_91 (by decide) (fun c_91 => ?_) (fun c_91 => ?_)
    · replace h := h.1 c_91
      refine ex_aload_n dX7_ways_221 rfl ?_
      refine ex_getR (ci := 7) (j := 29) (v := 69) dX7_ways_222 (by decide) rfl rfl lk_X7_81 rfl (by decide) ?_
      refine ex_aload_n dX7_ways_225 rfl ?_
      refine ex_getI (ci := 7) (j := 7) dX7_ways_226 (by decide) rfl rfl lk_X7_28 ?_
      obtain ⟨b8, h⟩ := h
      refine ex_iald dX7_ways_229 (by decide) rfl b8 ?_
      exact ex_iret dX7_ways_230 rfl rfl rfl h
    · replace h := h.2 c_91
      refine ex_aload_n dX7_ways_94 rfl ?_
      refine ex_getR (ci := 7) (j := 17) (v := 62) dX7_ways_95 (by decide) rfl rfl lk_X7_59 rfl (by decide) ?_
      refine ex_iload dX7_ways_98 rfl ?_
      obtain ⟨b9, h⟩ := h
      refine ex_iald dX7_ways_100 (by decide) rfl b9 ?_
      refine ex_iconst (v := 0) dX7_ways_101 (by decide) ?_
      refine ex_aload_n dX7_ways_102 rfl ?_
      refine ex_getR (ci := 7) (j := 19) (v := 64) dX7_ways_103 (by decide) rfl rfl lk_X7_65 rfl (by decide) ?_
      refine ex_iload dX7_ways_106 rfl ?_
      obtain ⟨b10, h⟩ := h
      refine ex_iald dX7_ways_108 (by decide) rfl b10 ?_
      refine ex_invS (as := [.int (M 62 (Int32.toNatClampNeg l5)), .int 0, .int (M 64 (Int32.toNatClampNeg l5))]) (L2 := [.int (M 62 (Int32.toNatClampNeg l5)), .int 0, .int (M 64 (Int32.toNatClampNeg l5)), .null]) (st := []) 0 0 dX7_ways_109 lk_X7_111 sl_X7_lasts (rmK_of rfl) rfl (Nat.le_of_ble_eq_true rfl) (Nat.le_of_ble_eq_true rfl) (t_X7_lasts   (M 62 (Int32.toNatClampNeg l5)) 0 (M 64 (Int32.toNatClampNeg l5)) M _ h) (fun v11 M12 h => ?_)
      show Ex true mX7_ways 78 78 0 0 112 [.ref 46, .int l1, .int l2, .int l3, .int l4, .int l5, .null, .null, .null, .null] [.int v11] M12 Q
      refine ex_istore (L2 := [.ref 46, .int l1, .int l2, .int l3, .int l4, .int l5, .int v11, .null, .null, .null]) dX7_ways_112 (by decide) rfl rfl ?_
      refine ex_aload_n dX7_ways_114 rfl ?_
      refine ex_getR (ci := 7) (j := 17) (v := 62) dX7_ways_115 (by decide) rfl rfl lk_X7_59 rfl (by decide) ?_
      refine ex_iload dX7_ways_118 rfl ?_
      obtain ⟨b13, h⟩ := h
      refine ex_iald dX7_ways_120 (by decide) rfl b13 ?_
      refine ex_iconst (v := 1) dX7_ways_121 (by decide) ?_
      refine ex_aload_n dX7_ways_122 rfl ?_
      refine ex_getR (ci := 7) (j := 19) (v := 64) dX7_ways_123 (by decide) rfl rfl lk_X7_65 rfl (by decide) ?_
      refine ex_iload dX7_ways_126 rfl ?_
      obtain ⟨b14, h⟩ := h
      refine ex_iald dX7_ways_128 (by decide) rfl b14 ?_
      refine ex_invS (as := [.int (M12 62 (Int32.toNatClampNeg l5)), .int 1, .int (M12 64 (Int32.toNatClampNeg l5))]) (L2 := [.int (M12 62 (Int32.toNatClampNeg l5)), .int 1, .int (M12 64 (Int32.toNatClampNeg l5)), .null]) (st := []) 0 0 dX7_ways_129 lk_X7_111 sl_X7_lasts (rmK_of rfl) rfl (Nat.le_of_ble_eq_true rfl) (Nat.le_of_ble_eq_true rfl) (t_X7_lasts   (M12 62 (Int32.toNatClampNeg l5)) 1 (M12 64 (Int32.toNatClampNeg l5)) M12 _ h) (fun v15 M16 h => ?_)
      show Ex true mX7_ways 78 78 0 0 132 [.ref 46, .int l1, .int l2, .int l3, .int l4, .int l5, .int v11, .null, .null, .null] [.int v15] M16 Q
      refine ex_istore (L2 := [.ref 46, .int l1, .int l2, .int l3, .int l4, .int l5, .int v11, .int v15, .null, .null]) dX7_ways_132 (by decide) rfl rfl ?_
      refine ex_aload_n dX7_ways_134 rfl ?_
      refine ex_getI (ci := 7) (j := 7) dX7_ways_135 (by decide) rfl rfl lk_X7_28 ?_
      refine ex_top (fun x17 ex17 => ?_)
      replace h := h x17 ex17
      refine ex_istore (L2 := [.ref 46, .int l1, .int l2, .int l3, .int l4, .int l5, .int v11, .int v15, .int x17, .null]) dX7_ways_138 (by decide) rfl rfl ?_
      obtain ⟨k_, h⟩ := h
      exact t_X7_ways_140   Q B85 hB85 k_ l1 l2 l3 l4 l5 v11 v15 x17 M16 h
def wb_X7_ways_50 (Q : Int32 → Mem → Prop) (B50 : Int32 → Int32 → Int32 → Int32 → Int32 → Mem → Prop) (l1 : Int32) (l2 : Int32) (l3 : Int32) (l4 : Int32) (l5 : Int32) (M : Mem) : Prop := (((M 46 7) < l5) → (∃ k, w_X7_ways_85  Q  k l1 l2 l3 l4 l3 M)) ∧ (¬ ((M 46 7) < l5) → (∀ z31 : Int32, z31 = (if l5 = 0 then 1 else 0) → (vp_in l5 163920) ∧ (∀ M33 : Mem, M33 = (mset M 69 (Int32.toNatClampNeg l5) z31) → ∀ x34 : Int32, x34 = l5 + 1 → B50 l1 l2 l3 l4 x34 M33)))
def w_X7_ways_50 (Q : Int32 → Mem → Prop) : Nat → Int32 → Int32 → Int32 → Int32 → Int32 → Mem → Prop
  | 0 => fun _ _ _ _ _ _ => False
  | k + 1 => wb_X7_ways_50  Q  (w_X7_ways_50  Q  k)
theorem t_X7_ways_50 (Q : Int32 → Mem → Prop) : ∀ (k : Nat) (l1 : Int32) (l2 : Int32) (l3 : Int32) (l4 : Int32) (l5 : Int32) (M : Mem), w_X7_ways_50  Q  k l1 l2 l3 l4 l5 M → Ex true mX7_ways 78 78 0 0 50 [.ref 46, .int l1, .int l2, .int l3, .int l4, .int l5, .null, .null, .null, .null] [] M Q := by
  intro k
  induction k with
  | zero => intro l1 l2 l3 l4 l5 M h; exact False.elim h
  | succ k hB50 =>
    intro l1 l2 l3 l4 l5 M h
    replace h : wb_X7_ways_50  Q  (w_X7_ways_50  Q  k) l1 l2 l3 l4 l5 M := h
    generalize w_X7_ways_50  Q  k = B50 at hB50 h
    unfold wb_X7_ways_50 at h
    refine ex_iload dX7_ways_50 rfl ?_
    refine ex_aload_n dX7_ways_52 rfl ?_
    refine ex_getI (ci := 7) (j := 7) dX7_ways_53 (by decide) rfl rfl lk_X7_28 ?_
    refine ex_icmp_gt (tgt := 82) dX7_ways_56 (by decide) (fun c_56 => ?_) (fun c_56 => ?_)
    · replace h := h.1 c_56
      refine ex_iload_n dX7_ways_82 rfl ?_
      refine ex_istore (L2 := [.ref 46, .int l1, .int l2, .int l3, .int l4, .int l3, .null, .null, .null, .null]) dX7_ways_83 (by decide) rfl rfl ?_
      obtain ⟨k_, h⟩ := h
      exact t_X7_ways_85   Q   k_ l1 l2 l3 l4 l3 M h
    · replace h := h.2 c_56
      refine ex_aload_n dX7_ways_59 rfl ?_
      refine ex_getR (ci := 7) (j := 29) (v := 69) dX7_ways_60 (by decide) rfl rfl lk_X7_81 rfl (by decide) ?_
      refine ex_iload dX7_ways_63 rfl ?_
      refine ex_iload dX7_ways_65 rfl ?_
      have hJ35 : ∀ z31 : Int32, z31 = (if l5 = 0 then 1 else 0) → Ex true mX7_ways 78 78 0 0 75 [.ref 46, .int l1, .int l2, .int l3, .int l4, .int l5, .null, .null, .null, .null] [.int z31, .int l5, .ref 69] M Q := by
        intro z31 ez31
        replace h := h z31 ez31
        obtain ⟨b32, h⟩ := h
        refine ex_iast dX7_ways_75 (by decide) rfl b32 ?_
        refine ex_nmM (fun M33 eM33 => ?_)
        replace h := h M33 eM33
        refine ex_iinc (v := l5 + 1) (L2 := [.ref 46, .int l1, .int l2, .int l3, .int l4, .int (l5 + 1), .null, .null, .null, .null]) dX7_ways_76 rfl rfl (by decide) rfl rfl ?_
        obtain ⟨x34, ex34⟩ : ∃ x34 : Int32, x34 = l5 + 1 := ⟨_, rfl⟩
        rw [← ex34]
        replace h := h x34 ex34
        refine ex_goto (tgt := 50) dX7_ways_79 (by decide) ?_
        exact hB50 l1 l2 l3 l4 x34 M33 h
      refine ex_if_ne (tgt := 74) dX7_ways_67 (by decide) (fun c_67 => ?_) (fun c_67 => ?_)
      ·
        refine ex_iconst (v := 0) dX7_ways_74 (by decide) ?_
        exact hJ35 _ (by rw [if_neg c_67])
      ·
        refine ex_iconst (v := 1) dX7_ways_70 (by decide) ?_
        refine ex_goto (tgt := 75) dX7_ways_71 (by decide) ?_
        exact hJ35 _ (by rw [if_pos c_67])
def w_X7_ways (p1 : Int32) (p2 : Int32) (M : Mem) (Q : Int32 → Mem → Prop) : Prop := w_X7_isVoice p1 p2 M (fun v1 M2 => (¬ (v1 = 0) → (w_X7_voiceFirst 0 p1 p2 M2 (fun v3 M4 => w_X7_voiceSize 0 p1 p2 M4 (fun v5 M6 => (¬ (v5 = 0) → ((vp_in v3 1200) ∧ ((¬ ((M6 63 (Int32.toNatClampNeg v3)) = 2) → (∃ k, w_X7_ways_50  Q  k p1 p2 v3 v5 0 M6)) ∧ (((M6 63 (Int32.toNatClampNeg v3)) = 2) → (Q 1 M6))))) ∧ ((v5 = 0) → (Q 0 M6)))))) ∧ ((v1 = 0) → (Q (-1) M2)))
theorem t_X7_ways (p1 : Int32) (p2 : Int32) (M : Mem) (Q : Int32 → Mem → Prop) (h : w_X7_ways  p1 p2 M Q) : Ex true mX7_ways 78 78 0 0 0 [.ref 46, .int p1, .int p2, .null, .null, .null, .null, .null, .null, .null] [] M Q := by
  unfold w_X7_ways at h
  refine ex_aload_n dX7_ways_0 rfl ?_
  refine ex_iload_n dX7_ways_1 rfl ?_
  refine ex_iload_n dX7_ways_2 rfl ?_
  refine ex_invV (k := 46) (ci := 7) (as := [.int p1, .int p2]) (L2 := [.ref 46, .int p1, .int p2]) (st := []) 0 0 dX7_ways_3 lk_X7_249 sl_X7_isVoice (rmK_of rfl) (by decide) rfl ⟨by decide, rfl⟩ rfl (Nat.le_of_ble_eq_true rfl) (Nat.le_of_ble_eq_true rfl) (t_X7_isVoice   p1 p2 M _ h) (fun v1 M2 h => ?_)
  show Ex true mX7_ways 78 78 0 0 6 [.ref 46, .int p1, .int p2, .null, .null, .null, .null, .null, .null, .null] [.int v1] M2 Q
  refine ex_if_ne (tgt := 11) dX7_ways_6 (by decide) (fun c_6 => ?_) (fun c_6 => ?_)
  · replace h := h.1 c_6
    refine ex_aload_n dX7_ways_11 rfl ?_
    refine ex_iconst (v := 0) dX7_ways_12 (by decide) ?_
    refine ex_iload_n dX7_ways_13 rfl ?_
    refine ex_iload_n dX7_ways_14 rfl ?_
    refine ex_invV (k := 46) (ci := 7) (as := [.int 0, .int p1, .int p2]) (L2 := [.ref 46, .int 0, .int p1, .int p2, .null, .null]) (st := []) 0 0 dX7_ways_15 lk_X7_218 sl_X7_voiceFirst (rmK_of rfl) (by decide) rfl ⟨by decide, rfl⟩ rfl (Nat.le_of_ble_eq_true rfl) (Nat.le_of_ble_eq_true rfl) (t_X7_voiceFirst   0 p1 p2 M2 _ h) (fun v3 M4 h => ?_)
    show Ex true mX7_ways 78 78 0 0 18 [.ref 46, .int p1, .int p2, .null, .null, .null, .null, .null, .null, .null] [.int v3] M4 Q
    refine ex_istore_n (L2 := [.ref 46, .int p1, .int p2, .int v3, .null, .null, .null, .null, .null, .null]) dX7_ways_18 (by decide) rfl rfl ?_
    refine ex_aload_n dX7_ways_19 rfl ?_
    refine ex_iconst (v := 0) dX7_ways_20 (by decide) ?_
    refine ex_iload_n dX7_ways_21 rfl ?_
    refine ex_iload_n dX7_ways_22 rfl ?_
    refine ex_invV (k := 46) (ci := 7) (as := [.int 0, .int p1, .int p2]) (L2 := [.ref 46, .int 0, .int p1, .int p2, .null, .null]) (st := []) 0 0 dX7_ways_23 lk_X7_215 sl_X7_voiceSize (rmK_of rfl) (by decide) rfl ⟨by decide, rfl⟩ rfl (Nat.le_of_ble_eq_true rfl) (Nat.le_of_ble_eq_true rfl) (t_X7_voiceSize   0 p1 p2 M4 _ h) (fun v5 M6 h => ?_)
    show Ex true mX7_ways 78 78 0 0 26 [.ref 46, .int p1, .int p2, .int v3, .null, .null, .null, .null, .null, .null] [.int v5] M6 Q
    refine ex_istore (L2 := [.ref 46, .int p1, .int p2, .int v3, .int v5, .null, .null, .null, .null, .null]) dX7_ways_26 (by decide) rfl rfl ?_
    refine ex_iload dX7_ways_28 rfl ?_
    refine ex_if_ne (tgt := 35) dX7_ways_30 (by decide) (fun c_30 => ?_) (fun c_30 => ?_)
    · replace h := h.1 c_30
      refine ex_aload_n dX7_ways_35 rfl ?_
      refine ex_getR (ci := 7) (j := 18) (v := 63) dX7_ways_36 (by decide) rfl rfl lk_X7_62 rfl (by decide) ?_
      refine ex_iload_n dX7_ways_39 rfl ?_
      obtain ⟨b7, h⟩ := h
      refine ex_iald dX7_ways_40 (by decide) rfl b7 ?_
      refine ex_iconst (v := 2) dX7_ways_41 (by decide) ?_
      refine ex_icmp_ne (tgt := 47) dX7_ways_42 (by decide) (fun c_42 => ?_) (fun c_42 => ?_)
      · replace h := h.1 c_42
        refine ex_iconst (v := 0) dX7_ways_47 (by decide) ?_
        refine ex_istore (L2 := [.ref 46, .int p1, .int p2, .int v3, .int v5, .int 0, .null, .null, .null, .null]) dX7_ways_48 (by decide) rfl rfl ?_
        obtain ⟨k_, h⟩ := h
        exact t_X7_ways_50   Q   k_ p1 p2 v3 v5 0 M6 h
      · replace h := h.2 c_42
        refine ex_iconst (v := 1) dX7_ways_45 (by decide) ?_
        exact ex_iret dX7_ways_46 rfl rfl rfl h
    · replace h := h.2 c_30
      refine ex_iconst (v := 0) dX7_ways_33 (by decide) ?_
      exact ex_iret dX7_ways_34 rfl rfl rfl h
  · replace h := h.2 c_6
    refine ex_iconst (v := (-1)) dX7_ways_9 (by decide) ?_
    exact ex_iret dX7_ways_10 rfl rfl rfl h
def w_X7_signed (p1 : Int32) (p2 : Int32) (M : Mem) (Q : Int32 → Mem → Prop) : Prop := w_X7_isVoice p1 p2 M (fun v1 M2 => (¬ (v1 = 0) → (w_X7_voiceLasts 0 p1 p2 M2 (fun v3 M4 => ((v3 = (M4 46 7)) → (w_X7_isSigned p1 p2 M4 (fun v5 M6 => ∀ z7 : Int32, z7 = (if v5 = 0 then 0 else 1) → Q z7 M6))) ∧ (¬ (v3 = (M4 46 7)) → (Q (-3) M4))))) ∧ ((v1 = 0) → (Q (-1) M2)))
theorem t_X7_signed (p1 : Int32) (p2 : Int32) (M : Mem) (Q : Int32 → Mem → Prop) (h : w_X7_signed  p1 p2 M Q) : Ex true mX7_signed 78 78 0 0 0 [.ref 46, .int p1, .int p2] [] M Q := by
  unfold w_X7_signed at h
  refine ex_aload_n dX7_signed_0 rfl ?_
  refine ex_iload_n dX7_signed_1 rfl ?_
  refine ex_iload_n dX7_signed_2 rfl ?_
  refine ex_invV (k := 46) (ci := 7) (as := [.int p1, .int p2]) (L2 := [.ref 46, .int p1, .int p2]) (st := []) 0 0 dX7_signed_3 lk_X7_249 sl_X7_isVoice (rmK_of rfl) (by decide) rfl ⟨by decide, rfl⟩ rfl (Nat.le_of_ble_eq_true rfl) (Nat.le_of_ble_eq_true rfl) (t_X7_isVoice   p1 p2 M _ h) (fun v1 M2 h => ?_)
  show Ex true mX7_signed 78 78 0 0 6 [.ref 46, .int p1, .int p2] [.int v1] M2 Q
  refine ex_if_ne (tgt := 11) dX7_signed_6 (by decide) (fun c_6 => ?_) (fun c_6 => ?_)
  · replace h := h.1 c_6
    refine ex_aload_n dX7_signed_11 rfl ?_
    refine ex_iconst (v := 0) dX7_signed_12 (by decide) ?_
    refine ex_iload_n dX7_signed_13 rfl ?_
    refine ex_iload_n dX7_signed_14 rfl ?_
    refine ex_invV (k := 46) (ci := 7) (as := [.int 0, .int p1, .int p2]) (L2 := [.ref 46, .int 0, .int p1, .int p2, .null, .null]) (st := []) 0 0 dX7_signed_15 lk_X7_208 sl_X7_voiceLasts (rmK_of rfl) (by decide) rfl ⟨by decide, rfl⟩ rfl (Nat.le_of_ble_eq_true rfl) (Nat.le_of_ble_eq_true rfl) (t_X7_voiceLasts   0 p1 p2 M2 _ h) (fun v3 M4 h => ?_)
    show Ex true mX7_signed 78 78 0 0 18 [.ref 46, .int p1, .int p2] [.int v3] M4 Q
    refine ex_aload_n dX7_signed_18 rfl ?_
    refine ex_getI (ci := 7) (j := 7) dX7_signed_19 (by decide) rfl rfl lk_X7_28 ?_
    refine ex_icmp_eq (tgt := 28) dX7_signed_22 (by decide) (fun c_22 => ?_) (fun c_22 => ?_)
    · replace h := h.1 c_22
      refine ex_aload_n dX7_signed_28 rfl ?_
      refine ex_iload_n dX7_signed_29 rfl ?_
      refine ex_iload_n dX7_signed_30 rfl ?_
      refine ex_invV (k := 46) (ci := 7) (as := [.int p1, .int p2]) (L2 := [.ref 46, .int p1, .int p2, .null, .null, .null, .null]) (st := []) 0 0 dX7_signed_31 lk_X7_243 sl_X7_isSigned (rmK_of rfl) (by decide) rfl ⟨by decide, rfl⟩ rfl (Nat.le_of_ble_eq_true rfl) (Nat.le_of_ble_eq_true rfl) (t_X7_isSigned   p1 p2 M4 _ h) (fun v5 M6 h => ?_)
      show Ex true mX7_signed 78 78 0 0 34 [.ref 46, .int p1, .int p2] [.int v5] M6 Q
      have hJ8 : ∀ z7 : Int32, z7 = (if v5 = 0 then 0 else 1) → Ex true mX7_signed 78 78 0 0 42 [.ref 46, .int p1, .int p2] [.int z7] M6 Q := by
        intro z7 ez7
        replace h := h z7 ez7
        exact ex_iret dX7_signed_42 rfl rfl rfl h
      refine ex_if_eq (tgt := 41) dX7_signed_34 (by decide) (fun c_34 => ?_) (fun c_34 => ?_)
      ·
        refine ex_iconst (v := 0) dX7_signed_41 (by decide) ?_
        exact hJ8 _ (by rw [if_pos c_34])
      ·
        refine ex_iconst (v := 1) dX7_signed_37 (by decide) ?_
        refine ex_goto (tgt := 42) dX7_signed_38 (by decide) ?_
        exact hJ8 _ (by rw [if_neg c_34])
    · replace h := h.2 c_22
      refine ex_bipush (v := (-3)) dX7_signed_25 (by decide) ?_
      exact ex_iret dX7_signed_27 rfl rfl rfl h
  · replace h := h.2 c_6
    refine ex_iconst (v := (-1)) dX7_signed_9 (by decide) ?_
    exact ex_iret dX7_signed_10 rfl rfl rfl h
def wb_X7_barOf_43 (Q : Int32 → Mem → Prop) (B43 : Int32 → Int32 → Int32 → Int32 → Int32 → Mem → Prop) (l1 : Int32) (l2 : Int32) (l3 : Int32) (l4 : Int32) (l5 : Int32) (M : Mem) : Prop := ((l5 < 0) → (((¬ (l2 = 0) → ((¬ (l2 = 1) → (True)) ∧ ((l2 = 1) → (True)))) ∧ ((l2 = 0) → ((vp_in l1 120) ∧ (True)))) ∧ (∀ z5 : Int32, z5 = (if l2 = 0 then (M 57 (Int32.toNatClampNeg l1)) else (if l2 = 1 then l4 else l3)) → Q z5 M))) ∧ (¬ (l5 < 0) → ((vp_in l5 1200) ∧ ((¬ ((M 58 (Int32.toNatClampNeg l5)) = l1) → (∀ x11 : Int32, x11 = l5 + (-1) → B43 l1 l2 l3 l4 x11 M)) ∧ (((M 58 (Int32.toNatClampNeg l5)) = l1) → (∀ x12 : Int32, x12 = l3 + 1 → ∀ x13 : Int32, x13 = l5 + (-1) → B43 l1 l2 x12 l5 x13 M)))))
def w_X7_barOf_43 (Q : Int32 → Mem → Prop) : Nat → Int32 → Int32 → Int32 → Int32 → Int32 → Mem → Prop
  | 0 => fun _ _ _ _ _ _ => False
  | k + 1 => wb_X7_barOf_43  Q  (w_X7_barOf_43  Q  k)
theorem t_X7_barOf_43 (Q : Int32 → Mem → Prop) : ∀ (k : Nat) (l1 : Int32) (l2 : Int32) (l3 : Int32) (l4 : Int32) (l5 : Int32) (M : Mem), w_X7_barOf_43  Q  k l1 l2 l3 l4 l5 M → Ex true mX7_barOf 78 78 0 0 43 [.ref 46, .int l1, .int l2, .int l3, .int l4, .int l5] [] M Q := by
  intro k
  induction k with
  | zero => intro l1 l2 l3 l4 l5 M h; exact False.elim h
  | succ k hB43 =>
    intro l1 l2 l3 l4 l5 M h
    replace h : wb_X7_barOf_43  Q  (w_X7_barOf_43  Q  k) l1 l2 l3 l4 l5 M := h
    generalize w_X7_barOf_43  Q  k = B43 at hB43 h
    unfold wb_X7_barOf_43 at h
    refine ex_iload dX7_barOf_43 rfl ?_
    refine ex_if_lt (tgt := 72) dX7_barOf_45 (by decide) (fun c_45 => ?_) (fun c_45 => ?_)
    · replace h := h.1 c_45
      refine ex_iload_n dX7_barOf_72 rfl ?_
      obtain ⟨khJ6, h⟩ := h
      have hJ6 : ∀ z5 : Int32, z5 = (if l2 = 0 then (M 57 (Int32.toNatClampNeg l1)) else (if l2 = 1 then l4 else l3)) → Ex true mX7_barOf 78 78 0 0 96 [.ref 46, .int l1, .int l2, .int l3, .int l4, .int l5] [.int z5] M Q := by
        intro z5 ez5
        replace h := h z5 ez5
        exact ex_iret dX7_barOf_96 rfl rfl rfl h
      refine ex_if_ne (tgt := 85) dX7_barOf_73 (by decide) (fun c_73 => ?_) (fun c_73 => ?_)
      · replace h := khJ6.1 c_73
        refine ex_iload_n dX7_barOf_85 rfl ?_
        refine ex_iconst (v := 1) dX7_barOf_86 (by decide) ?_
        refine ex_icmp_ne (tgt := 95) dX7_barOf_87 (by decide) (fun c_87 => ?_) (fun c_87 => ?_)
        · replace h := h.1 c_87
          refine ex_iload_n dX7_barOf_95 rfl ?_
          exact hJ6 _ (by rw [if_neg c_73, if_neg c_87])
        · replace h := h.2 c_87
          refine ex_iload dX7_barOf_90 rfl ?_
          refine ex_goto (tgt := 96) dX7_barOf_92 (by decide) ?_
          exact hJ6 _ (by rw [if_neg c_73, if_pos c_87])
      · replace h := khJ6.2 c_73
        refine ex_aload_n dX7_barOf_76 rfl ?_
        refine ex_getR (ci := 7) (j := 12) (v := 57) dX7_barOf_77 (by decide) rfl rfl lk_X7_44 rfl (by decide) ?_
        refine ex_iload_n dX7_barOf_80 rfl ?_
        obtain ⟨b4, h⟩ := h
        refine ex_iald dX7_barOf_81 (by decide) rfl b4 ?_
        refine ex_goto (tgt := 96) dX7_barOf_82 (by decide) ?_
        exact hJ6 _ (by rw [if_pos c_73])
    · replace h := h.2 c_45
      refine ex_aload_n dX7_barOf_48 rfl ?_
      refine ex_getR (ci := 7) (j := 13) (v := 58) dX7_barOf_49 (by decide) rfl rfl lk_X7_47 rfl (by decide) ?_
      refine ex_iload dX7_barOf_52 rfl ?_
      obtain ⟨b7, h⟩ := h
      refine ex_iald dX7_barOf_54 (by decide) rfl b7 ?_
      refine ex_iload_n dX7_barOf_55 rfl ?_
      refine ex_icmp_ne (tgt := 66) dX7_barOf_56 (by decide) (fun c_56 => ?_) (fun c_56 => ?_)
      · replace h := h.1 c_56
        refine ex_iinc (v := l5 + (-1)) (L2 := [.ref 46, .int l1, .int l2, .int l3, .int l4, .int (l5 + (-1))]) dX7_barOf_66 rfl rfl (by decide) rfl rfl ?_
        obtain ⟨x11, ex11⟩ : ∃ x11 : Int32, x11 = l5 + (-1) := ⟨_, rfl⟩
        rw [← ex11]
        replace h := h x11 ex11
        refine ex_goto (tgt := 43) dX7_barOf_69 (by decide) ?_
        exact hB43 l1 l2 l3 l4 x11 M h
      · replace h := h.2 c_56
        refine ex_iinc (v := l3 + 1) (L2 := [.ref 46, .int l1, .int l2, .int (l3 + 1), .int l4, .int l5]) dX7_barOf_59 rfl rfl (by decide) rfl rfl ?_
        obtain ⟨x12, ex12⟩ : ∃ x12 : Int32, x12 = l3 + 1 := ⟨_, rfl⟩
        rw [← ex12]
        replace h := h x12 ex12
        refine ex_iload dX7_barOf_62 rfl ?_
        refine ex_istore (L2 := [.ref 46, .int l1, .int l2, .int x12, .int l5, .int l5]) dX7_barOf_64 (by decide) rfl rfl ?_
        refine ex_iinc (v := l5 + (-1)) (L2 := [.ref 46, .int l1, .int l2, .int x12, .int l5, .int (l5 + (-1))]) dX7_barOf_66 rfl rfl (by decide) rfl rfl ?_
        obtain ⟨x13, ex13⟩ : ∃ x13 : Int32, x13 = l5 + (-1) := ⟨_, rfl⟩
        rw [← ex13]
        replace h := h x13 ex13
        refine ex_goto (tgt := 43) dX7_barOf_69 (by decide) ?_
        exact hB43 l1 l2 x12 l5 x13 M h
def w_X7_barOf (p1 : Int32) (p2 : Int32) (M : Mem) (Q : Int32 → Mem → Prop) : Prop := ((p1 < 0) → (Q (-1) M)) ∧ (¬ (p1 < 0) → ((vp_in 0 2) ∧ (((p1 < (M 53 (Int32.toNatClampNeg 0))) → (((p2 < 0) → (Q (-2) M)) ∧ (¬ (p2 < 0) → (((p2 ≤ 2) → ((vp_in 0 2) ∧ (∀ x3 : Int32, x3 = ((M 54 (Int32.toNatClampNeg 0)) - 1) → ∃ k, w_X7_barOf_43  Q  k p1 p2 0 (-1) x3 M))) ∧ (¬ (p2 ≤ 2) → (Q (-2) M)))))) ∧ (¬ (p1 < (M 53 (Int32.toNatClampNeg 0))) → (Q (-1) M)))))
theorem t_X7_barOf (p1 : Int32) (p2 : Int32) (M : Mem) (Q : Int32 → Mem → Prop) (h : w_X7_barOf  p1 p2 M Q) : Ex true mX7_barOf 78 78 0 0 0 [.ref 46, .int p1, .int p2, .null, .null, .null] [] M Q := by
  unfold w_X7_barOf at h
  refine ex_iload_n dX7_barOf_0 rfl ?_
  refine ex_if_lt (tgt := 14) dX7_barOf_1 (by decide) (fun c_1 => ?_) (fun c_1 => ?_)
  · replace h := h.1 c_1
    refine ex_iconst (v := (-1)) dX7_barOf_14 (by decide) ?_
    exact ex_iret dX7_barOf_15 rfl rfl rfl h
  · replace h := h.2 c_1
    refine ex_iload_n dX7_barOf_4 rfl ?_
    refine ex_aload_n dX7_barOf_5 rfl ?_
    refine ex_getR (ci := 7) (j := 8) (v := 53) dX7_barOf_6 (by decide) rfl rfl lk_X7_32 rfl (by decide) ?_
    refine ex_iconst (v := 0) dX7_barOf_9 (by decide) ?_
    obtain ⟨b1, h⟩ := h
    refine ex_iald dX7_barOf_10 (by decide) rfl b1 ?_
    refine ex_icmp_lt (tgt := 16) dX7_barOf_11 (by decide) (fun c_11 => ?_) (fun c_11 => ?_)
    · replace h := h.1 c_11
      refine ex_iload_n dX7_barOf_16 rfl ?_
      refine ex_if_lt (tgt := 25) dX7_barOf_17 (by decide) (fun c_17 => ?_) (fun c_17 => ?_)
      · replace h := h.1 c_17
        refine ex_bipush (v := (-2)) dX7_barOf_25 (by decide) ?_
        exact ex_iret dX7_barOf_27 rfl rfl rfl h
      · replace h := h.2 c_17
        refine ex_iload_n dX7_barOf_20 rfl ?_
        refine ex_iconst (v := 2) dX7_barOf_21 (by decide) ?_
        refine ex_icmp_le (tgt := 28) dX7_barOf_22 (by decide) (fun c_22 => ?_) (fun c_22 => ?_)
        · replace h := h.1 c_22
          refine ex_iconst (v := 0) dX7_barOf_28 (by decide) ?_
          refine ex_istore_n (L2 := [.ref 46, .int p1, .int p2, .int 0, .null, .null]) dX7_barOf_29 (by decide) rfl rfl ?_
          refine ex_iconst (v := (-1)) dX7_barOf_30 (by decide) ?_
          refine ex_istore (L2 := [.ref 46, .int p1, .int p2, .int 0, .int (-1), .null]) dX7_barOf_31 (by decide) rfl rfl ?_
          refine ex_aload_n dX7_barOf_33 rfl ?_
          refine ex_getR (ci := 7) (j := 9) (v := 54) dX7_barOf_34 (by decide) rfl rfl lk_X7_35 rfl (by decide) ?_
          refine ex_iconst (v := 0) dX7_barOf_37 (by decide) ?_
          obtain ⟨b2, h⟩ := h
          refine ex_iald dX7_barOf_38 (by decide) rfl b2 ?_
          refine ex_iconst (v := 1) dX7_barOf_39 (by decide) ?_
          refine ex_isub dX7_barOf_40 ?_
          refine ex_top (fun x3 ex3 => ?_)
          replace h := h x3 ex3
          refine ex_istore (L2 := [.ref 46, .int p1, .int p2, .int 0, .int (-1), .int x3]) dX7_barOf_41 (by decide) rfl rfl ?_
          obtain ⟨k_, h⟩ := h
          exact t_X7_barOf_43   Q   k_ p1 p2 0 (-1) x3 M h
        · replace h := h.2 c_22
          refine ex_bipush (v := (-2)) dX7_barOf_25 (by decide) ?_
          exact ex_iret dX7_barOf_27 rfl rfl rfl h
    · replace h := h.2 c_11
      refine ex_iconst (v := (-1)) dX7_barOf_14 (by decide) ?_
      exact ex_iret dX7_barOf_15 rfl rfl rfl h
def w_X7_item (p1 : Int32) (p2 : Int32) (M : Mem) (Q : Int32 → Mem → Prop) : Prop := ((p1 < 0) → (Q (-1) M)) ∧ (¬ (p1 < 0) → ((vp_in 0 2) ∧ (((p1 < (M 54 (Int32.toNatClampNeg 0))) → (((p2 < 0) → (Q (-2) M)) ∧ (¬ (p2 < 0) → (((p2 ≤ 14) → (((p2 ≤ 10) → (∀ M2 : Mem, M2 = (mrow M 78 (fun _ => 0)) → (vp_in p1 1200) ∧ ((vp_in 0 11) ∧ (∀ M5 : Mem, M5 = (mset M2 78 (Int32.toNatClampNeg 0) (M2 58 (Int32.toNatClampNeg p1))) → (vp_in p1 1200) ∧ ((vp_in 1 11) ∧ (∀ M8 : Mem, M8 = (mset M5 78 (Int32.toNatClampNeg 1) (M5 59 (Int32.toNatClampNeg p1))) → (vp_in p1 1200) ∧ ((vp_in 2 11) ∧ (∀ M11 : Mem, M11 = (mset M8 78 (Int32.toNatClampNeg 2) (M8 60 (Int32.toNatClampNeg p1))) → (vp_in p1 1200) ∧ ((vp_in 3 11) ∧ (∀ M14 : Mem, M14 = (mset M11 78 (Int32.toNatClampNeg 3) (M11 61 (Int32.toNatClampNeg p1))) → (vp_in p1 1200) ∧ ((vp_in 4 11) ∧ (∀ M17 : Mem, M17 = (mset M14 78 (Int32.toNatClampNeg 4) (M14 62 (Int32.toNatClampNeg p1))) → (vp_in p1 1200) ∧ ((vp_in 5 11) ∧ (∀ M20 : Mem, M20 = (mset M17 78 (Int32.toNatClampNeg 5) (M17 63 (Int32.toNatClampNeg p1))) → (vp_in p1 1200) ∧ ((vp_in 6 11) ∧ (∀ M23 : Mem, M23 = (mset M20 78 (Int32.toNatClampNeg 6) (M20 64 (Int32.toNatClampNeg p1))) → w_X7_lastsOf p1 M23 (fun v24 M25 => (vp_in 7 11) ∧ (∀ M27 : Mem, M27 = (mset M25 78 (Int32.toNatClampNeg 7) v24) → (vp_in p1 1200) ∧ ((vp_in 8 11) ∧ (∀ M30 : Mem, M30 = (mset M27 78 (Int32.toNatClampNeg 8) (M27 65 (Int32.toNatClampNeg p1))) → (vp_in p1 1200) ∧ ((vp_in 9 11) ∧ (∀ M33 : Mem, M33 = (mset M30 78 (Int32.toNatClampNeg 9) (M30 66 (Int32.toNatClampNeg p1))) → (vp_in p1 1200) ∧ ((vp_in 10 11) ∧ (∀ M36 : Mem, M36 = (mset M33 78 (Int32.toNatClampNeg 10) (M33 67 (Int32.toNatClampNeg p1))) → (vp_in p2 11) ∧ (Q (M36 78 (Int32.toNatClampNeg p2)) M36))))))))))))))))))))))))) ∧ (¬ (p2 ≤ 10) → ((vp_in p1 1200) ∧ (((((M 67 (Int32.toNatClampNeg p1)) ≤ (p2 - 11)) → (True)) ∧ (¬ ((M 67 (Int32.toNatClampNeg p1)) ≤ (p2 - 11)) → ((vp_in (((4 * p1) + p2) - 11) 4800) ∧ (True)))) ∧ (∀ z40 : Int32, z40 = (if (M 67 (Int32.toNatClampNeg p1)) ≤ (p2 - 11) then 0 else (M 68 (Int32.toNatClampNeg (((4 * p1) + p2) - 11)))) → Q z40 M)))))) ∧ (¬ (p2 ≤ 14) → (Q (-2) M)))))) ∧ (¬ (p1 < (M 54 (Int32.toNatClampNeg 0))) → (Q (-1) M)))))
theorem t_X7_item (p1 : Int32) (p2 : Int32) (M : Mem) (Q : Int32 → Mem → Prop) (h : w_X7_item  p1 p2 M Q) : Ex true mX7_item 78 78 1 11 0 [.ref 46, .int p1, .int p2, .null] [] M Q := by
  unfold w_X7_item at h
  refine ex_iload_n dX7_item_0 rfl ?_
  refine ex_if_lt (tgt := 14) dX7_item_1 (by decide) (fun c_1 => ?_) (fun c_1 => ?_)
  · replace h := h.1 c_1
    refine ex_iconst (v := (-1)) dX7_item_14 (by decide) ?_
    exact ex_iret dX7_item_15 rfl rfl rfl h
  · replace h := h.2 c_1
    refine ex_iload_n dX7_item_4 rfl ?_
    refine ex_aload_n dX7_item_5 rfl ?_
    refine ex_getR (ci := 7) (j := 9) (v := 54) dX7_item_6 (by decide) rfl rfl lk_X7_35 rfl (by decide) ?_
    refine ex_iconst (v := 0) dX7_item_9 (by decide) ?_
    obtain ⟨b1, h⟩ := h
    refine ex_iald dX7_item_10 (by decide) rfl b1 ?_
    refine ex_icmp_lt (tgt := 16) dX7_item_11 (by decide) (fun c_11 => ?_) (fun c_11 => ?_)
    · replace h := h.1 c_11
      refine ex_iload_n dX7_item_16 rfl ?_
      refine ex_if_lt (tgt := 26) dX7_item_17 (by decide) (fun c_17 => ?_) (fun c_17 => ?_)
      · replace h := h.1 c_17
        refine ex_bipush (v := (-2)) dX7_item_26 (by decide) ?_
        exact ex_iret dX7_item_28 rfl rfl rfl h
      · replace h := h.2 c_17
        refine ex_iload_n dX7_item_20 rfl ?_
        refine ex_bipush (v := 14) dX7_item_21 (by decide) ?_
        refine ex_icmp_le (tgt := 29) dX7_item_23 (by decide) (fun c_23 => ?_) (fun c_23 => ?_)
        · replace h := h.1 c_23
          refine ex_iload_n dX7_item_29 rfl ?_
          refine ex_bipush (v := 10) dX7_item_30 (by decide) ?_
          refine ex_icmp_le (tgt := 66) dX7_item_32 (by decide) (fun c_32 => ?_) (fun c_32 => ?_)
          · replace h := h.1 c_32
            refine ex_bipush (v := 11) dX7_item_66 (by decide) ?_
            refine ex_newI (kc := 0) (ks := 0) (len := 11) dX7_item_68 rfl (by decide) (by decide) (by decide) aw_I (by decide) rfl ?_
            refine ex_nmM (fun M2 eM2 => ?_)
            replace h := h M2 eM2
            refine ex_dup dX7_item_70 rfl ?_
            refine ex_iconst (v := 0) dX7_item_71 (by decide) ?_
            refine ex_aload_n dX7_item_72 rfl ?_
            refine ex_getR (ci := 7) (j := 13) (v := 58) dX7_item_73 (by decide) rfl rfl lk_X7_47 rfl (by decide) ?_
            refine ex_iload_n dX7_item_76 rfl ?_
            obtain ⟨b3, h⟩ := h
            refine ex_iald dX7_item_77 (by decide) rfl b3 ?_
            obtain ⟨b4, h⟩ := h
            refine ex_iast dX7_item_78 (by decide) rfl b4 ?_
            refine ex_nmM (fun M5 eM5 => ?_)
            replace h := h M5 eM5
            refine ex_dup dX7_item_79 rfl ?_
            refine ex_iconst (v := 1) dX7_item_80 (by decide) ?_
            refine ex_aload_n dX7_item_81 rfl ?_
            refine ex_getR (ci := 7) (j := 14) (v := 59) dX7_item_82 (by decide) rfl rfl lk_X7_50 rfl (by decide) ?_
            refine ex_iload_n dX7_item_85 rfl ?_
            obtain ⟨b6, h⟩ := h
            refine ex_iald dX7_item_86 (by decide) rfl b6 ?_
            obtain ⟨b7, h⟩ := h
            refine ex_iast dX7_item_87 (by decide) rfl b7 ?_
            refine ex_nmM (fun M8 eM8 => ?_)
            replace h := h M8 eM8
            refine ex_dup dX7_item_88 rfl ?_
            refine ex_iconst (v := 2) dX7_item_89 (by decide) ?_
            refine ex_aload_n dX7_item_90 rfl ?_
            refine ex_getR (ci := 7) (j := 15) (v := 60) dX7_item_91 (by decide) rfl rfl lk_X7_53 rfl (by decide) ?_
            refine ex_iload_n dX7_item_94 rfl ?_
            obtain ⟨b9, h⟩ := h
            refine ex_iald dX7_item_95 (by decide) rfl b9 ?_
            obtain ⟨b10, h⟩ := h
            refine ex_iast dX7_item_96 (by decide) rfl b10 ?_
            refine ex_nmM (fun M11 eM11 => ?_)
            replace h := h M11 eM11
            refine ex_dup dX7_item_97 rfl ?_
            refine ex_iconst (v := 3) dX7_item_98 (by decide) ?_
            refine ex_aload_n dX7_item_99 rfl ?_
            refine ex_getR (ci := 7) (j := 16) (v := 61) dX7_item_100 (by decide) rfl rfl lk_X7_56 rfl (by decide) ?_
            refine ex_iload_n dX7_item_103 rfl ?_
            obtain ⟨b12, h⟩ := h
            refine ex_iald dX7_item_104 (by decide) rfl b12 ?_
            obtain ⟨b13, h⟩ := h
            refine ex_iast dX7_item_105 (by decide) rfl b13 ?_
            refine ex_nmM (fun M14 eM14 => ?_)
            replace h := h M14 eM14
            refine ex_dup dX7_item_106 rfl ?_
            refine ex_iconst (v := 4) dX7_item_107 (by decide) ?_
            refine ex_aload_n dX7_item_108 rfl ?_
            refine ex_getR (ci := 7) (j := 17) (v := 62) dX7_item_109 (by decide) rfl rfl lk_X7_59 rfl (by decide) ?_
            refine ex_iload_n dX7_item_112 rfl ?_
            obtain ⟨b15, h⟩ := h
            refine ex_iald dX7_item_113 (by decide) rfl b15 ?_
            obtain ⟨b16, h⟩ := h
            refine ex_iast dX7_item_114 (by decide) rfl b16 ?_
            refine ex_nmM (fun M17 eM17 => ?_)
            replace h := h M17 eM17
            refine ex_dup dX7_item_115 rfl ?_
            refine ex_iconst (v := 5) dX7_item_116 (by decide) ?_
            refine ex_aload_n dX7_item_117 rfl ?_
            refine ex_getR (ci := 7) (j := 18) (v := 63) dX7_item_118 (by decide) rfl rfl lk_X7_62 rfl (by decide) ?_
            refine ex_iload_n dX7_item_121 rfl ?_
            obtain ⟨b18, h⟩ := h
            refine ex_iald dX7_item_122 (by decide) rfl b18 ?_
            obtain ⟨b19, h⟩ := h
            refine ex_iast dX7_item_123 (by decide) rfl b19 ?_
            refine ex_nmM (fun M20 eM20 => ?_)
            replace h := h M20 eM20
            refine ex_dup dX7_item_124 rfl ?_
            refine ex_bipush (v := 6) dX7_item_125 (by decide) ?_
            refine ex_aload_n dX7_item_127 rfl ?_
            refine ex_getR (ci := 7) (j := 19) (v := 64) dX7_item_128 (by decide) rfl rfl lk_X7_65 rfl (by decide) ?_
            refine ex_iload_n dX7_item_131 rfl ?_
            obtain ⟨b21, h⟩ := h
            refine ex_iald dX7_item_132 (by decide) rfl b21 ?_
            obtain ⟨b22, h⟩ := h
            refine ex_iast dX7_item_133 (by decide) rfl b22 ?_
            refine ex_nmM (fun M23 eM23 => ?_)
            replace h := h M23 eM23
            refine ex_dup dX7_item_134 rfl ?_
            refine ex_bipush (v := 7) dX7_item_135 (by decide) ?_
            refine ex_aload_n dX7_item_137 rfl ?_
            refine ex_iload_n dX7_item_138 rfl ?_
            refine ex_invV (k := 46) (ci := 7) (as := [.int p1]) (L2 := [.ref 46, .int p1]) (st := [.int 7, .ref 78, .ref 78]) 0 0 dX7_item_139 lk_X7_115 sl_X7_lastsOf (rmK_of rfl) (by decide) rfl ⟨by decide, rfl⟩ rfl (Nat.le_of_ble_eq_true rfl) (Nat.le_of_ble_eq_true rfl) (t79_X7_lastsOf   p1 M23 _ h) (fun v24 M25 h => ?_)
            show Ex true mX7_item 78 79 0 0 142 [.ref 46, .int p1, .int p2, .null] [.int v24, .int 7, .ref 78, .ref 78] M25 Q
            obtain ⟨b26, h⟩ := h
            refine ex_iast dX7_item_142 (by decide) rfl b26 ?_
            refine ex_nmM (fun M27 eM27 => ?_)
            replace h := h M27 eM27
            refine ex_dup dX7_item_143 rfl ?_
            refine ex_bipush (v := 8) dX7_item_144 (by decide) ?_
            refine ex_aload_n dX7_item_146 rfl ?_
            refine ex_getR (ci := 7) (j := 20) (v := 65) dX7_item_147 (by decide) rfl rfl lk_X7_68 rfl (by decide) ?_
            refine ex_iload_n dX7_item_150 rfl ?_
            obtain ⟨b28, h⟩ := h
            refine ex_iald dX7_item_151 (by decide) rfl b28 ?_
            obtain ⟨b29, h⟩ := h
            refine ex_iast dX7_item_152 (by decide) rfl b29 ?_
            refine ex_nmM (fun M30 eM30 => ?_)
            replace h := h M30 eM30
            refine ex_dup dX7_item_153 rfl ?_
            refine ex_bipush (v := 9) dX7_item_154 (by decide) ?_
            refine ex_aload_n dX7_item_156 rfl ?_
            refine ex_getR (ci := 7) (j := 21) (v := 66) dX7_item_157 (by decide) rfl rfl lk_X7_71 rfl (by decide) ?_
            refine ex_iload_n dX7_item_160 rfl ?_
            obtain ⟨b31, h⟩ := h
            refine ex_iald dX7_item_161 (by decide) rfl b31 ?_
            obtain ⟨b32, h⟩ := h
            refine ex_iast dX7_item_162 (by decide) rfl b32 ?_
            refine ex_nmM (fun M33 eM33 => ?_)
            replace h := h M33 eM33
            refine ex_dup dX7_item_163 rfl ?_
            refine ex_bipush (v := 10) dX7_item_164 (by decide) ?_
            refine ex_aload_n dX7_item_166 rfl ?_
            refine ex_getR (ci := 7) (j := 22) (v := 67) dX7_item_167 (by decide) rfl rfl lk_X7_74 rfl (by decide) ?_
            refine ex_iload_n dX7_item_170 rfl ?_
            obtain ⟨b34, h⟩ := h
            refine ex_iald dX7_item_171 (by decide) rfl b34 ?_
            obtain ⟨b35, h⟩ := h
            refine ex_iast dX7_item_172 (by decide) rfl b35 ?_
            refine ex_nmM (fun M36 eM36 => ?_)
            replace h := h M36 eM36
            refine ex_astore_n (L2 := [.ref 46, .int p1, .int p2, .ref 78]) dX7_item_173 (by decide) rfl rfl ?_
            refine ex_aload_n dX7_item_174 rfl ?_
            refine ex_iload_n dX7_item_175 rfl ?_
            obtain ⟨b37, h⟩ := h
            refine ex_iald dX7_item_176 (by decide) rfl b37 ?_
            exact ex_iret dX7_item_177 rfl rfl rfl h
          · replace h := h.2 c_32
            refine ex_iload_n dX7_item_35 rfl ?_
            refine ex_bipush (v := 11) dX7_item_36 (by decide) ?_
            refine ex_isub dX7_item_38 ?_
            refine ex_aload_n dX7_item_39 rfl ?_
            refine ex_getR (ci := 7) (j := 22) (v := 67) dX7_item_40 (by decide) rfl rfl lk_X7_74 rfl (by decide) ?_
            refine ex_iload_n dX7_item_43 rfl ?_
            obtain ⟨b38, h⟩ := h
            refine ex_iald dX7_item_44 (by decide) rfl b38 ?_
            obtain ⟨khJ41, h⟩ := h
            have hJ41 : ∀ z40 : Int32, z40 = (if (M 67 (Int32.toNatClampNeg p1)) ≤ (p2 - 11) then 0 else (M 68 (Int32.toNatClampNeg (((4 * p1) + p2) - 11)))) → Ex true mX7_item 78 78 1 11 65 [.ref 46, .int p1, .int p2, .null] [.int z40] M Q := by
              intro z40 ez40
              replace h := h z40 ez40
              exact ex_iret dX7_item_65 rfl rfl rfl h
            refine ex_icmp_ge (tgt := 64) dX7_item_45 (by decide) (fun c_45 => ?_) (fun c_45 => ?_)
            · replace h := khJ41.1 c_45
              refine ex_iconst (v := 0) dX7_item_64 (by decide) ?_
              exact hJ41 _ (by rw [if_pos c_45])
            · replace h := khJ41.2 c_45
              refine ex_aload_n dX7_item_48 rfl ?_
              refine ex_getR (ci := 7) (j := 23) (v := 68) dX7_item_49 (by decide) rfl rfl lk_X7_77 rfl (by decide) ?_
              refine ex_iconst (v := 4) dX7_item_52 (by decide) ?_
              refine ex_iload_n dX7_item_53 rfl ?_
              refine ex_imul dX7_item_54 ?_
              refine ex_iload_n dX7_item_55 rfl ?_
              refine ex_iadd dX7_item_56 ?_
              refine ex_bipush (v := 11) dX7_item_57 (by decide) ?_
              refine ex_isub dX7_item_59 ?_
              obtain ⟨b39, h⟩ := h
              refine ex_iald dX7_item_60 (by decide) rfl b39 ?_
              refine ex_goto (tgt := 65) dX7_item_61 (by decide) ?_
              exact hJ41 _ (by rw [if_neg c_45])
        · replace h := h.2 c_23
          refine ex_bipush (v := (-2)) dX7_item_26 (by decide) ?_
          exact ex_iret dX7_item_28 rfl rfl rfl h
    · replace h := h.2 c_11
      refine ex_iconst (v := (-1)) dX7_item_14 (by decide) ?_
      exact ex_iret dX7_item_15 rfl rfl rfl h
def wb_X7_loose_4 (Q : Int32 → Mem → Prop) (B4 : Int32 → Int32 → Mem → Prop) (l1 : Int32) (l2 : Int32) (M : Mem) : Prop := (vp_in 0 2) ∧ ((((M 54 (Int32.toNatClampNeg 0)) ≤ l2) → (Q l1 M)) ∧ (¬ ((M 54 (Int32.toNatClampNeg 0)) ≤ l2) → ((vp_in l2 1200) ∧ (((¬ ((M 65 (Int32.toNatClampNeg l2)) = 1) → (True)) ∧ (((M 65 (Int32.toNatClampNeg l2)) = 1) → ((vp_in 0 2) ∧ ((((l2 + 1) = (M 54 (Int32.toNatClampNeg 0))) → (True)) ∧ (¬ ((l2 + 1) = (M 54 (Int32.toNatClampNeg 0))) → ((vp_in (l2 + 1) 1200) ∧ ((vp_in l2 1200) ∧ ((((M 60 (Int32.toNatClampNeg (l2 + 1))) = (M 60 (Int32.toNatClampNeg l2))) → (True)) ∧ (¬ ((M 60 (Int32.toNatClampNeg (l2 + 1))) = (M 60 (Int32.toNatClampNeg l2))) → (True)))))))))) ∧ (∀ z6 : Int32, z6 = (if (M 65 (Int32.toNatClampNeg l2)) = 1 then (if (l2 + 1) = (M 54 (Int32.toNatClampNeg 0)) then 1 else (if (M 60 (Int32.toNatClampNeg (l2 + 1))) = (M 60 (Int32.toNatClampNeg l2)) then 0 else 1)) else 0) → ∀ x7 : Int32, x7 = (l1 + z6) → ∀ x8 : Int32, x8 = l2 + 1 → B4 x7 x8 M)))))
def w_X7_loose_4 (Q : Int32 → Mem → Prop) : Nat → Int32 → Int32 → Mem → Prop
  | 0 => fun _ _ _ => False
  | k + 1 => wb_X7_loose_4  Q  (w_X7_loose_4  Q  k)
theorem t_X7_loose_4 (Q : Int32 → Mem → Prop) : ∀ (k : Nat) (l1 : Int32) (l2 : Int32) (M : Mem), w_X7_loose_4  Q  k l1 l2 M → Ex true mX7_loose 78 78 0 0 4 [.ref 46, .int l1, .int l2] [] M Q := by
  intro k
  induction k with
  | zero => intro l1 l2 M h; exact False.elim h
  | succ k hB4 =>
    intro l1 l2 M h
    replace h : wb_X7_loose_4  Q  (w_X7_loose_4  Q  k) l1 l2 M := h
    generalize w_X7_loose_4  Q  k = B4 at hB4 h
    unfold wb_X7_loose_4 at h
    refine ex_iload_n dX7_loose_4 rfl ?_
    refine ex_aload_n dX7_loose_5 rfl ?_
    refine ex_getR (ci := 7) (j := 9) (v := 54) dX7_loose_6 (by decide) rfl rfl lk_X7_35 rfl (by decide) ?_
    refine ex_iconst (v := 0) dX7_loose_9 (by decide) ?_
    obtain ⟨b1, h⟩ := h
    refine ex_iald dX7_loose_10 (by decide) rfl b1 ?_
    refine ex_icmp_ge (tgt := 67) dX7_loose_11 (by decide) (fun c_11 => ?_) (fun c_11 => ?_)
    · replace h := h.1 c_11
      refine ex_iload_n dX7_loose_67 rfl ?_
      exact ex_iret dX7_loose_68 rfl rfl rfl h
    · replace h := h.2 c_11
      refine ex_iload_n dX7_loose_14 rfl ?_
      refine ex_aload_n dX7_loose_15 rfl ?_
      refine ex_getR (ci := 7) (j := 20) (v := 65) dX7_loose_16 (by decide) rfl rfl lk_X7_68 rfl (by decide) ?_
      refine ex_iload_n dX7_loose_19 rfl ?_
      obtain ⟨b2, h⟩ := h
      refine ex_iald dX7_loose_20 (by decide) rfl b2 ?_
      refine ex_iconst (v := 1) dX7_loose_21 (by decide) ?_
      obtain ⟨khJ9, h⟩ := h
      have hJ9 : ∀ z6 : Int32, z6 = (if (M 65 (Int32.toNatClampNeg l2)) = 1 then (if (l2 + 1) = (M 54 (Int32.toNatClampNeg 0)) then 1 else (if (M 60 (Int32.toNatClampNeg (l2 + 1))) = (M 60 (Int32.toNatClampNeg l2)) then 0 else 1)) else 0) → Ex true mX7_loose 78 78 0 0 59 [.ref 46, .int l1, .int l2] [.int z6, .int l1] M Q := by
        intro z6 ez6
        replace h := h z6 ez6
        refine ex_iadd dX7_loose_59 ?_
        refine ex_top (fun x7 ex7 => ?_)
        replace h := h x7 ex7
        refine ex_istore_n (L2 := [.ref 46, .int x7, .int l2]) dX7_loose_60 (by decide) rfl rfl ?_
        refine ex_iinc (v := l2 + 1) (L2 := [.ref 46, .int x7, .int (l2 + 1)]) dX7_loose_61 rfl rfl (by decide) rfl rfl ?_
        obtain ⟨x8, ex8⟩ : ∃ x8 : Int32, x8 = l2 + 1 := ⟨_, rfl⟩
        rw [← ex8]
        replace h := h x8 ex8
        refine ex_goto (tgt := 4) dX7_loose_64 (by decide) ?_
        exact hB4 x7 x8 M h
      refine ex_icmp_ne (tgt := 58) dX7_loose_22 (by decide) (fun c_22 => ?_) (fun c_22 => ?_)
      · replace h := khJ9.1 c_22
        refine ex_iconst (v := 0) dX7_loose_58 (by decide) ?_
        exact hJ9 _ (by rw [if_neg c_22])
      · replace h := khJ9.2 c_22
        refine ex_iload_n dX7_loose_25 rfl ?_
        refine ex_iconst (v := 1) dX7_loose_26 (by decide) ?_
        refine ex_iadd dX7_loose_27 ?_
        refine ex_aload_n dX7_loose_28 rfl ?_
        refine ex_getR (ci := 7) (j := 9) (v := 54) dX7_loose_29 (by decide) rfl rfl lk_X7_35 rfl (by decide) ?_
        refine ex_iconst (v := 0) dX7_loose_32 (by decide) ?_
        obtain ⟨b3, h⟩ := h
        refine ex_iald dX7_loose_33 (by decide) rfl b3 ?_
        refine ex_icmp_eq (tgt := 54) dX7_loose_34 (by decide) (fun c_34 => ?_) (fun c_34 => ?_)
        · replace h := h.1 c_34
          refine ex_iconst (v := 1) dX7_loose_54 (by decide) ?_
          refine ex_goto (tgt := 59) dX7_loose_55 (by decide) ?_
          exact hJ9 _ (by rw [if_pos c_22, if_pos c_34])
        · replace h := h.2 c_34
          refine ex_aload_n dX7_loose_37 rfl ?_
          refine ex_getR (ci := 7) (j := 15) (v := 60) dX7_loose_38 (by decide) rfl rfl lk_X7_53 rfl (by decide) ?_
          refine ex_iload_n dX7_loose_41 rfl ?_
          refine ex_iconst (v := 1) dX7_loose_42 (by decide) ?_
          refine ex_iadd dX7_loose_43 ?_
          obtain ⟨b4, h⟩ := h
          refine ex_iald dX7_loose_44 (by decide) rfl b4 ?_
          refine ex_aload_n dX7_loose_45 rfl ?_
          refine ex_getR (ci := 7) (j := 15) (v := 60) dX7_loose_46 (by decide) rfl rfl lk_X7_53 rfl (by decide) ?_
          refine ex_iload_n dX7_loose_49 rfl ?_
          obtain ⟨b5, h⟩ := h
          refine ex_iald dX7_loose_50 (by decide) rfl b5 ?_
          refine ex_icmp_eq (tgt := 58) dX7_loose_51 (by decide) (fun c_51 => ?_) (fun c_51 => ?_)
          · replace h := h.1 c_51
            refine ex_iconst (v := 0) dX7_loose_58 (by decide) ?_
            exact hJ9 _ (by rw [if_pos c_22, if_neg c_34, if_pos c_51])
          · replace h := h.2 c_51
            refine ex_iconst (v := 1) dX7_loose_54 (by decide) ?_
            refine ex_goto (tgt := 59) dX7_loose_55 (by decide) ?_
            exact hJ9 _ (by rw [if_pos c_22, if_neg c_34, if_neg c_51])
def w_X7_loose (M : Mem) (Q : Int32 → Mem → Prop) : Prop := ∃ k, w_X7_loose_4  Q  k 0 0 M
theorem t_X7_loose (M : Mem) (Q : Int32 → Mem → Prop) (h : w_X7_loose   M Q) : Ex true mX7_loose 78 78 0 0 0 [.ref 46, .null, .null] [] M Q := by
  unfold w_X7_loose at h
  refine ex_iconst (v := 0) dX7_loose_0 (by decide) ?_
  refine ex_istore_n (L2 := [.ref 46, .int 0, .null]) dX7_loose_1 (by decide) rfl rfl ?_
  refine ex_iconst (v := 0) dX7_loose_2 (by decide) ?_
  refine ex_istore_n (L2 := [.ref 46, .int 0, .int 0]) dX7_loose_3 (by decide) rfl rfl ?_
  obtain ⟨k_, h⟩ := h
  exact t_X7_loose_4   Q   k_ 0 0 M h
def w_X7_told_53 (Q : Int32 → Mem → Prop) (l1 : Int32) (l2 : Int32) (t0 : Int32) (M : Mem) : Prop := ((¬ (l1 = 0) → ((¬ (l1 = 1) → ((¬ (l1 = 2) → ((¬ (l1 = 3) → ((¬ (l1 = 4) → (True)) ∧ ((l1 = 4) → ((vp_in 0 2) ∧ (True))))) ∧ ((l1 = 3) → (True)))) ∧ ((l1 = 2) → (True)))) ∧ ((l1 = 1) → ((vp_in 0 2) ∧ (True))))) ∧ ((l1 = 0) → ((vp_in 0 2) ∧ (True)))) ∧ (∀ z6 : Int32, z6 = (if l1 = 0 then (M 53 (Int32.toNatClampNeg 0)) else (if l1 = 1 then (M 54 (Int32.toNatClampNeg 0)) else (if l1 = 2 then (M 46 7) else (if l1 = 3 then (M 46 6) else (if l1 = 4 then (M 55 (Int32.toNatClampNeg 0)) else t0))))) → Q z6 M)
theorem t_X7_told_53 (Q : Int32 → Mem → Prop) (l1 : Int32) (l2 : Int32) (t0 : Int32) (M : Mem) (h : w_X7_told_53  Q  l1 l2 t0 M) : Ex true mX7_told 78 78 0 0 53 [.ref 46, .int l1, .int l2, .null] [.int t0] M Q := by
  unfold w_X7_told_53 at h
  refine ex_istore_n (L2 := [.ref 46, .int l1, .int l2, .int t0]) dX7_told_53 (by decide) rfl rfl ?_
  refine ex_iload_n dX7_told_54 rfl ?_
  obtain ⟨khJ7, h⟩ := h
  have hJ7 : ∀ z6 : Int32, z6 = (if l1 = 0 then (M 53 (Int32.toNatClampNeg 0)) else (if l1 = 1 then (M 54 (Int32.toNatClampNeg 0)) else (if l1 = 2 then (M 46 7) else (if l1 = 3 then (M 46 6) else (if l1 = 4 then (M 55 (Int32.toNatClampNeg 0)) else t0))))) → Ex true mX7_told 78 78 0 0 120 [.ref 46, .int l1, .int l2, .int t0] [.int z6] M Q := by
    intro z6 ez6
    replace h := h z6 ez6
    exact ex_iret dX7_told_120 rfl rfl rfl h
  refine ex_if_ne (tgt := 67) dX7_told_55 (by decide) (fun c_55 => ?_) (fun c_55 => ?_)
  · replace h := khJ7.1 c_55
    refine ex_iload_n dX7_told_67 rfl ?_
    refine ex_iconst (v := 1) dX7_told_68 (by decide) ?_
    refine ex_icmp_ne (tgt := 81) dX7_told_69 (by decide) (fun c_69 => ?_) (fun c_69 => ?_)
    · replace h := h.1 c_69
      refine ex_iload_n dX7_told_81 rfl ?_
      refine ex_iconst (v := 2) dX7_told_82 (by decide) ?_
      refine ex_icmp_ne (tgt := 93) dX7_told_83 (by decide) (fun c_83 => ?_) (fun c_83 => ?_)
      · replace h := h.1 c_83
        refine ex_iload_n dX7_told_93 rfl ?_
        refine ex_iconst (v := 3) dX7_told_94 (by decide) ?_
        refine ex_icmp_ne (tgt := 105) dX7_told_95 (by decide) (fun c_95 => ?_) (fun c_95 => ?_)
        · replace h := h.1 c_95
          refine ex_iload_n dX7_told_105 rfl ?_
          refine ex_iconst (v := 4) dX7_told_106 (by decide) ?_
          refine ex_icmp_ne (tgt := 119) dX7_told_107 (by decide) (fun c_107 => ?_) (fun c_107 => ?_)
          · replace h := h.1 c_107
            refine ex_iload_n dX7_told_119 rfl ?_
            exact hJ7 _ (by rw [if_neg c_55, if_neg c_69, if_neg c_83, if_neg c_95, if_neg c_107])
          · replace h := h.2 c_107
            refine ex_aload_n dX7_told_110 rfl ?_
            refine ex_getR (ci := 7) (j := 10) (v := 55) dX7_told_111 (by decide) rfl rfl lk_X7_38 rfl (by decide) ?_
            refine ex_iconst (v := 0) dX7_told_114 (by decide) ?_
            obtain ⟨b3, h⟩ := h
            refine ex_iald dX7_told_115 (by decide) rfl b3 ?_
            refine ex_goto (tgt := 120) dX7_told_116 (by decide) ?_
            exact hJ7 _ (by rw [if_neg c_55, if_neg c_69, if_neg c_83, if_neg c_95, if_pos c_107])
        · replace h := h.2 c_95
          refine ex_aload_n dX7_told_98 rfl ?_
          refine ex_getI (ci := 7) (j := 6) dX7_told_99 (by decide) rfl rfl lk_X7_108 ?_
          refine ex_goto (tgt := 120) dX7_told_102 (by decide) ?_
          exact hJ7 _ (by rw [if_neg c_55, if_neg c_69, if_neg c_83, if_pos c_95])
      · replace h := h.2 c_83
        refine ex_aload_n dX7_told_86 rfl ?_
        refine ex_getI (ci := 7) (j := 7) dX7_told_87 (by decide) rfl rfl lk_X7_28 ?_
        refine ex_goto (tgt := 120) dX7_told_90 (by decide) ?_
        exact hJ7 _ (by rw [if_neg c_55, if_neg c_69, if_pos c_83])
    · replace h := h.2 c_69
      refine ex_aload_n dX7_told_72 rfl ?_
      refine ex_getR (ci := 7) (j := 9) (v := 54) dX7_told_73 (by decide) rfl rfl lk_X7_35 rfl (by decide) ?_
      refine ex_iconst (v := 0) dX7_told_76 (by decide) ?_
      obtain ⟨b4, h⟩ := h
      refine ex_iald dX7_told_77 (by decide) rfl b4 ?_
      refine ex_goto (tgt := 120) dX7_told_78 (by decide) ?_
      exact hJ7 _ (by rw [if_neg c_55, if_pos c_69])
  · replace h := khJ7.2 c_55
    refine ex_aload_n dX7_told_58 rfl ?_
    refine ex_getR (ci := 7) (j := 8) (v := 53) dX7_told_59 (by decide) rfl rfl lk_X7_32 rfl (by decide) ?_
    refine ex_iconst (v := 0) dX7_told_62 (by decide) ?_
    obtain ⟨b5, h⟩ := h
    refine ex_iald dX7_told_63 (by decide) rfl b5 ?_
    refine ex_goto (tgt := 120) dX7_told_64 (by decide) ?_
    exact hJ7 _ (by rw [if_pos c_55])
def w_X7_told_35 (Q : Int32 → Mem → Prop) (l1 : Int32) (l2 : Int32) (M : Mem) : Prop := w_X7_told_53  Q  l1 l2 0 M
theorem t_X7_told_35 (Q : Int32 → Mem → Prop) (l1 : Int32) (l2 : Int32) (M : Mem) (h : w_X7_told_35  Q  l1 l2 M) : Ex true mX7_told 78 78 0 0 35 [.ref 46, .int l1, .int l2, .null] [] M Q := by
  unfold w_X7_told_35 at h
  refine ex_iconst (v := 0) dX7_told_35 (by decide) ?_
  refine ex_goto (tgt := 53) dX7_told_36 (by decide) ?_
  exact t_X7_told_53   Q   l1 l2 0 M h
def w_X7_told (p1 : Int32) (M : Mem) (Q : Int32 → Mem → Prop) : Prop := ((p1 < 0) → (Q (-2) M)) ∧ (¬ (p1 < 0) → (((p1 ≤ 5) → ((vp_in 0 2) ∧ (∀ x2 : Int32, x2 = ((M 53 (Int32.toNatClampNeg 0)) - 1) → ((x2 < 0) → (w_X7_told_35  Q  p1 x2 M)) ∧ (¬ (x2 < 0) → ((vp_in x2 120) ∧ ((¬ ((M 56 (Int32.toNatClampNeg x2)) = 1) → ((vp_in x2 120) ∧ (w_X7_voiceLasts 0 x2 ((M 57 (Int32.toNatClampNeg x2)) - 1) M (fun v10 M11 => w_X7_told_53  Q  p1 x2 v10 M11)))) ∧ (((M 56 (Int32.toNatClampNeg x2)) = 1) → (w_X7_told_35  Q  p1 x2 M)))))))) ∧ (¬ (p1 ≤ 5) → (Q (-2) M))))
theorem t_X7_told (p1 : Int32) (M : Mem) (Q : Int32 → Mem → Prop) (h : w_X7_told  p1 M Q) : Ex true mX7_told 78 78 0 0 0 [.ref 46, .int p1, .null, .null] [] M Q := by
  unfold w_X7_told at h
  refine ex_iload_n dX7_told_0 rfl ?_
  refine ex_if_lt (tgt := 9) dX7_told_1 (by decide) (fun c_1 => ?_) (fun c_1 => ?_)
  · replace h := h.1 c_1
    refine ex_bipush (v := (-2)) dX7_told_9 (by decide) ?_
    exact ex_iret dX7_told_11 rfl rfl rfl h
  · replace h := h.2 c_1
    refine ex_iload_n dX7_told_4 rfl ?_
    refine ex_iconst (v := 5) dX7_told_5 (by decide) ?_
    refine ex_icmp_le (tgt := 12) dX7_told_6 (by decide) (fun c_6 => ?_) (fun c_6 => ?_)
    · replace h := h.1 c_6
      refine ex_aload_n dX7_told_12 rfl ?_
      refine ex_getR (ci := 7) (j := 8) (v := 53) dX7_told_13 (by decide) rfl rfl lk_X7_32 rfl (by decide) ?_
      refine ex_iconst (v := 0) dX7_told_16 (by decide) ?_
      obtain ⟨b1, h⟩ := h
      refine ex_iald dX7_told_17 (by decide) rfl b1 ?_
      refine ex_iconst (v := 1) dX7_told_18 (by decide) ?_
      refine ex_isub dX7_told_19 ?_
      refine ex_top (fun x2 ex2 => ?_)
      replace h := h x2 ex2
      refine ex_istore_n (L2 := [.ref 46, .int p1, .int x2, .null]) dX7_told_20 (by decide) rfl rfl ?_
      refine ex_iload_n dX7_told_21 rfl ?_
      refine ex_if_lt (tgt := 35) dX7_told_22 (by decide) (fun c_22 => ?_) (fun c_22 => ?_)
      · replace h := h.1 c_22
        exact t_X7_told_35   Q   p1 x2 M h
      · replace h := h.2 c_22
        refine ex_aload_n dX7_told_25 rfl ?_
        refine ex_getR (ci := 7) (j := 11) (v := 56) dX7_told_26 (by decide) rfl rfl lk_X7_41 rfl (by decide) ?_
        refine ex_iload_n dX7_told_29 rfl ?_
        obtain ⟨b8, h⟩ := h
        refine ex_iald dX7_told_30 (by decide) rfl b8 ?_
        refine ex_iconst (v := 1) dX7_told_31 (by decide) ?_
        refine ex_icmp_ne (tgt := 39) dX7_told_32 (by decide) (fun c_32 => ?_) (fun c_32 => ?_)
        · replace h := h.1 c_32
          refine ex_aload_n dX7_told_39 rfl ?_
          refine ex_iconst (v := 0) dX7_told_40 (by decide) ?_
          refine ex_iload_n dX7_told_41 rfl ?_
          refine ex_aload_n dX7_told_42 rfl ?_
          refine ex_getR (ci := 7) (j := 12) (v := 57) dX7_told_43 (by decide) rfl rfl lk_X7_44 rfl (by decide) ?_
          refine ex_iload_n dX7_told_46 rfl ?_
          obtain ⟨b9, h⟩ := h
          refine ex_iald dX7_told_47 (by decide) rfl b9 ?_
          refine ex_iconst (v := 1) dX7_told_48 (by decide) ?_
          refine ex_isub dX7_told_49 ?_
          refine ex_invV (k := 46) (ci := 7) (as := [.int 0, .int x2, .int ((M 57 (Int32.toNatClampNeg x2)) - 1)]) (L2 := [.ref 46, .int 0, .int x2, .int ((M 57 (Int32.toNatClampNeg x2)) - 1), .null, .null]) (st := []) 0 0 dX7_told_50 lk_X7_208 sl_X7_voiceLasts (rmK_of rfl) (by decide) rfl ⟨by decide, rfl⟩ rfl (Nat.le_of_ble_eq_true rfl) (Nat.le_of_ble_eq_true rfl) (t_X7_voiceLasts   0 x2 ((M 57 (Int32.toNatClampNeg x2)) - 1) M _ h) (fun v10 M11 h => ?_)
          show Ex true mX7_told 78 78 0 0 53 [.ref 46, .int p1, .int x2, .null] [.int v10] M11 Q
          exact t_X7_told_53   Q   p1 x2 v10 M11 h
        · replace h := h.2 c_32
          exact t_X7_told_35   Q   p1 x2 M h
    · replace h := h.2 c_6
      refine ex_bipush (v := (-2)) dX7_told_9 (by decide) ?_
      exact ex_iret dX7_told_11 rfl rfl rfl h
