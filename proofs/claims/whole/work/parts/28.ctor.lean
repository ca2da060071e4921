theorem vin {i : Int32} {n : Nat} (h : (!(decide (i < 0) || decide (n ≤ i.toNatClampNeg))) = true) : vp_in i n := by
  unfold vp_in
  simpa using h
theorem fx_X0_15 : Cond.fieldLink RX0 15 (nmC 0) (TC 0 4).2.1 (TC 0 4).2.2.1 ∈ gwT := mem_gw (inT 124 (by decide +kernel)) rfl
theorem fx_X0_19 : Cond.fieldLink RX0 19 (nmC 0) (TC 0 5).2.1 (TC 0 5).2.2.1 ∈ gwT := mem_gw (inT 128 (by decide +kernel)) rfl
theorem fx_X0_22 : Cond.fieldLink RX0 22 (nmC 0) (TC 0 6).2.1 (TC 0 6).2.2.1 ∈ gwT := mem_gw (inT 133 (by decide +kernel)) rfl
theorem fx_X0_25 : Cond.fieldLink RX0 25 (nmC 0) (TC 0 7).2.1 (TC 0 7).2.2.1 ∈ gwT := mem_gw (inT 138 (by decide +kernel)) rfl
theorem fx_X0_28 : Cond.fieldLink RX0 28 (nmC 0) (TC 0 8).2.1 (TC 0 8).2.2.1 ∈ gwT := mem_gw (inT 141 (by decide +kernel)) rfl
theorem fx_X0_31 : Cond.fieldLink RX0 31 (nmC 0) (TC 0 9).2.1 (TC 0 9).2.2.1 ∈ gwT := mem_gw (inT 144 (by decide +kernel)) rfl
theorem fx_X0_34 : Cond.fieldLink RX0 34 (nmC 0) (TC 0 10).2.1 (TC 0 10).2.2.1 ∈ gwT := mem_gw (inT 147 (by decide +kernel)) rfl
theorem fx_X0_37 : Cond.fieldLink RX0 37 (nmC 0) (TC 0 11).2.1 (TC 0 11).2.2.1 ∈ gwT := mem_gw (inT 150 (by decide +kernel)) rfl
theorem fx_X0_40 : Cond.fieldLink RX0 40 (nmC 0) (TC 0 12).2.1 (TC 0 12).2.2.1 ∈ gwT := mem_gw (inT 154 (by decide +kernel)) rfl
theorem fx_X0_43 : Cond.fieldLink RX0 43 (nmC 0) (TC 0 13).2.1 (TC 0 13).2.2.1 ∈ gwT := mem_gw (inT 159 (by decide +kernel)) rfl
theorem fx_X0_46 : Cond.fieldLink RX0 46 (nmC 0) (TC 0 14).2.1 (TC 0 14).2.2.1 ∈ gwT := mem_gw (inT 163 (by decide +kernel)) rfl
theorem fx_X0_49 : Cond.fieldLink RX0 49 (nmC 0) (TC 0 15).2.1 (TC 0 15).2.2.1 ∈ gwT := mem_gw (inT 167 (by decide +kernel)) rfl
theorem fx_X0_52 : Cond.fieldLink RX0 52 (nmC 0) (TC 0 16).2.1 (TC 0 16).2.2.1 ∈ gwT := mem_gw (inT 171 (by decide +kernel)) rfl
theorem fx_X0_55 : Cond.fieldLink RX0 55 (nmC 0) (TC 0 17).2.1 (TC 0 17).2.2.1 ∈ gwT := mem_gw (inT 174 (by decide +kernel)) rfl
theorem fx_X2_9 : Cond.fieldLink RX2 9 (nmC 2) (TC 2 0).2.1 (TC 2 0).2.2.1 ∈ gwT := mem_gw (inT 91 (by decide +kernel)) rfl
theorem fx_X3_12 : Cond.fieldLink RX3 12 (nmC 3) (TC 3 1).2.1 (TC 3 1).2.2.1 ∈ gwT := mem_gw (inT 256 (by decide +kernel)) rfl
theorem fx_X3_18 : Cond.fieldLink RX3 18 (nmC 3) (TC 3 0).2.1 (TC 3 0).2.2.1 ∈ gwT := mem_gw (inT 255 (by decide +kernel)) rfl
theorem fx_X4_12 : Cond.fieldLink RX4 12 (nmC 4) (TC 4 1).2.1 (TC 4 1).2.2.1 ∈ gwT := mem_gw (inT 286 (by decide +kernel)) rfl
theorem fx_X4_18 : Cond.fieldLink RX4 18 (nmC 4) (TC 4 2).2.1 (TC 4 2).2.2.1 ∈ gwT := mem_gw (inT 287 (by decide +kernel)) rfl
theorem fx_X4_22 : Cond.fieldLink RX4 22 (nmC 4) (TC 4 3).2.1 (TC 4 3).2.2.1 ∈ gwT := mem_gw (inT 288 (by decide +kernel)) rfl
theorem fx_X4_26 : Cond.fieldLink RX4 26 (nmC 4) (TC 4 0).2.1 (TC 4 0).2.2.1 ∈ gwT := mem_gw (inT 285 (by decide +kernel)) rfl
theorem fx_X5_11 : Cond.fieldLink RX5 11 (nmC 5) (TC 5 0).2.1 (TC 5 0).2.2.1 ∈ gwT := mem_gw (inT 218 (by decide +kernel)) rfl
theorem fx_X5_15 : Cond.fieldLink RX5 15 (nmC 5) (TC 5 1).2.1 (TC 5 1).2.2.1 ∈ gwT := mem_gw (inT 220 (by decide +kernel)) rfl
theorem fx_X5_18 : Cond.fieldLink RX5 18 (nmC 5) (TC 5 3).2.1 (TC 5 3).2.2.1 ∈ gwT := mem_gw (inT 222 (by decide +kernel)) rfl
theorem fx_X5_21 : Cond.fieldLink RX5 21 (nmC 5) (TC 5 4).2.1 (TC 5 4).2.2.1 ∈ gwT := mem_gw (inT 223 (by decide +kernel)) rfl
theorem fx_X6_32 : Cond.fieldLink RX6 32 (nmC 6) (TC 6 4).2.1 (TC 6 4).2.2.1 ∈ gwT := mem_gw (inT 309 (by decide +kernel)) rfl
theorem fx_X6_41 : Cond.fieldLink RX6 41 (nmC 6) (TC 6 5).2.1 (TC 6 5).2.2.1 ∈ gwT := mem_gw (inT 310 (by decide +kernel)) rfl
theorem fx_X6_48 : Cond.fieldLink RX6 48 (nmC 6) (TC 6 6).2.1 (TC 6 6).2.2.1 ∈ gwT := mem_gw (inT 311 (by decide +kernel)) rfl
theorem fx_X7_7 : Cond.fieldLink RX7 7 (nmC 7) (TC 7 0).2.1 (TC 7 0).2.2.1 ∈ gwT := mem_gw (inT 773 (by decide +kernel)) rfl
theorem fx_X7_13 : Cond.fieldLink RX7 13 (nmC 7) (TC 7 1).2.1 (TC 7 1).2.2.1 ∈ gwT := mem_gw (inT 774 (by decide +kernel)) rfl
theorem fx_X7_16 : Cond.fieldLink RX7 16 (nmC 7) (TC 7 2).2.1 (TC 7 2).2.2.1 ∈ gwT := mem_gw (inT 775 (by decide +kernel)) rfl
theorem fx_X7_19 : Cond.fieldLink RX7 19 (nmC 7) (TC 7 3).2.1 (TC 7 3).2.2.1 ∈ gwT := mem_gw (inT 776 (by decide +kernel)) rfl
theorem fx_X7_22 : Cond.fieldLink RX7 22 (nmC 7) (TC 7 4).2.1 (TC 7 4).2.2.1 ∈ gwT := mem_gw (inT 777 (by decide +kernel)) rfl
theorem fx_X7_25 : Cond.fieldLink RX7 25 (nmC 7) (TC 7 5).2.1 (TC 7 5).2.2.1 ∈ gwT := mem_gw (inT 778 (by decide +kernel)) rfl
theorem fx_X7_32 : Cond.fieldLink RX7 32 (nmC 7) (TC 7 8).2.1 (TC 7 8).2.2.1 ∈ gwT := mem_gw (inT 781 (by decide +kernel)) rfl
theorem fx_X7_35 : Cond.fieldLink RX7 35 (nmC 7) (TC 7 9).2.1 (TC 7 9).2.2.1 ∈ gwT := mem_gw (inT 782 (by decide +kernel)) rfl
theorem fx_X7_38 : Cond.fieldLink RX7 38 (nmC 7) (TC 7 10).2.1 (TC 7 10).2.2.1 ∈ gwT := mem_gw (inT 783 (by decide +kernel)) rfl
theorem fx_X7_41 : Cond.fieldLink RX7 41 (nmC 7) (TC 7 11).2.1 (TC 7 11).2.2.1 ∈ gwT := mem_gw (inT 784 (by decide +kernel)) rfl
theorem fx_X7_44 : Cond.fieldLink RX7 44 (nmC 7) (TC 7 12).2.1 (TC 7 12).2.2.1 ∈ gwT := mem_gw (inT 785 (by decide +kernel)) rfl
theorem fx_X7_47 : Cond.fieldLink RX7 47 (nmC 7) (TC 7 13).2.1 (TC 7 13).2.2.1 ∈ gwT := mem_gw (inT 786 (by decide +kernel)) rfl
theorem fx_X7_50 : Cond.fieldLink RX7 50 (nmC 7) (TC 7 14).2.1 (TC 7 14).2.2.1 ∈ gwT := mem_gw (inT 787 (by decide +kernel)) rfl
theorem fx_X7_53 : Cond.fieldLink RX7 53 (nmC 7) (TC 7 15).2.1 (TC 7 15).2.2.1 ∈ gwT := mem_gw (inT 788 (by decide +kernel)) rfl
theorem fx_X7_56 : Cond.fieldLink RX7 56 (nmC 7) (TC 7 16).2.1 (TC 7 16).2.2.1 ∈ gwT := mem_gw (inT 789 (by decide +kernel)) rfl
theorem fx_X7_59 : Cond.fieldLink RX7 59 (nmC 7) (TC 7 17).2.1 (TC 7 17).2.2.1 ∈ gwT := mem_gw (inT 790 (by decide +kernel)) rfl
theorem fx_X7_62 : Cond.fieldLink RX7 62 (nmC 7) (TC 7 18).2.1 (TC 7 18).2.2.1 ∈ gwT := mem_gw (inT 791 (by decide +kernel)) rfl
theorem fx_X7_65 : Cond.fieldLink RX7 65 (nmC 7) (TC 7 19).2.1 (TC 7 19).2.2.1 ∈ gwT := mem_gw (inT 792 (by decide +kernel)) rfl
theorem fx_X7_68 : Cond.fieldLink RX7 68 (nmC 7) (TC 7 20).2.1 (TC 7 20).2.2.1 ∈ gwT := mem_gw (inT 793 (by decide +kernel)) rfl
theorem fx_X7_71 : Cond.fieldLink RX7 71 (nmC 7) (TC 7 21).2.1 (TC 7 21).2.2.1 ∈ gwT := mem_gw (inT 794 (by decide +kernel)) rfl
theorem fx_X7_74 : Cond.fieldLink RX7 74 (nmC 7) (TC 7 22).2.1 (TC 7 22).2.2.1 ∈ gwT := mem_gw (inT 795 (by decide +kernel)) rfl
theorem fx_X7_77 : Cond.fieldLink RX7 77 (nmC 7) (TC 7 23).2.1 (TC 7 23).2.2.1 ∈ gwT := mem_gw (inT 796 (by decide +kernel)) rfl
theorem fx_X7_81 : Cond.fieldLink RX7 81 (nmC 7) (TC 7 29).2.1 (TC 7 29).2.2.1 ∈ gwT := mem_gw (inT 802 (by decide +kernel)) rfl
theorem fx_X7_84 : Cond.fieldLink RX7 84 (nmC 7) (TC 7 30).2.1 (TC 7 30).2.2.1 ∈ gwT := mem_gw (inT 803 (by decide +kernel)) rfl
theorem fx_X7_87 : Cond.fieldLink RX7 87 (nmC 7) (TC 7 31).2.1 (TC 7 31).2.2.1 ∈ gwT := mem_gw (inT 804 (by decide +kernel)) rfl
theorem fx_X7_90 : Cond.fieldLink RX7 90 (nmC 7) (TC 7 32).2.1 (TC 7 32).2.2.1 ∈ gwT := mem_gw (inT 805 (by decide +kernel)) rfl
theorem fx_X7_93 : Cond.fieldLink RX7 93 (nmC 7) (TC 7 33).2.1 (TC 7 33).2.2.1 ∈ gwT := mem_gw (inT 806 (by decide +kernel)) rfl
theorem fx_X7_96 : Cond.fieldLink RX7 96 (nmC 7) (TC 7 34).2.1 (TC 7 34).2.2.1 ∈ gwT := mem_gw (inT 807 (by decide +kernel)) rfl
theorem fx_X7_99 : Cond.fieldLink RX7 99 (nmC 7) (TC 7 35).2.1 (TC 7 35).2.2.1 ∈ gwT := mem_gw (inT 808 (by decide +kernel)) rfl
theorem fx_X7_102 : Cond.fieldLink RX7 102 (nmC 7) (TC 7 36).2.1 (TC 7 36).2.2.1 ∈ gwT := mem_gw (inT 809 (by decide +kernel)) rfl
theorem fx_X7_105 : Cond.fieldLink RX7 105 (nmC 7) (TC 7 38).2.1 (TC 7 38).2.2.1 ∈ gwT := mem_gw (inT 811 (by decide +kernel)) rfl
def g_X2_init_1 (M : Mem) : Mem := mset (mrow (M) 2 (fun _ => 0)) 1 0 (nI 2)
set_option maxRecDepth 100000 in
theorem k_X2_init_1 (M : Mem) (Q : Int32 → Mem → Prop) (hQ : ∀ v M2, M2 = g_X2_init_1 M → Q v M2) : Ex false mX2_init 3 2 1 4000 0 [.ref 1] [] M Q := by
  refine ex_aload_n dX2_init_0 rfl ?_
  refine ex_obj dX2_init_1 lk_X2_3 (by decide) (Nat.le_of_ble_eq_true rfl) ?_
  refine ex_aload_n dX2_init_4 rfl ?_
  refine ex_sipush (v := 4000) dX2_init_5 (by decide) ?_
  refine ex_newI (kc := 0) (ks := 0) (len := 4000) dX2_init_8 rfl (by decide) (by decide) (by decide) aw_I (by decide) rfl ?_
  refine ex_putD (ci := 2) (j := 0) (v := 2) dX2_init_10 (by decide) rfl rfl lk_X2_9 (Or.inr ⟨rfl, rfl, fx_X2_9⟩) rfl (by decide) (by decide) (fun _ => ⟨rfl, rfl⟩) ?_
  refine ex_vret dX2_init_13 rfl rfl ?_
  exact hQ _ _ rfl
def g_X2_init_3 (M : Mem) : Mem := mset (mrow (M) 4 (fun _ => 0)) 3 0 (nI 4)
set_option maxRecDepth 100000 in
theorem k_X2_init_3 (M : Mem) (Q : Int32 → Mem → Prop) (hQ : ∀ v M2, M2 = g_X2_init_3 M → Q v M2) : Ex false mX2_init 5 4 1 4000 0 [.ref 3] [] M Q := by
  refine ex_aload_n dX2_init_0 rfl ?_
  refine ex_obj dX2_init_1 lk_X2_3 (by decide) (Nat.le_of_ble_eq_true rfl) ?_
  refine ex_aload_n dX2_init_4 rfl ?_
  refine ex_sipush (v := 4000) dX2_init_5 (by decide) ?_
  refine ex_newI (kc := 0) (ks := 0) (len := 4000) dX2_init_8 rfl (by decide) (by decide) (by decide) aw_I (by decide) rfl ?_
  refine ex_putD (ci := 2) (j := 0) (v := 4) dX2_init_10 (by decide) rfl rfl lk_X2_9 (Or.inr ⟨rfl, rfl, fx_X2_9⟩) rfl (by decide) (by decide) (fun _ => ⟨rfl, rfl⟩) ?_
  refine ex_vret dX2_init_13 rfl rfl ?_
  exact hQ _ _ rfl
def g_X0_init_5 (M : Mem) : Mem := mset (mrow (mset (mrow (mset (mrow (mset (mrow (mset (mrow (mset (mrow (mset (mrow (mset (mrow (mset (mrow (mset (mrow (mset (mrow (mset (mrow (mset (mrow (mset (mrow (mset (M) 5 0 512) 6 (fun _ => 0)) 5 4 (nI 6)) 7 (fun _ => 0)) 5 5 (nI 7)) 8 (fun _ => 0)) 5 6 (nI 8)) 9 (fun _ => 0)) 5 7 (nI 9)) 10 (fun _ => 0)) 5 8 (nI 10)) 11 (fun _ => 0)) 5 9 (nI 11)) 12 (fun _ => 0)) 5 10 (nI 12)) 13 (fun _ => 0)) 5 11 (nI 13)) 14 (fun _ => 0)) 5 12 (nI 14)) 15 (fun _ => 0)) 5 13 (nI 15)) 16 (fun _ => 0)) 5 14 (nI 16)) 17 (fun _ => 0)) 5 15 (nI 17)) 18 (fun _ => 0)) 5 16 (nI 18)) 19 (fun _ => 0)) 5 17 (nI 19)
set_option maxRecDepth 100000 in
theorem k_X0_init_5 (M : Mem) (Q : Int32 → Mem → Prop) (hQ : ∀ v M2, M2 = g_X0_init_5 M → Q v M2) : Ex false mX0_init 20 6 14 8820 0 [.ref 5] [] M Q := by
  refine ex_aload_n dX0_init_0 rfl ?_
  refine ex_obj dX0_init_1 lk_X0_3 (by decide) (Nat.le_of_ble_eq_true rfl) ?_
  refine ex_aload_n dX0_init_4 rfl ?_
  refine ex_sipush (v := 512) dX0_init_5 (by decide) ?_
  refine ex_putI (ci := 0) (j := 0) dX0_init_8 (by decide) rfl rfl lk_X0_9 ⟨rfl, rfl⟩ ?_
  refine ex_aload_n dX0_init_11 rfl ?_
  refine ex_bipush (v := 60) dX0_init_12 (by decide) ?_
  refine ex_newI (kc := 13) (ks := 8760) (len := 60) dX0_init_14 rfl (by decide) (by decide) (by decide) aw_I (by decide) rfl ?_
  refine ex_putD (ci := 0) (j := 4) (v := 6) dX0_init_16 (by decide) rfl rfl lk_X0_15 (Or.inr ⟨rfl, rfl, fx_X0_15⟩) rfl (by decide) (by decide) (fun _ => ⟨rfl, rfl⟩) ?_
  refine ex_aload_n dX0_init_19 rfl ?_
  refine ex_sipush (v := 180) dX0_init_20 (by decide) ?_
  refine ex_newI (kc := 12) (ks := 8580) (len := 180) dX0_init_23 rfl (by decide) (by decide) (by decide) aw_I (by decide) rfl ?_
  refine ex_putD (ci := 0) (j := 5) (v := 7) dX0_init_25 (by decide) rfl rfl lk_X0_19 (Or.inr ⟨rfl, rfl, fx_X0_19⟩) rfl (by decide) (by decide) (fun _ => ⟨rfl, rfl⟩) ?_
  refine ex_aload_n dX0_init_28 rfl ?_
  refine ex_sipush (v := 180) dX0_init_29 (by decide) ?_
  refine ex_newI (kc := 11) (ks := 8400) (len := 180) dX0_init_32 rfl (by decide) (by decide) (by decide) aw_I (by decide) rfl ?_
  refine ex_putD (ci := 0) (j := 6) (v := 8) dX0_init_34 (by decide) rfl rfl lk_X0_22 (Or.inr ⟨rfl, rfl, fx_X0_22⟩) rfl (by decide) (by decide) (fun _ => ⟨rfl, rfl⟩) ?_
  refine ex_aload_n dX0_init_37 rfl ?_
  refine ex_sipush (v := 600) dX0_init_38 (by decide) ?_
  refine ex_newI (kc := 10) (ks := 7800) (len := 600) dX0_init_41 rfl (by decide) (by decide) (by decide) aw_I (by decide) rfl ?_
  refine ex_putD (ci := 0) (j := 7) (v := 9) dX0_init_43 (by decide) rfl rfl lk_X0_25 (Or.inr ⟨rfl, rfl, fx_X0_25⟩) rfl (by decide) (by decide) (fun _ => ⟨rfl, rfl⟩) ?_
  refine ex_aload_n dX0_init_46 rfl ?_
  refine ex_sipush (v := 600) dX0_init_47 (by decide) ?_
  refine ex_newI (kc := 9) (ks := 7200) (len := 600) dX0_init_50 rfl (by decide) (by decide) (by decide) aw_I (by decide) rfl ?_
  refine ex_putD (ci := 0) (j := 8) (v := 10) dX0_init_52 (by decide) rfl rfl lk_X0_28 (Or.inr ⟨rfl, rfl, fx_X0_28⟩) rfl (by decide) (by decide) (fun _ => ⟨rfl, rfl⟩) ?_
  refine ex_aload_n dX0_init_55 rfl ?_
  refine ex_sipush (v := 600) dX0_init_56 (by decide) ?_
  refine ex_newI (kc := 8) (ks := 6600) (len := 600) dX0_init_59 rfl (by decide) (by decide) (by decide) aw_I (by decide) rfl ?_
  refine ex_putD (ci := 0) (j := 9) (v := 11) dX0_init_61 (by decide) rfl rfl lk_X0_31 (Or.inr ⟨rfl, rfl, fx_X0_31⟩) rfl (by decide) (by decide) (fun _ => ⟨rfl, rfl⟩) ?_
  refine ex_aload_n dX0_init_64 rfl ?_
  refine ex_sipush (v := 600) dX0_init_65 (by decide) ?_
  refine ex_newI (kc := 7) (ks := 6000) (len := 600) dX0_init_68 rfl (by decide) (by decide) (by decide) aw_I (by decide) rfl ?_
  refine ex_putD (ci := 0) (j := 10) (v := 12) dX0_init_70 (by decide) rfl rfl lk_X0_34 (Or.inr ⟨rfl, rfl, fx_X0_34⟩) rfl (by decide) (by decide) (fun _ => ⟨rfl, rfl⟩) ?_
  refine ex_aload_n dX0_init_73 rfl ?_
  refine ex_sipush (v := 600) dX0_init_74 (by decide) ?_
  refine ex_newI (kc := 6) (ks := 5400) (len := 600) dX0_init_77 rfl (by decide) (by decide) (by decide) aw_I (by decide) rfl ?_
  refine ex_putD (ci := 0) (j := 11) (v := 13) dX0_init_79 (by decide) rfl rfl lk_X0_37 (Or.inr ⟨rfl, rfl, fx_X0_37⟩) rfl (by decide) (by decide) (fun _ => ⟨rfl, rfl⟩) ?_
  refine ex_aload_n dX0_init_82 rfl ?_
  refine ex_sipush (v := 600) dX0_init_83 (by decide) ?_
  refine ex_newI (kc := 5) (ks := 4800) (len := 600) dX0_init_86 rfl (by decide) (by decide) (by decide) aw_I (by decide) rfl ?_
  refine ex_putD (ci := 0) (j := 12) (v := 14) dX0_init_88 (by decide) rfl rfl lk_X0_40 (Or.inr ⟨rfl, rfl, fx_X0_40⟩) rfl (by decide) (by decide) (fun _ => ⟨rfl, rfl⟩) ?_
  refine ex_aload_n dX0_init_91 rfl ?_
  refine ex_sipush (v := 600) dX0_init_92 (by decide) ?_
  refine ex_newI (kc := 4) (ks := 4200) (len := 600) dX0_init_95 rfl (by decide) (by decide) (by decide) aw_I (by decide) rfl ?_
  refine ex_putD (ci := 0) (j := 13) (v := 15) dX0_init_97 (by decide) rfl rfl lk_X0_43 (Or.inr ⟨rfl, rfl, fx_X0_43⟩) rfl (by decide) (by decide) (fun _ => ⟨rfl, rfl⟩) ?_
  refine ex_aload_n dX0_init_100 rfl ?_
  refine ex_sipush (v := 600) dX0_init_101 (by decide) ?_
  refine ex_newI (kc := 3) (ks := 3600) (len := 600) dX0_init_104 rfl (by decide) (by decide) (by decide) aw_I (by decide) rfl ?_
  refine ex_putD (ci := 0) (j := 14) (v := 16) dX0_init_106 (by decide) rfl rfl lk_X0_46 (Or.inr ⟨rfl, rfl, fx_X0_46⟩) rfl (by decide) (by decide) (fun _ => ⟨rfl, rfl⟩) ?_
  refine ex_aload_n dX0_init_109 rfl ?_
  refine ex_sipush (v := 600) dX0_init_110 (by decide) ?_
  refine ex_newI (kc := 2) (ks := 3000) (len := 600) dX0_init_113 rfl (by decide) (by decide) (by decide) aw_I (by decide) rfl ?_
  refine ex_putD (ci := 0) (j := 15) (v := 17) dX0_init_115 (by decide) rfl rfl lk_X0_49 (Or.inr ⟨rfl, rfl, fx_X0_49⟩) rfl (by decide) (by decide) (fun _ => ⟨rfl, rfl⟩) ?_
  refine ex_aload_n dX0_init_118 rfl ?_
  refine ex_sipush (v := 600) dX0_init_119 (by decide) ?_
  refine ex_newI (kc := 1) (ks := 2400) (len := 600) dX0_init_122 rfl (by decide) (by decide) (by decide) aw_I (by decide) rfl ?_
  refine ex_putD (ci := 0) (j := 16) (v := 18) dX0_init_124 (by decide) rfl rfl lk_X0_52 (Or.inr ⟨rfl, rfl, fx_X0_52⟩) rfl (by decide) (by decide) (fun _ => ⟨rfl, rfl⟩) ?_
  refine ex_aload_n dX0_init_127 rfl ?_
  refine ex_sipush (v := 2400) dX0_init_128 (by decide) ?_
  refine ex_newI (kc := 0) (ks := 0) (len := 2400) dX0_init_131 rfl (by decide) (by decide) (by decide) aw_I (by decide) rfl ?_
  refine ex_putD (ci := 0) (j := 17) (v := 19) dX0_init_133 (by decide) rfl rfl lk_X0_55 (Or.inr ⟨rfl, rfl, fx_X0_55⟩) rfl (by decide) (by decide) (fun _ => ⟨rfl, rfl⟩) ?_
  refine ex_vret dX0_init_136 rfl rfl ?_
  exact hQ _ _ rfl
def g_X0_init_20 (M : Mem) : Mem := mset (mrow (mset (mrow (mset (mrow (mset (mrow (mset (mrow (mset (mrow (mset (mrow (mset (mrow (mset (mrow (mset (mrow (mset (mrow (mset (mrow (mset (mrow (mset (mrow (mset (M) 20 0 512) 21 (fun _ => 0)) 20 4 (nI 21)) 22 (fun _ => 0)) 20 5 (nI 22)) 23 (fun _ => 0)) 20 6 (nI 23)) 24 (fun _ => 0)) 20 7 (nI 24)) 25 (fun _ => 0)) 20 8 (nI 25)) 26 (fun _ => 0)) 20 9 (nI 26)) 27 (fun _ => 0)) 20 10 (nI 27)) 28 (fun _ => 0)) 20 11 (nI 28)) 29 (fun _ => 0)) 20 12 (nI 29)) 30 (fun _ => 0)) 20 13 (nI 30)) 31 (fun _ => 0)) 20 14 (nI 31)) 32 (fun _ => 0)) 20 15 (nI 32)) 33 (fun _ => 0)) 20 16 (nI 33)) 34 (fun _ => 0)) 20 17 (nI 34)
set_option maxRecDepth 100000 in
theorem k_X0_init_20 (M : Mem) (Q : Int32 → Mem → Prop) (hQ : ∀ v M2, M2 = g_X0_init_20 M → Q v M2) : Ex false mX0_init 35 21 14 8820 0 [.ref 20] [] M Q := by
  refine ex_aload_n dX0_init_0 rfl ?_
  refine ex_obj dX0_init_1 lk_X0_3 (by decide) (Nat.le_of_ble_eq_true rfl) ?_
  refine ex_aload_n dX0_init_4 rfl ?_
  refine ex_sipush (v := 512) dX0_init_5 (by decide) ?_
  refine ex_putI (ci := 0) (j := 0) dX0_init_8 (by decide) rfl rfl lk_X0_9 ⟨rfl, rfl⟩ ?_
  refine ex_aload_n dX0_init_11 rfl ?_
  refine ex_bipush (v := 60) dX0_init_12 (by decide) ?_
  refine ex_newI (kc := 13) (ks := 8760) (len := 60) dX0_init_14 rfl (by decide) (by decide) (by decide) aw_I (by decide) rfl ?_
  refine ex_putD (ci := 0) (j := 4) (v := 21) dX0_init_16 (by decide) rfl rfl lk_X0_15 (Or.inr ⟨rfl, rfl, fx_X0_15⟩) rfl (by decide) (by decide) (fun _ => ⟨rfl, rfl⟩) ?_
  refine ex_aload_n dX0_init_19 rfl ?_
  refine ex_sipush (v := 180) dX0_init_20 (by decide) ?_
  refine ex_newI (kc := 12) (ks := 8580) (len := 180) dX0_init_23 rfl (by decide) (by decide) (by decide) aw_I (by decide) rfl ?_
  refine ex_putD (ci := 0) (j := 5) (v := 22) dX0_init_25 (by decide) rfl rfl lk_X0_19 (Or.inr ⟨rfl, rfl, fx_X0_19⟩) rfl (by decide) (by decide) (fun _ => ⟨rfl, rfl⟩) ?_
  refine ex_aload_n dX0_init_28 rfl ?_
  refine ex_sipush (v := 180) dX0_init_29 (by decide) ?_
  refine ex_newI (kc := 11) (ks := 8400) (len := 180) dX0_init_32 rfl (by decide) (by decide) (by decide) aw_I (by decide) rfl ?_
  refine ex_putD (ci := 0) (j := 6) (v := 23) dX0_init_34 (by decide) rfl rfl lk_X0_22 (Or.inr ⟨rfl, rfl, fx_X0_22⟩) rfl (by decide) (by decide) (fun _ => ⟨rfl, rfl⟩) ?_
  refine ex_aload_n dX0_init_37 rfl ?_
  refine ex_sipush (v := 600) dX0_init_38 (by decide) ?_
  refine ex_newI (kc := 10) (ks := 7800) (len := 600) dX0_init_41 rfl (by decide) (by decide) (by decide) aw_I (by decide) rfl ?_
  refine ex_putD (ci := 0) (j := 7) (v := 24) dX0_init_43 (by decide) rfl rfl lk_X0_25 (Or.inr ⟨rfl, rfl, fx_X0_25⟩) rfl (by decide) (by decide) (fun _ => ⟨rfl, rfl⟩) ?_
  refine ex_aload_n dX0_init_46 rfl ?_
  refine ex_sipush (v := 600) dX0_init_47 (by decide) ?_
  refine ex_newI (kc := 9) (ks := 7200) (len := 600) dX0_init_50 rfl (by decide) (by decide) (by decide) aw_I (by decide) rfl ?_
  refine ex_putD (ci := 0) (j := 8) (v := 25) dX0_init_52 (by decide) rfl rfl lk_X0_28 (Or.inr ⟨rfl, rfl, fx_X0_28⟩) rfl (by decide) (by decide) (fun _ => ⟨rfl, rfl⟩) ?_
  refine ex_aload_n dX0_init_55 rfl ?_
  refine ex_sipush (v := 600) dX0_init_56 (by decide) ?_
  refine ex_newI (kc := 8) (ks := 6600) (len := 600) dX0_init_59 rfl (by decide) (by decide) (by decide) aw_I (by decide) rfl ?_
  refine ex_putD (ci := 0) (j := 9) (v := 26) dX0_init_61 (by decide) rfl rfl lk_X0_31 (Or.inr ⟨rfl, rfl, fx_X0_31⟩) rfl (by decide) (by decide) (fun _ => ⟨rfl, rfl⟩) ?_
  refine ex_aload_n dX0_init_64 rfl ?_
  refine ex_sipush (v := 600) dX0_init_65 (by decide) ?_
  refine ex_newI (kc := 7) (ks := 6000) (len := 600) dX0_init_68 rfl (by decide) (by decide) (by decide) aw_I (by decide) rfl ?_
  refine ex_putD (ci := 0) (j := 10) (v := 27) dX0_init_70 (by decide) rfl rfl lk_X0_34 (Or.inr ⟨rfl, rfl, fx_X0_34⟩) rfl (by decide) (by decide) (fun _ => ⟨rfl, rfl⟩) ?_
  refine ex_aload_n dX0_init_73 rfl ?_
  refine ex_sipush (v := 600) dX0_init_74 (by decide) ?_
  refine ex_newI (kc := 6) (ks := 5400) (len := 600) dX0_init_77 rfl (by decide) (by decide) (by decide) aw_I (by decide) rfl ?_
  refine ex_putD (ci := 0) (j := 11) (v := 28) dX0_init_79 (by decide) rfl rfl lk_X0_37 (Or.inr ⟨rfl, rfl, fx_X0_37⟩) rfl (by decide) (by decide) (fun _ => ⟨rfl, rfl⟩) ?_
  refine ex_aload_n dX0_init_82 rfl ?_
  refine ex_sipush (v := 600) dX0_init_83 (by decide) ?_
  refine ex_newI (kc := 5) (ks := 4800) (len := 600) dX0_init_86 rfl (by decide) (by decide) (by decide) aw_I (by decide) rfl ?_
  refine ex_putD (ci := 0) (j := 12) (v := 29) dX0_init_88 (by decide) rfl rfl lk_X0_40 (Or.inr ⟨rfl, rfl, fx_X0_40⟩) rfl (by decide) (by decide) (fun _ => ⟨rfl, rfl⟩) ?_
  refine ex_aload_n dX0_init_91 rfl ?_
  refine ex_sipush (v := 600) dX0_init_92 (by decide) ?_
  refine ex_newI (kc := 4) (ks := 4200) (len := 600) dX0_init_95 rfl (by decide) (by decide) (by decide) aw_I (by decide) rfl ?_
  refine ex_putD (ci := 0) (j := 13) (v := 30) dX0_init_97 (by decide) rfl rfl lk_X0_43 (Or.inr ⟨rfl, rfl, fx_X0_43⟩) rfl (by decide) (by decide) (fun _ => ⟨rfl, rfl⟩) ?_
  refine ex_aload_n dX0_init_100 rfl ?_
  refine ex_sipush (v := 600) dX0_init_101 (by decide) ?_
  refine ex_newI (kc := 3) (ks := 3600) (len := 600) dX0_init_104 rfl (by decide) (by decide) (by decide) aw_I (by decide) rfl ?_
  refine ex_putD (ci := 0) (j := 14) (v := 31) dX0_init_106 (by decide) rfl rfl lk_X0_46 (Or.inr ⟨rfl, rfl, fx_X0_46⟩) rfl (by decide) (by decide) (fun _ => ⟨rfl, rfl⟩) ?_
  refine ex_aload_n dX0_init_109 rfl ?_
  refine ex_sipush (v := 600) dX0_init_110 (by decide) ?_
  refine ex_newI (kc := 2) (ks := 3000) (len := 600) dX0_init_113 rfl (by decide) (by decide) (by decide) aw_I (by decide) rfl ?_
  refine ex_putD (ci := 0) (j := 15) (v := 32) dX0_init_115 (by decide) rfl rfl lk_X0_49 (Or.inr ⟨rfl, rfl, fx_X0_49⟩) rfl (by decide) (by decide) (fun _ => ⟨rfl, rfl⟩) ?_
  refine ex_aload_n dX0_init_118 rfl ?_
  refine ex_sipush (v := 600) dX0_init_119 (by decide) ?_
  refine ex_newI (kc := 1) (ks := 2400) (len := 600) dX0_init_122 rfl (by decide) (by decide) (by decide) aw_I (by decide) rfl ?_
  refine ex_putD (ci := 0) (j := 16) (v := 33) dX0_init_124 (by decide) rfl rfl lk_X0_52 (Or.inr ⟨rfl, rfl, fx_X0_52⟩) rfl (by decide) (by decide) (fun _ => ⟨rfl, rfl⟩) ?_
  refine ex_aload_n dX0_init_127 rfl ?_
  refine ex_sipush (v := 2400) dX0_init_128 (by decide) ?_
  refine ex_newI (kc := 0) (ks := 0) (len := 2400) dX0_init_131 rfl (by decide) (by decide) (by decide) aw_I (by decide) rfl ?_
  refine ex_putD (ci := 0) (j := 17) (v := 34) dX0_init_133 (by decide) rfl rfl lk_X0_55 (Or.inr ⟨rfl, rfl, fx_X0_55⟩) rfl (by decide) (by decide) (fun _ => ⟨rfl, rfl⟩) ?_
  refine ex_vret dX0_init_136 rfl rfl ?_
  exact hQ _ _ rfl
def g_X5_init_35 (M : Mem) : Mem := mset (mrow (mset (mrow (mset (mrow (mset (mrow (M) 36 (fun _ => 0)) 35 0 (nI 36)) 37 (fun _ => 0)) 35 1 (nI 37)) 38 (fun _ => 0)) 35 3 (nI 38)) 39 (fun _ => 0)) 35 4 (nI 39)
set_option maxRecDepth 100000 in
theorem k_X5_init_35 (M : Mem) (Q : Int32 → Mem → Prop) (hQ : ∀ v M2, M2 = g_X5_init_35 M → Q v M2) : Ex false mX5_init 40 36 4 11451 0 [.ref 35] [] M Q := by
  refine ex_aload_n dX5_init_0 rfl ?_
  refine ex_obj dX5_init_1 lk_X5_5 (by decide) (Nat.le_of_ble_eq_true rfl) ?_
  refine ex_aload_n dX5_init_4 rfl ?_
  refine ex_bipush (v := 40) dX5_init_5 (by decide) ?_
  refine ex_newI (kc := 3) (ks := 11411) (len := 40) dX5_init_7 rfl (by decide) (by decide) (by decide) aw_I (by decide) rfl ?_
  refine ex_putD (ci := 5) (j := 0) (v := 36) dX5_init_9 (by decide) rfl rfl lk_X5_11 (Or.inr ⟨rfl, rfl, fx_X5_11⟩) rfl (by decide) (by decide) (fun _ => ⟨rfl, rfl⟩) ?_
  refine ex_aload_n dX5_init_12 rfl ?_
  refine ex_bipush (v := 40) dX5_init_13 (by decide) ?_
  refine ex_newI (kc := 2) (ks := 11371) (len := 40) dX5_init_15 rfl (by decide) (by decide) (by decide) aw_I (by decide) rfl ?_
  refine ex_putD (ci := 5) (j := 1) (v := 37) dX5_init_17 (by decide) rfl rfl lk_X5_15 (Or.inr ⟨rfl, rfl, fx_X5_15⟩) rfl (by decide) (by decide) (fun _ => ⟨rfl, rfl⟩) ?_
  refine ex_aload_n dX5_init_20 rfl ?_
  refine ex_sipush (v := 11234) dX5_init_21 (by decide) ?_
  refine ex_newI (kc := 1) (ks := 137) (len := 11234) dX5_init_24 rfl (by decide) (by decide) (by decide) aw_I (by decide) rfl ?_
  refine ex_putD (ci := 5) (j := 3) (v := 38) dX5_init_26 (by decide) rfl rfl lk_X5_18 (Or.inr ⟨rfl, rfl, fx_X5_18⟩) rfl (by decide) (by decide) (fun _ => ⟨rfl, rfl⟩) ?_
  refine ex_aload_n dX5_init_29 rfl ?_
  refine ex_sipush (v := 137) dX5_init_30 (by decide) ?_
  refine ex_newI (kc := 0) (ks := 0) (len := 137) dX5_init_33 rfl (by decide) (by decide) (by decide) aw_I (by decide) rfl ?_
  refine ex_putD (ci := 5) (j := 4) (v := 39) dX5_init_35 (by decide) rfl rfl lk_X5_21 (Or.inr ⟨rfl, rfl, fx_X5_21⟩) rfl (by decide) (by decide) (fun _ => ⟨rfl, rfl⟩) ?_
  refine ex_vret dX5_init_38 rfl rfl ?_
  exact hQ _ _ rfl
def g_X1_init_41 (M : Mem) : Mem := mset (mset (M) 41 0 7) 41 1 1
set_option maxRecDepth 100000 in
theorem k_X1_init_41 (M : Mem) (Q : Int32 → Mem → Prop) (hQ : ∀ v M2, M2 = g_X1_init_41 M → Q v M2) : Ex false mX1_init 42 42 0 0 0 [.ref 41] [] M Q := by
  refine ex_aload_n dX1_init_0 rfl ?_
  refine ex_obj dX1_init_1 lk_X1_3 (by decide) (Nat.le_of_ble_eq_true rfl) ?_
  refine ex_aload_n dX1_init_4 rfl ?_
  refine ex_bipush (v := 7) dX1_init_5 (by decide) ?_
  refine ex_putI (ci := 1) (j := 0) dX1_init_7 (by decide) rfl rfl lk_X1_9 ⟨rfl, rfl⟩ ?_
  refine ex_aload_n dX1_init_10 rfl ?_
  refine ex_iconst (v := 1) dX1_init_11 (by decide) ?_
  refine ex_putI (ci := 1) (j := 1) dX1_init_12 (by decide) rfl rfl lk_X1_15 ⟨rfl, rfl⟩ ?_
  refine ex_vret dX1_init_15 rfl rfl ?_
  exact hQ _ _ rfl
def g_X3_init_40 (M : Mem) : Mem := mset (mset (g_X1_init_41 (mrow (M) 41 (fun j => if rfq 1 j then -1 else 0))) 40 1 (nI 41)) 40 0 (nI 35)
set_option maxRecDepth 100000 in
theorem k_X3_init_40 (M : Mem) (Q : Int32 → Mem → Prop) (hQ : ∀ v M2, M2 = g_X3_init_40 M → Q v M2) : Ex false mX3_init 42 41 1 2 0 [.ref 40, .ref 35] [] M Q := by
  refine ex_aload_n dX3_init_0 rfl ?_
  refine ex_obj dX3_init_1 lk_X3_3 (by decide) (Nat.le_of_ble_eq_true rfl) ?_
  refine ex_aload_n dX3_init_4 rfl ?_
  refine ex_new (kc := 0) (ks := 0) (ci := 1) dX3_init_5 rfl (by decide) lk_X3_9 (by decide) rfl ?_
  refine ex_dup dX3_init_8 rfl ?_
  refine ex_invI (kc := 0) (ks := 0) (k := 41) (as := []) (L2 := [.ref 41]) (st := [.ref 41, .ref 40]) (nR2 := 42) 0 0 dX3_init_9 lk_X3_11 sl_X1_init rfl rfl (rmK_of rfl) rfl (Nat.le_of_ble_eq_true rfl) (Nat.le_of_ble_eq_true rfl) rfl (by decide) (k_X1_init_41 _ _ (fun _ _ e => e)) (fun _ M1 e => ?_)
  obtain rfl : M1 = _ := e
  refine ex_putD (ci := 3) (j := 1) (v := 41) dX3_init_12 (by decide) rfl rfl lk_X3_12 (Or.inr ⟨rfl, rfl, fx_X3_12⟩) rfl (by decide) (by decide) (fun _ => ⟨rfl, rfl⟩) ?_
  refine ex_aload_n dX3_init_15 rfl ?_
  refine ex_aload_n dX3_init_16 rfl ?_
  refine ex_putD (ci := 3) (j := 0) (v := 35) dX3_init_17 (by decide) rfl rfl lk_X3_18 (Or.inr ⟨rfl, rfl, fx_X3_18⟩) rfl (by decide) (by decide) (fun _ => ⟨rfl, rfl⟩) ?_
  refine ex_vret dX3_init_20 rfl rfl ?_
  exact hQ _ _ rfl
def g_X1_init_43 (M : Mem) : Mem := mset (mset (M) 43 0 7) 43 1 1
set_option maxRecDepth 100000 in
theorem k_X1_init_43 (M : Mem) (Q : Int32 → Mem → Prop) (hQ : ∀ v M2, M2 = g_X1_init_43 M → Q v M2) : Ex false mX1_init 44 44 0 0 0 [.ref 43] [] M Q := by
  refine ex_aload_n dX1_init_0 rfl ?_
  refine ex_obj dX1_init_1 lk_X1_3 (by decide) (Nat.le_of_ble_eq_true rfl) ?_
  refine ex_aload_n dX1_init_4 rfl ?_
  refine ex_bipush (v := 7) dX1_init_5 (by decide) ?_
  refine ex_putI (ci := 1) (j := 0) dX1_init_7 (by decide) rfl rfl lk_X1_9 ⟨rfl, rfl⟩ ?_
  refine ex_aload_n dX1_init_10 rfl ?_
  refine ex_iconst (v := 1) dX1_init_11 (by decide) ?_
  refine ex_putI (ci := 1) (j := 1) dX1_init_12 (by decide) rfl rfl lk_X1_15 ⟨rfl, rfl⟩ ?_
  refine ex_vret dX1_init_15 rfl rfl ?_
  exact hQ _ _ rfl
def g_X4_init_42 (M : Mem) : Mem := mset (mset (mrow (mset (mrow (mset (g_X1_init_43 (mrow (M) 43 (fun j => if rfq 1 j then -1 else 0))) 42 1 (nI 43)) 44 (fun _ => 0)) 42 2 (nI 44)) 45 (fun _ => 0)) 42 3 (nI 45)) 42 0 (nI 35)
set_option maxRecDepth 100000 in
theorem k_X4_init_42 (M : Mem) (Q : Int32 → Mem → Prop) (hQ : ∀ v M2, M2 = g_X4_init_42 M → Q v M2) : Ex false mX4_init 46 43 3 782 0 [.ref 42, .ref 35] [] M Q := by
  refine ex_aload_n dX4_init_0 rfl ?_
  refine ex_obj dX4_init_1 lk_X4_3 (by decide) (Nat.le_of_ble_eq_true rfl) ?_
  refine ex_aload_n dX4_init_4 rfl ?_
  refine ex_new (kc := 2) (ks := 780) (ci := 1) dX4_init_5 rfl (by decide) lk_X4_9 (by decide) rfl ?_
  refine ex_dup dX4_init_8 rfl ?_
  refine ex_invI (kc := 2) (ks := 780) (k := 43) (as := []) (L2 := [.ref 43]) (st := [.ref 43, .ref 42]) (nR2 := 44) 0 0 dX4_init_9 lk_X4_11 sl_X1_init rfl rfl (rmK_of rfl) rfl (Nat.le_of_ble_eq_true rfl) (Nat.le_of_ble_eq_true rfl) rfl (by decide) (k_X1_init_43 _ _ (fun _ _ e => e)) (fun _ M1 e => ?_)
  obtain rfl : M1 = _ := e
  refine ex_putD (ci := 4) (j := 1) (v := 43) dX4_init_12 (by decide) rfl rfl lk_X4_12 (Or.inr ⟨rfl, rfl, fx_X4_12⟩) rfl (by decide) (by decide) (fun _ => ⟨rfl, rfl⟩) ?_
  refine ex_aload_n dX4_init_15 rfl ?_
  refine ex_sipush (v := 600) dX4_init_16 (by decide) ?_
  refine ex_newI (kc := 1) (ks := 180) (len := 600) dX4_init_19 rfl (by decide) (by decide) (by decide) aw_I (by decide) rfl ?_
  refine ex_putD (ci := 4) (j := 2) (v := 44) dX4_init_21 (by decide) rfl rfl lk_X4_18 (Or.inr ⟨rfl, rfl, fx_X4_18⟩) rfl (by decide) (by decide) (fun _ => ⟨rfl, rfl⟩) ?_
  refine ex_aload_n dX4_init_24 rfl ?_
  refine ex_sipush (v := 180) dX4_init_25 (by decide) ?_
  refine ex_newZ (kc := 0) (ks := 0) (len := 180) dX4_init_28 rfl (by decide) (by decide) (by decide) aw_Z (by decide) rfl ?_
  refine ex_putD (ci := 4) (j := 3) (v := 45) dX4_init_30 (by decide) rfl rfl lk_X4_22 (Or.inr ⟨rfl, rfl, fx_X4_22⟩) rfl (by decide) (by decide) (fun _ => ⟨rfl, rfl⟩) ?_
  refine ex_aload_n dX4_init_33 rfl ?_
  refine ex_aload_n dX4_init_34 rfl ?_
  refine ex_putD (ci := 4) (j := 0) (v := 35) dX4_init_35 (by decide) rfl rfl lk_X4_26 (Or.inr ⟨rfl, rfl, fx_X4_26⟩) rfl (by decide) (by decide) (fun _ => ⟨rfl, rfl⟩) ?_
  refine ex_vret dX4_init_38 rfl rfl ?_
  exact hQ _ _ rfl
def g_X6_init_0 (M : Mem) : Mem := mset (g_X4_init_42 (mrow (mset (g_X3_init_40 (mrow (mset (g_X5_init_35 (mrow (mset (g_X0_init_20 (mrow (mset (g_X0_init_5 (mrow (mset (g_X2_init_3 (mrow (mset (g_X2_init_1 (mrow (M) 1 (fun j => if rfq 2 j then -1 else 0))) 0 0 (nI 1)) 3 (fun j => if rfq 2 j then -1 else 0))) 0 1 (nI 3)) 5 (fun j => if rfq 0 j then -1 else 0))) 0 2 (nI 5)) 20 (fun j => if rfq 0 j then -1 else 0))) 0 3 (nI 20)) 35 (fun j => if rfq 5 j then -1 else 0))) 0 4 (nI 35)) 40 (fun j => if rfq 3 j then -1 else 0))) 0 5 (nI 40)) 42 (fun j => if rfq 4 j then -1 else 0))) 0 6 (nI 42)
set_option maxRecDepth 100000 in
theorem k_X6_init_0 (M : Mem) (Q : Int32 → Mem → Prop) (hQ : ∀ v M2, M2 = g_X6_init_0 M → Q v M2) : Ex false mX6_init 46 1 45 37933 0 [.ref 0] [] M Q := by
  refine ex_aload_n dX6_init_0 rfl ?_
  refine ex_obj dX6_init_1 lk_X6_1 (by decide) (Nat.le_of_ble_eq_true rfl) ?_
  refine ex_aload_n dX6_init_4 rfl ?_
  refine ex_new (kc := 44) (ks := 37931) (ci := 2) dX6_init_5 rfl (by decide) lk_X6_7 (by decide) rfl ?_
  refine ex_dup dX6_init_8 rfl ?_
  refine ex_invI (kc := 43) (ks := 33931) (k := 1) (as := []) (L2 := [.ref 1]) (st := [.ref 1, .ref 0]) (nR2 := 3) 1 4000 dX6_init_9 lk_X6_9 sl_X2_init rfl rfl (rmK_of rfl) rfl (Nat.le_of_ble_eq_true rfl) (Nat.le_of_ble_eq_true rfl) rfl (by decide) (k_X2_init_1 _ _ (fun _ _ e => e)) (fun _ M1 e => ?_)
  obtain rfl : M1 = _ := e
  refine ex_putD (ci := 6) (j := 0) (v := 1) dX6_init_12 (by decide) rfl rfl lk_X6_10 (Or.inl rfl) rfl (by decide) (by decide) (fun _ => ⟨rfl, rfl⟩) ?_
  refine ex_aload_n dX6_init_15 rfl ?_
  refine ex_new (kc := 42) (ks := 33929) (ci := 2) dX6_init_16 rfl (by decide) lk_X6_7 (by decide) rfl ?_
  refine ex_dup dX6_init_19 rfl ?_
  refine ex_invI (kc := 41) (ks := 29929) (k := 3) (as := []) (L2 := [.ref 3]) (st := [.ref 3, .ref 0]) (nR2 := 5) 1 4000 dX6_init_20 lk_X6_9 sl_X2_init rfl rfl (rmK_of rfl) rfl (Nat.le_of_ble_eq_true rfl) (Nat.le_of_ble_eq_true rfl) rfl (by decide) (k_X2_init_3 _ _ (fun _ _ e => e)) (fun _ M1 e => ?_)
  obtain rfl : M1 = _ := e
  refine ex_putD (ci := 6) (j := 1) (v := 3) dX6_init_23 (by decide) rfl rfl lk_X6_16 (Or.inl rfl) rfl (by decide) (by decide) (fun _ => ⟨rfl, rfl⟩) ?_
  refine ex_aload_n dX6_init_26 rfl ?_
  refine ex_new (kc := 40) (ks := 29911) (ci := 0) dX6_init_27 rfl (by decide) lk_X6_19 (by decide) rfl ?_
  refine ex_dup dX6_init_30 rfl ?_
  refine ex_invI (kc := 26) (ks := 21091) (k := 5) (as := []) (L2 := [.ref 5]) (st := [.ref 5, .ref 0]) (nR2 := 20) 14 8820 dX6_init_31 lk_X6_21 sl_X0_init rfl rfl (rmK_of rfl) rfl (Nat.le_of_ble_eq_true rfl) (Nat.le_of_ble_eq_true rfl) rfl (by decide) (k_X0_init_5 _ _ (fun _ _ e => e)) (fun _ M1 e => ?_)
  obtain rfl : M1 = _ := e
  refine ex_putD (ci := 6) (j := 2) (v := 5) dX6_init_34 (by decide) rfl rfl lk_X6_22 (Or.inl rfl) rfl (by decide) (by decide) (fun _ => ⟨rfl, rfl⟩) ?_
  refine ex_aload_n dX6_init_37 rfl ?_
  refine ex_new (kc := 25) (ks := 21073) (ci := 0) dX6_init_38 rfl (by decide) lk_X6_19 (by decide) rfl ?_
  refine ex_dup dX6_init_41 rfl ?_
  refine ex_invI (kc := 11) (ks := 12253) (k := 20) (as := []) (L2 := [.ref 20]) (st := [.ref 20, .ref 0]) (nR2 := 35) 14 8820 dX6_init_42 lk_X6_21 sl_X0_init rfl rfl (rmK_of rfl) rfl (Nat.le_of_ble_eq_true rfl) (Nat.le_of_ble_eq_true rfl) rfl (by decide) (k_X0_init_20 _ _ (fun _ _ e => e)) (fun _ M1 e => ?_)
  obtain rfl : M1 = _ := e
  refine ex_putD (ci := 6) (j := 3) (v := 20) dX6_init_45 (by decide) rfl rfl lk_X6_26 (Or.inl rfl) rfl (by decide) (by decide) (fun _ => ⟨rfl, rfl⟩) ?_
  refine ex_aload_n dX6_init_48 rfl ?_
  refine ex_new (kc := 10) (ks := 12248) (ci := 5) dX6_init_49 rfl (by decide) lk_X6_29 (by decide) rfl ?_
  refine ex_dup dX6_init_52 rfl ?_
  refine ex_invI (kc := 6) (ks := 797) (k := 35) (as := []) (L2 := [.ref 35]) (st := [.ref 35, .ref 0]) (nR2 := 40) 4 11451 dX6_init_53 lk_X6_31 sl_X5_init rfl rfl (rmK_of rfl) rfl (Nat.le_of_ble_eq_true rfl) (Nat.le_of_ble_eq_true rfl) rfl (by decide) (k_X5_init_35 _ _ (fun _ _ e => e)) (fun _ M1 e => ?_)
  obtain rfl : M1 = _ := e
  refine ex_putD (ci := 6) (j := 4) (v := 35) dX6_init_56 (by decide) rfl rfl lk_X6_32 (Or.inr ⟨rfl, rfl, fx_X6_32⟩) rfl (by decide) (by decide) (fun _ => ⟨rfl, rfl⟩) ?_
  refine ex_aload_n dX6_init_59 rfl ?_
  refine ex_new (kc := 5) (ks := 790) (ci := 3) dX6_init_60 rfl (by decide) lk_X6_36 (by decide) rfl ?_
  refine ex_dup dX6_init_63 rfl ?_
  refine ex_aload_n dX6_init_64 rfl ?_
  refine ex_getD (ci := 6) (j := 4) (v := 35) dX6_init_65 (by decide) rfl rfl lk_X6_32 rfl rfl (by decide) ?_
  refine ex_invI (kc := 4) (ks := 788) (k := 40) (as := [.ref 35]) (L2 := [.ref 40, .ref 35]) (st := [.ref 40, .ref 0]) (nR2 := 42) 1 2 dX6_init_68 lk_X6_38 sl_X3_init rfl rfl (rmK_of rfl) rfl (Nat.le_of_ble_eq_true rfl) (Nat.le_of_ble_eq_true rfl) rfl (by decide) (k_X3_init_40 _ _ (fun _ _ e => e)) (fun _ M1 e => ?_)
  obtain rfl : M1 = _ := e
  refine ex_putD (ci := 6) (j := 5) (v := 40) dX6_init_71 (by decide) rfl rfl lk_X6_41 (Or.inr ⟨rfl, rfl, fx_X6_41⟩) rfl (by decide) (by decide) (fun _ => ⟨rfl, rfl⟩) ?_
  refine ex_aload_n dX6_init_74 rfl ?_
  refine ex_new (kc := 3) (ks := 782) (ci := 4) dX6_init_75 rfl (by decide) lk_X6_45 (by decide) rfl ?_
  refine ex_dup dX6_init_78 rfl ?_
  refine ex_aload_n dX6_init_79 rfl ?_
  refine ex_getD (ci := 6) (j := 4) (v := 35) dX6_init_80 (by decide) rfl rfl lk_X6_32 rfl rfl (by decide) ?_
  refine ex_invI (kc := 0) (ks := 0) (k := 42) (as := [.ref 35]) (L2 := [.ref 42, .ref 35]) (st := [.ref 42, .ref 0]) (nR2 := 46) 3 782 dX6_init_83 lk_X6_47 sl_X4_init rfl rfl (rmK_of rfl) rfl (Nat.le_of_ble_eq_true rfl) (Nat.le_of_ble_eq_true rfl) rfl (by decide) (k_X4_init_42 _ _ (fun _ _ e => e)) (fun _ M1 e => ?_)
  obtain rfl : M1 = _ := e
  refine ex_putD (ci := 6) (j := 6) (v := 42) dX6_init_86 (by decide) rfl rfl lk_X6_48 (Or.inr ⟨rfl, rfl, fx_X6_48⟩) rfl (by decide) (by decide) (fun _ => ⟨rfl, rfl⟩) ?_
  refine ex_vret dX6_init_89 rfl rfl ?_
  exact hQ _ _ rfl
def g_X7_init_46 (M : Mem) : Mem := mset (mrow (mset (mrow (mset (mrow (mset (mrow (mset (mrow (mset (mrow (mset (mrow (mset (mrow (mset (mrow (mset (mrow (mset (mrow (mset (mrow (mset (mrow (mset (mrow (mset (mrow (mset (mrow (mset (mrow (mset (mrow (mset (mrow (mset (mrow (mset (mrow (mset (mrow (mset (mrow (mset (mrow (mset (mrow (mset (mset (mrow (mset (mset (mset (mset (mset (mset (mset (mset (mrow (mset (mset (mset (mset (mset (mset (mset (mset (mrow (mset (mset (mset (mset (mset (mrow (mset (mset (mset (mset (mset (mrow (mset (mset (mset (mset (mset (mset (mset (mset (mrow (M) 47 (fun _ => 0)) 47 (Int32.toNatClampNeg 0) 25) 47 (Int32.toNatClampNeg 1) 17) 47 (Int32.toNatClampNeg 2) 11) 47 (Int32.toNatClampNeg 3) 27) 47 (Int32.toNatClampNeg 4) 19) 47 (Int32.toNatClampNeg 5) 10) 47 (Int32.toNatClampNeg 6) 26) 46 0 (nI 47)) 48 (fun _ => 0)) 48 (Int32.toNatClampNeg 0) 36) 48 (Int32.toNatClampNeg 1) 4) 48 (Int32.toNatClampNeg 2) 32) 48 (Int32.toNatClampNeg 3) 0) 46 1 (nI 48)) 49 (fun _ => 0)) 49 (Int32.toNatClampNeg 0) 13) 49 (Int32.toNatClampNeg 1) 37) 49 (Int32.toNatClampNeg 2) 39) 49 (Int32.toNatClampNeg 3) 45) 46 2 (nI 49)) 50 (fun _ => 0)) 50 (Int32.toNatClampNeg 0) 8) 50 (Int32.toNatClampNeg 1) 24) 50 (Int32.toNatClampNeg 2) 56) 50 (Int32.toNatClampNeg 3) 16) 50 (Int32.toNatClampNeg 4) 40) 50 (Int32.toNatClampNeg 5) 48) 50 (Int32.toNatClampNeg 6) 32) 46 3 (nI 50)) 51 (fun _ => 0)) 51 (Int32.toNatClampNeg 0) 12) 51 (Int32.toNatClampNeg 1) 44) 51 (Int32.toNatClampNeg 2) 60) 51 (Int32.toNatClampNeg 3) 20) 51 (Int32.toNatClampNeg 4) 52) 51 (Int32.toNatClampNeg 5) 18) 51 (Int32.toNatClampNeg 6) 36) 46 4 (nI 51)) 52 (fun _ => 0)) 46 5 (nI 52)) 46 7 512) 53 (fun _ => 0)) 46 8 (nI 53)) 54 (fun _ => 0)) 46 9 (nI 54)) 55 (fun _ => 0)) 46 10 (nI 55)) 56 (fun _ => 0)) 46 11 (nI 56)) 57 (fun _ => 0)) 46 12 (nI 57)) 58 (fun _ => 0)) 46 13 (nI 58)) 59 (fun _ => 0)) 46 14 (nI 59)) 60 (fun _ => 0)) 46 15 (nI 60)) 61 (fun _ => 0)) 46 16 (nI 61)) 62 (fun _ => 0)) 46 17 (nI 62)) 63 (fun _ => 0)) 46 18 (nI 63)) 64 (fun _ => 0)) 46 19 (nI 64)) 65 (fun _ => 0)) 46 20 (nI 65)) 66 (fun _ => 0)) 46 21 (nI 66)) 67 (fun _ => 0)) 46 22 (nI 67)) 68 (fun _ => 0)) 46 23 (nI 68)) 69 (fun _ => 0)) 46 29 (nI 69)) 70 (fun _ => 0)) 46 30 (nI 70)) 71 (fun _ => 0)) 46 31 (nI 71)) 72 (fun _ => 0)) 46 32 (nI 72)) 73 (fun _ => 0)) 46 33 (nI 73)) 74 (fun _ => 0)) 46 34 (nI 74)) 75 (fun _ => 0)) 46 35 (nI 75)) 76 (fun _ => 0)) 46 36 (nI 76)) 77 (fun _ => 0)) 46 38 (nI 77)
set_option maxRecDepth 100000 in
theorem k_X7_init_46 (M : Mem) (Q : Int32 → Mem → Prop) (hQ : ∀ v M2, M2 = g_X7_init_46 M → Q v M2) : Ex false mX7_init 78 47 31 195055 0 [.ref 46] [] M Q := by
  refine ex_aload_n dX7_init_0 rfl ?_
  refine ex_obj dX7_init_1 lk_X7_1 (by decide) (Nat.le_of_ble_eq_true rfl) ?_
  refine ex_aload_n dX7_init_4 rfl ?_
  refine ex_bipush (v := 7) dX7_init_5 (by decide) ?_
  refine ex_newI (kc := 30) (ks := 195048) (len := 7) dX7_init_7 rfl (by decide) (by decide) (by decide) aw_I (by decide) rfl ?_
  refine ex_dup dX7_init_9 rfl ?_
  refine ex_iconst (v := 0) dX7_init_10 (by decide) ?_
  refine ex_bipush (v := 25) dX7_init_11 (by decide) ?_
  refine ex_iast dX7_init_13 (by decide) rfl (vin rfl) ?_
  refine ex_dup dX7_init_14 rfl ?_
  refine ex_iconst (v := 1) dX7_init_15 (by decide) ?_
  refine ex_bipush (v := 17) dX7_init_16 (by decide) ?_
  refine ex_iast dX7_init_18 (by decide) rfl (vin rfl) ?_
  refine ex_dup dX7_init_19 rfl ?_
  refine ex_iconst (v := 2) dX7_init_20 (by decide) ?_
  refine ex_bipush (v := 11) dX7_init_21 (by decide) ?_
  refine ex_iast dX7_init_23 (by decide) rfl (vin rfl) ?_
  refine ex_dup dX7_init_24 rfl ?_
  refine ex_iconst (v := 3) dX7_init_25 (by decide) ?_
  refine ex_bipush (v := 27) dX7_init_26 (by decide) ?_
  refine ex_iast dX7_init_28 (by decide) rfl (vin rfl) ?_
  refine ex_dup dX7_init_29 rfl ?_
  refine ex_iconst (v := 4) dX7_init_30 (by decide) ?_
  refine ex_bipush (v := 19) dX7_init_31 (by decide) ?_
  refine ex_iast dX7_init_33 (by decide) rfl (vin rfl) ?_
  refine ex_dup dX7_init_34 rfl ?_
  refine ex_iconst (v := 5) dX7_init_35 (by decide) ?_
  refine ex_bipush (v := 10) dX7_init_36 (by decide) ?_
  refine ex_iast dX7_init_38 (by decide) rfl (vin rfl) ?_
  refine ex_dup dX7_init_39 rfl ?_
  refine ex_bipush (v := 6) dX7_init_40 (by decide) ?_
  refine ex_bipush (v := 26) dX7_init_42 (by decide) ?_
  refine ex_iast dX7_init_44 (by decide) rfl (vin rfl) ?_
  refine ex_putD (ci := 7) (j := 0) (v := 47) dX7_init_45 (by decide) rfl rfl lk_X7_7 (Or.inr ⟨rfl, rfl, fx_X7_7⟩) rfl (by decide) (by decide) (fun _ => ⟨rfl, rfl⟩) ?_
  refine ex_aload_n dX7_init_48 rfl ?_
  refine ex_iconst (v := 4) dX7_init_49 (by decide) ?_
  refine ex_newI (kc := 29) (ks := 195044) (len := 4) dX7_init_50 rfl (by decide) (by decide) (by decide) aw_I (by decide) rfl ?_
  refine ex_dup dX7_init_52 rfl ?_
  refine ex_iconst (v := 0) dX7_init_53 (by decide) ?_
  refine ex_bipush (v := 36) dX7_init_54 (by decide) ?_
  refine ex_iast dX7_init_56 (by decide) rfl (vin rfl) ?_
  refine ex_dup dX7_init_57 rfl ?_
  refine ex_iconst (v := 1) dX7_init_58 (by decide) ?_
  refine ex_iconst (v := 4) dX7_init_59 (by decide) ?_
  refine ex_iast dX7_init_60 (by decide) rfl (vin rfl) ?_
  refine ex_dup dX7_init_61 rfl ?_
  refine ex_iconst (v := 2) dX7_init_62 (by decide) ?_
  refine ex_bipush (v := 32) dX7_init_63 (by decide) ?_
  refine ex_iast dX7_init_65 (by decide) rfl (vin rfl) ?_
  refine ex_dup dX7_init_66 rfl ?_
  refine ex_iconst (v := 3) dX7_init_67 (by decide) ?_
  refine ex_iconst (v := 0) dX7_init_68 (by decide) ?_
  refine ex_iast dX7_init_69 (by decide) rfl (vin rfl) ?_
  refine ex_putD (ci := 7) (j := 1) (v := 48) dX7_init_70 (by decide) rfl rfl lk_X7_13 (Or.inr ⟨rfl, rfl, fx_X7_13⟩) rfl (by decide) (by decide) (fun _ => ⟨rfl, rfl⟩) ?_
  refine ex_aload_n dX7_init_73 rfl ?_
  refine ex_iconst (v := 4) dX7_init_74 (by decide) ?_
  refine ex_newI (kc := 28) (ks := 195040) (len := 4) dX7_init_75 rfl (by decide) (by decide) (by decide) aw_I (by decide) rfl ?_
  refine ex_dup dX7_init_77 rfl ?_
  refine ex_iconst (v := 0) dX7_init_78 (by decide) ?_
  refine ex_bipush (v := 13) dX7_init_79 (by decide) ?_
  refine ex_iast dX7_init_81 (by decide) rfl (vin rfl) ?_
  refine ex_dup dX7_init_82 rfl ?_
  refine ex_iconst (v := 1) dX7_init_83 (by decide) ?_
  refine ex_bipush (v := 37) dX7_init_84 (by decide) ?_
  refine ex_iast dX7_init_86 (by decide) rfl (vin rfl) ?_
  refine ex_dup dX7_init_87 rfl ?_
  refine ex_iconst (v := 2) dX7_init_88 (by decide) ?_
  refine ex_bipush (v := 39) dX7_init_89 (by decide) ?_
  refine ex_iast dX7_init_91 (by decide) rfl (vin rfl) ?_
  refine ex_dup dX7_init_92 rfl ?_
  refine ex_iconst (v := 3) dX7_init_93 (by decide) ?_
  refine ex_bipush (v := 45) dX7_init_94 (by decide) ?_
  refine ex_iast dX7_init_96 (by decide) rfl (vin rfl) ?_
  refine ex_putD (ci := 7) (j := 2) (v := 49) dX7_init_97 (by decide) rfl rfl lk_X7_16 (Or.inr ⟨rfl, rfl, fx_X7_16⟩) rfl (by decide) (by decide) (fun _ => ⟨rfl, rfl⟩) ?_
  refine ex_aload_n dX7_init_100 rfl ?_
  refine ex_bipush (v := 7) dX7_init_101 (by decide) ?_
  refine ex_newI (kc := 27) (ks := 195033) (len := 7) dX7_init_103 rfl (by decide) (by decide) (by decide) aw_I (by decide) rfl ?_
  refine ex_dup dX7_init_105 rfl ?_
  refine ex_iconst (v := 0) dX7_init_106 (by decide) ?_
  refine ex_bipush (v := 8) dX7_init_107 (by decide) ?_
  refine ex_iast dX7_init_109 (by decide) rfl (vin rfl) ?_
  refine ex_dup dX7_init_110 rfl ?_
  refine ex_iconst (v := 1) dX7_init_111 (by decide) ?_
  refine ex_bipush (v := 24) dX7_init_112 (by decide) ?_
  refine ex_iast dX7_init_114 (by decide) rfl (vin rfl) ?_
  refine ex_dup dX7_init_115 rfl ?_
  refine ex_iconst (v := 2) dX7_init_116 (by decide) ?_
  refine ex_bipush (v := 56) dX7_init_117 (by decide) ?_
  refine ex_iast dX7_init_119 (by decide) rfl (vin rfl) ?_
  refine ex_dup dX7_init_120 rfl ?_
  refine ex_iconst (v := 3) dX7_init_121 (by decide) ?_
  refine ex_bipush (v := 16) dX7_init_122 (by decide) ?_
  refine ex_iast dX7_init_124 (by decide) rfl (vin rfl) ?_
  refine ex_dup dX7_init_125 rfl ?_
  refine ex_iconst (v := 4) dX7_init_126 (by decide) ?_
  refine ex_bipush (v := 40) dX7_init_127 (by decide) ?_
  refine ex_iast dX7_init_129 (by decide) rfl (vin rfl) ?_
  refine ex_dup dX7_init_130 rfl ?_
  refine ex_iconst (v := 5) dX7_init_131 (by decide) ?_
  refine ex_bipush (v := 48) dX7_init_132 (by decide) ?_
  refine ex_iast dX7_init_134 (by decide) rfl (vin rfl) ?_
  refine ex_dup dX7_init_135 rfl ?_
  refine ex_bipush (v := 6) dX7_init_136 (by decide) ?_
  refine ex_bipush (v := 32) dX7_init_138 (by decide) ?_
  refine ex_iast dX7_init_140 (by decide) rfl (vin rfl) ?_
  refine ex_putD (ci := 7) (j := 3) (v := 50) dX7_init_141 (by decide) rfl rfl lk_X7_19 (Or.inr ⟨rfl, rfl, fx_X7_19⟩) rfl (by decide) (by decide) (fun _ => ⟨rfl, rfl⟩) ?_
  refine ex_aload_n dX7_init_144 rfl ?_
  refine ex_bipush (v := 7) dX7_init_145 (by decide) ?_
  refine ex_newI (kc := 26) (ks := 195026) (len := 7) dX7_init_147 rfl (by decide) (by decide) (by decide) aw_I (by decide) rfl ?_
  refine ex_dup dX7_init_149 rfl ?_
  refine ex_iconst (v := 0) dX7_init_150 (by decide) ?_
  refine ex_bipush (v := 12) dX7_init_151 (by decide) ?_
  refine ex_iast dX7_init_153 (by decide) rfl (vin rfl) ?_
  refine ex_dup dX7_init_154 rfl ?_
  refine ex_iconst (v := 1) dX7_init_155 (by decide) ?_
  refine ex_bipush (v := 44) dX7_init_156 (by decide) ?_
  refine ex_iast dX7_init_158 (by decide) rfl (vin rfl) ?_
  refine ex_dup dX7_init_159 rfl ?_
  refine ex_iconst (v := 2) dX7_init_160 (by decide) ?_
  refine ex_bipush (v := 60) dX7_init_161 (by decide) ?_
  refine ex_iast dX7_init_163 (by decide) rfl (vin rfl) ?_
  refine ex_dup dX7_init_164 rfl ?_
  refine ex_iconst (v := 3) dX7_init_165 (by decide) ?_
  refine ex_bipush (v := 20) dX7_init_166 (by decide) ?_
  refine ex_iast dX7_init_168 (by decide) rfl (vin rfl) ?_
  refine ex_dup dX7_init_169 rfl ?_
  refine ex_iconst (v := 4) dX7_init_170 (by decide) ?_
  refine ex_bipush (v := 52) dX7_init_171 (by decide) ?_
  refine ex_iast dX7_init_173 (by decide) rfl (vin rfl) ?_
  refine ex_dup dX7_init_174 rfl ?_
  refine ex_iconst (v := 5) dX7_init_175 (by decide) ?_
  refine ex_bipush (v := 18) dX7_init_176 (by decide) ?_
  refine ex_iast dX7_init_178 (by decide) rfl (vin rfl) ?_
  refine ex_dup dX7_init_179 rfl ?_
  refine ex_bipush (v := 6) dX7_init_180 (by decide) ?_
  refine ex_bipush (v := 36) dX7_init_182 (by decide) ?_
  refine ex_iast dX7_init_184 (by decide) rfl (vin rfl) ?_
  refine ex_putD (ci := 7) (j := 4) (v := 51) dX7_init_185 (by decide) rfl rfl lk_X7_22 (Or.inr ⟨rfl, rfl, fx_X7_22⟩) rfl (by decide) (by decide) (fun _ => ⟨rfl, rfl⟩) ?_
  refine ex_aload_n dX7_init_188 rfl ?_
  refine ex_sipush (v := 4000) dX7_init_189 (by decide) ?_
  refine ex_newI (kc := 25) (ks := 191026) (len := 4000) dX7_init_192 rfl (by decide) (by decide) (by decide) aw_I (by decide) rfl ?_
  refine ex_putD (ci := 7) (j := 5) (v := 52) dX7_init_194 (by decide) rfl rfl lk_X7_25 (Or.inr ⟨rfl, rfl, fx_X7_25⟩) rfl (by decide) (by decide) (fun _ => ⟨rfl, rfl⟩) ?_
  refine ex_aload_n dX7_init_197 rfl ?_
  refine ex_sipush (v := 512) dX7_init_198 (by decide) ?_
  refine ex_putI (ci := 7) (j := 7) dX7_init_201 (by decide) rfl rfl lk_X7_28 ⟨rfl, rfl⟩ ?_
  refine ex_aload_n dX7_init_204 rfl ?_
  refine ex_iconst (v := 2) dX7_init_205 (by decide) ?_
  refine ex_newI (kc := 24) (ks := 191024) (len := 2) dX7_init_206 rfl (by decide) (by decide) (by decide) aw_I (by decide) rfl ?_
  refine ex_putD (ci := 7) (j := 8) (v := 53) dX7_init_208 (by decide) rfl rfl lk_X7_32 (Or.inr ⟨rfl, rfl, fx_X7_32⟩) rfl (by decide) (by decide) (fun _ => ⟨rfl, rfl⟩) ?_
  refine ex_aload_n dX7_init_211 rfl ?_
  refine ex_iconst (v := 2) dX7_init_212 (by decide) ?_
  refine ex_newI (kc := 23) (ks := 191022) (len := 2) dX7_init_213 rfl (by decide) (by decide) (by decide) aw_I (by decide) rfl ?_
  refine ex_putD (ci := 7) (j := 9) (v := 54) dX7_init_215 (by decide) rfl rfl lk_X7_35 (Or.inr ⟨rfl, rfl, fx_X7_35⟩) rfl (by decide) (by decide) (fun _ => ⟨rfl, rfl⟩) ?_
  refine ex_aload_n dX7_init_218 rfl ?_
  refine ex_iconst (v := 2) dX7_init_219 (by decide) ?_
  refine ex_newI (kc := 22) (ks := 191020) (len := 2) dX7_init_220 rfl (by decide) (by decide) (by decide) aw_I (by decide) rfl ?_
  refine ex_putD (ci := 7) (j := 10) (v := 55) dX7_init_222 (by decide) rfl rfl lk_X7_38 (Or.inr ⟨rfl, rfl, fx_X7_38⟩) rfl (by decide) (by decide) (fun _ => ⟨rfl, rfl⟩) ?_
  refine ex_aload_n dX7_init_225 rfl ?_
  refine ex_bipush (v := 120) dX7_init_226 (by decide) ?_
  refine ex_newI (kc := 21) (ks := 190900) (len := 120) dX7_init_228 rfl (by decide) (by decide) (by decide) aw_I (by decide) rfl ?_
  refine ex_putD (ci := 7) (j := 11) (v := 56) dX7_init_230 (by decide) rfl rfl lk_X7_41 (Or.inr ⟨rfl, rfl, fx_X7_41⟩) rfl (by decide) (by decide) (fun _ => ⟨rfl, rfl⟩) ?_
  refine ex_aload_n dX7_init_233 rfl ?_
  refine ex_bipush (v := 120) dX7_init_234 (by decide) ?_
  refine ex_newI (kc := 20) (ks := 190780) (len := 120) dX7_init_236 rfl (by decide) (by decide) (by decide) aw_I (by decide) rfl ?_
  refine ex_putD (ci := 7) (j := 12) (v := 57) dX7_init_238 (by decide) rfl rfl lk_X7_44 (Or.inr ⟨rfl, rfl, fx_X7_44⟩) rfl (by decide) (by decide) (fun _ => ⟨rfl, rfl⟩) ?_
  refine ex_aload_n dX7_init_241 rfl ?_
  refine ex_sipush (v := 1200) dX7_init_242 (by decide) ?_
  refine ex_newI (kc := 19) (ks := 189580) (len := 1200) dX7_init_245 rfl (by decide) (by decide) (by decide) aw_I (by decide) rfl ?_
  refine ex_putD (ci := 7) (j := 13) (v := 58) dX7_init_247 (by decide) rfl rfl lk_X7_47 (Or.inr ⟨rfl, rfl, fx_X7_47⟩) rfl (by decide) (by decide) (fun _ => ⟨rfl, rfl⟩) ?_
  refine ex_aload_n dX7_init_250 rfl ?_
  refine ex_sipush (v := 1200) dX7_init_251 (by decide) ?_
  refine ex_newI (kc := 18) (ks := 188380) (len := 1200) dX7_init_254 rfl (by decide) (by decide) (by decide) aw_I (by decide) rfl ?_
  refine ex_putD (ci := 7) (j := 14) (v := 59) dX7_init_256 (by decide) rfl rfl lk_X7_50 (Or.inr ⟨rfl, rfl, fx_X7_50⟩) rfl (by decide) (by decide) (fun _ => ⟨rfl, rfl⟩) ?_
  refine ex_aload_n dX7_init_259 rfl ?_
  refine ex_sipush (v := 1200) dX7_init_260 (by decide) ?_
  refine ex_newI (kc := 17) (ks := 187180) (len := 1200) dX7_init_263 rfl (by decide) (by decide) (by decide) aw_I (by decide) rfl ?_
  refine ex_putD (ci := 7) (j := 15) (v := 60) dX7_init_265 (by decide) rfl rfl lk_X7_53 (Or.inr ⟨rfl, rfl, fx_X7_53⟩) rfl (by decide) (by decide) (fun _ => ⟨rfl, rfl⟩) ?_
  refine ex_aload_n dX7_init_268 rfl ?_
  refine ex_sipush (v := 1200) dX7_init_269 (by decide) ?_
  refine ex_newI (kc := 16) (ks := 185980) (len := 1200) dX7_init_272 rfl (by decide) (by decide) (by decide) aw_I (by decide) rfl ?_
  refine ex_putD (ci := 7) (j := 16) (v := 61) dX7_init_274 (by decide) rfl rfl lk_X7_56 (Or.inr ⟨rfl, rfl, fx_X7_56⟩) rfl (by decide) (by decide) (fun _ => ⟨rfl, rfl⟩) ?_
  refine ex_aload_n dX7_init_277 rfl ?_
  refine ex_sipush (v := 1200) dX7_init_278 (by decide) ?_
  refine ex_newI (kc := 15) (ks := 184780) (len := 1200) dX7_init_281 rfl (by decide) (by decide) (by decide) aw_I (by decide) rfl ?_
  refine ex_putD (ci := 7) (j := 17) (v := 62) dX7_init_283 (by decide) rfl rfl lk_X7_59 (Or.inr ⟨rfl, rfl, fx_X7_59⟩) rfl (by decide) (by decide) (fun _ => ⟨rfl, rfl⟩) ?_
  refine ex_aload_n dX7_init_286 rfl ?_
  refine ex_sipush (v := 1200) dX7_init_287 (by decide) ?_
  refine ex_newI (kc := 14) (ks := 183580) (len := 1200) dX7_init_290 rfl (by decide) (by decide) (by decide) aw_I (by decide) rfl ?_
  refine ex_putD (ci := 7) (j := 18) (v := 63) dX7_init_292 (by decide) rfl rfl lk_X7_62 (Or.inr ⟨rfl, rfl, fx_X7_62⟩) rfl (by decide) (by decide) (fun _ => ⟨rfl, rfl⟩) ?_
  refine ex_aload_n dX7_init_295 rfl ?_
  refine ex_sipush (v := 1200) dX7_init_296 (by decide) ?_
  refine ex_newI (kc := 13) (ks := 182380) (len := 1200) dX7_init_299 rfl (by decide) (by decide) (by decide) aw_I (by decide) rfl ?_
  refine ex_putD (ci := 7) (j := 19) (v := 64) dX7_init_301 (by decide) rfl rfl lk_X7_65 (Or.inr ⟨rfl, rfl, fx_X7_65⟩) rfl (by decide) (by decide) (fun _ => ⟨rfl, rfl⟩) ?_
  refine ex_aload_n dX7_init_304 rfl ?_
  refine ex_sipush (v := 1200) dX7_init_305 (by decide) ?_
  refine ex_newI (kc := 12) (ks := 181180) (len := 1200) dX7_init_308 rfl (by decide) (by decide) (by decide) aw_I (by decide) rfl ?_
  refine ex_putD (ci := 7) (j := 20) (v := 65) dX7_init_310 (by decide) rfl rfl lk_X7_68 (Or.inr ⟨rfl, rfl, fx_X7_68⟩) rfl (by decide) (by decide) (fun _ => ⟨rfl, rfl⟩) ?_
  refine ex_aload_n dX7_init_313 rfl ?_
  refine ex_sipush (v := 1200) dX7_init_314 (by decide) ?_
  refine ex_newI (kc := 11) (ks := 179980) (len := 1200) dX7_init_317 rfl (by decide) (by decide) (by decide) aw_I (by decide) rfl ?_
  refine ex_putD (ci := 7) (j := 21) (v := 66) dX7_init_319 (by decide) rfl rfl lk_X7_71 (Or.inr ⟨rfl, rfl, fx_X7_71⟩) rfl (by decide) (by decide) (fun _ => ⟨rfl, rfl⟩) ?_
  refine ex_aload_n dX7_init_322 rfl ?_
  refine ex_sipush (v := 1200) dX7_init_323 (by decide) ?_
  refine ex_newI (kc := 10) (ks := 178780) (len := 1200) dX7_init_326 rfl (by decide) (by decide) (by decide) aw_I (by decide) rfl ?_
  refine ex_putD (ci := 7) (j := 22) (v := 67) dX7_init_328 (by decide) rfl rfl lk_X7_74 (Or.inr ⟨rfl, rfl, fx_X7_74⟩) rfl (by decide) (by decide) (fun _ => ⟨rfl, rfl⟩) ?_
  refine ex_aload_n dX7_init_331 rfl ?_
  refine ex_sipush (v := 4800) dX7_init_332 (by decide) ?_
  refine ex_newI (kc := 9) (ks := 173980) (len := 4800) dX7_init_335 rfl (by decide) (by decide) (by decide) aw_I (by decide) rfl ?_
  refine ex_putD (ci := 7) (j := 23) (v := 68) dX7_init_337 (by decide) rfl rfl lk_X7_77 (Or.inr ⟨rfl, rfl, fx_X7_77⟩) rfl (by decide) (by decide) (fun _ => ⟨rfl, rfl⟩) ?_
  refine ex_aload_n dX7_init_340 rfl ?_
  refine ex_ldc (v := 163920) dX7_init_341 lk_X7_80 ?_
  refine ex_newI (kc := 8) (ks := 10060) (len := 163920) dX7_init_343 rfl (by decide) (by decide) (by decide) aw_I (by decide) rfl ?_
  refine ex_putD (ci := 7) (j := 29) (v := 69) dX7_init_345 (by decide) rfl rfl lk_X7_81 (Or.inr ⟨rfl, rfl, fx_X7_81⟩) rfl (by decide) (by decide) (fun _ => ⟨rfl, rfl⟩) ?_
  refine ex_aload_n dX7_init_348 rfl ?_
  refine ex_bipush (v := 40) dX7_init_349 (by decide) ?_
  refine ex_newI (kc := 7) (ks := 10020) (len := 40) dX7_init_351 rfl (by decide) (by decide) (by decide) aw_I (by decide) rfl ?_
  refine ex_putD (ci := 7) (j := 30) (v := 70) dX7_init_353 (by decide) rfl rfl lk_X7_84 (Or.inr ⟨rfl, rfl, fx_X7_84⟩) rfl (by decide) (by decide) (fun _ => ⟨rfl, rfl⟩) ?_
  refine ex_aload_n dX7_init_356 rfl ?_
  refine ex_bipush (v := 40) dX7_init_357 (by decide) ?_
  refine ex_newI (kc := 6) (ks := 9980) (len := 40) dX7_init_359 rfl (by decide) (by decide) (by decide) aw_I (by decide) rfl ?_
  refine ex_putD (ci := 7) (j := 31) (v := 71) dX7_init_361 (by decide) rfl rfl lk_X7_87 (Or.inr ⟨rfl, rfl, fx_X7_87⟩) rfl (by decide) (by decide) (fun _ => ⟨rfl, rfl⟩) ?_
  refine ex_aload_n dX7_init_364 rfl ?_
  refine ex_sipush (v := 600) dX7_init_365 (by decide) ?_
  refine ex_newI (kc := 5) (ks := 9380) (len := 600) dX7_init_368 rfl (by decide) (by decide) (by decide) aw_I (by decide) rfl ?_
  refine ex_putD (ci := 7) (j := 32) (v := 72) dX7_init_370 (by decide) rfl rfl lk_X7_90 (Or.inr ⟨rfl, rfl, fx_X7_90⟩) rfl (by decide) (by decide) (fun _ => ⟨rfl, rfl⟩) ?_
  refine ex_aload_n dX7_init_373 rfl ?_
  refine ex_sipush (v := 600) dX7_init_374 (by decide) ?_
  refine ex_newI (kc := 4) (ks := 8780) (len := 600) dX7_init_377 rfl (by decide) (by decide) (by decide) aw_I (by decide) rfl ?_
  refine ex_putD (ci := 7) (j := 33) (v := 73) dX7_init_379 (by decide) rfl rfl lk_X7_93 (Or.inr ⟨rfl, rfl, fx_X7_93⟩) rfl (by decide) (by decide) (fun _ => ⟨rfl, rfl⟩) ?_
  refine ex_aload_n dX7_init_382 rfl ?_
  refine ex_sipush (v := 600) dX7_init_383 (by decide) ?_
  refine ex_newI (kc := 3) (ks := 8180) (len := 600) dX7_init_386 rfl (by decide) (by decide) (by decide) aw_I (by decide) rfl ?_
  refine ex_putD (ci := 7) (j := 34) (v := 74) dX7_init_388 (by decide) rfl rfl lk_X7_96 (Or.inr ⟨rfl, rfl, fx_X7_96⟩) rfl (by decide) (by decide) (fun _ => ⟨rfl, rfl⟩) ?_
  refine ex_aload_n dX7_init_391 rfl ?_
  refine ex_sipush (v := 180) dX7_init_392 (by decide) ?_
  refine ex_newI (kc := 2) (ks := 8000) (len := 180) dX7_init_395 rfl (by decide) (by decide) (by decide) aw_I (by decide) rfl ?_
  refine ex_putD (ci := 7) (j := 35) (v := 75) dX7_init_397 (by decide) rfl rfl lk_X7_99 (Or.inr ⟨rfl, rfl, fx_X7_99⟩) rfl (by decide) (by decide) (fun _ => ⟨rfl, rfl⟩) ?_
  refine ex_aload_n dX7_init_400 rfl ?_
  refine ex_sipush (v := 4000) dX7_init_401 (by decide) ?_
  refine ex_newI (kc := 1) (ks := 4000) (len := 4000) dX7_init_404 rfl (by decide) (by decide) (by decide) aw_I (by decide) rfl ?_
  refine ex_putD (ci := 7) (j := 36) (v := 76) dX7_init_406 (by decide) rfl rfl lk_X7_102 (Or.inr ⟨rfl, rfl, fx_X7_102⟩) rfl (by decide) (by decide) (fun _ => ⟨rfl, rfl⟩) ?_
  refine ex_aload_n dX7_init_409 rfl ?_
  refine ex_sipush (v := 4000) dX7_init_410 (by decide) ?_
  refine ex_newI (kc := 0) (ks := 0) (len := 4000) dX7_init_413 rfl (by decide) (by decide) (by decide) aw_I (by decide) rfl ?_
  refine ex_putD (ci := 7) (j := 38) (v := 77) dX7_init_415 (by decide) rfl rfl lk_X7_105 (Or.inr ⟨rfl, rfl, fx_X7_105⟩) rfl (by decide) (by decide) (fun _ => ⟨rfl, rfl⟩) ?_
  refine ex_vret dX7_init_418 rfl rfl ?_
  exact hQ _ _ rfl
