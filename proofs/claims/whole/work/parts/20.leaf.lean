theorem rmK_of {y y2 : Mt} (h : (decide (y2.2.2.2.2.1 + 1 ≤ y.2.2.2.2.1) && decide (8 + (y2.2.2.1 + 11) + y2.2.2.2.2.2 ≤ y.2.2.2.2.2)) = true) : rmK y y2 := by
  rw [Bool.and_eq_true, decide_eq_true_eq, decide_eq_true_eq] at h
  exact h
theorem ex_nmM {ph : Bool} {y : Mt} {nR n kc ks pc : Nat} {L st : List Value} {M : Mem} {Q : Int32 → Mem → Prop} (k : ∀ M2 : Mem, M2 = M → Ex ph y nR n kc ks pc L st M2 Q) : Ex ph y nR n kc ks pc L st M Q := k M rfl
/-- the tables as the class makes them -/
def TB (M : Mem) : Prop := (M 110 0 = 7 ∧ M 110 1 = 4 ∧ M 110 2 = 4 ∧ M 110 3 = 7 ∧ M 110 4 = 3 ∧ M 110 5 = 7 ∧ M 110 6 = 4 ∧ M 110 7 = 3) ∧ (∀ j : Nat, j < 7 → M 100 j = [25, 17, 11, 27, 19, 10, 26].getD j 0) ∧ (∀ j : Nat, j < 4 → M 101 j = [36, 4, 32, 0].getD j 0) ∧ (∀ j : Nat, j < 4 → M 102 j = [13, 37, 39, 45].getD j 0) ∧ (∀ j : Nat, j < 7 → M 103 j = [8, 24, 56, 16, 40, 48, 32].getD j 0) ∧ (∀ j : Nat, j < 3 → M 104 j = [41, 35, 33].getD j 0) ∧ (∀ j : Nat, j < 7 → M 105 j = [12, 44, 60, 20, 52, 18, 36].getD j 0) ∧ (∀ j : Nat, j < 4 → M 106 j = [8, 4, 2, 1].getD j 0) ∧ ∀ j : Nat, j < 3 → M 107 j = [4, 6, 7].getD j 0
def f_X6_isPitch (a : Int32) : Int32 := if a < 7 then 0 else (if 55 < a then 0 else 1)
theorem t_X6_isPitch (M : Mem) (a : Int32)  (Q : Int32 → Mem → Prop) (hQ : ∀ v M2, v = f_X6_isPitch a ∧ M2 = M → Q v M2) : Ex true mX6_isPitch 78 78 0 0 0 [.int a] [] M Q := by
  refine ex_iload_n dX6_isPitch_0 rfl ?_
  refine ex_bipush (v := 7) dX6_isPitch_1 (by decide) ?_
  refine ex_icmp_lt (tgt := 16) dX6_isPitch_3 (by decide) (fun c_3 => ?_) (fun c_3 => ?_)
  ·
    refine ex_iconst (v := 0) dX6_isPitch_16 (by decide) ?_
    refine ex_iret dX6_isPitch_17 rfl rfl rfl ?_
    exact hQ _ _ ⟨(by unfold f_X6_isPitch; rw [if_pos c_3]), rfl⟩
  ·
    refine ex_iload_n dX6_isPitch_6 rfl ?_
    refine ex_bipush (v := 55) dX6_isPitch_7 (by decide) ?_
    refine ex_icmp_gt (tgt := 16) dX6_isPitch_9 (by decide) (fun c_9 => ?_) (fun c_9 => ?_)
    ·
      refine ex_iconst (v := 0) dX6_isPitch_16 (by decide) ?_
      refine ex_iret dX6_isPitch_17 rfl rfl rfl ?_
      exact hQ _ _ ⟨(by unfold f_X6_isPitch; rw [if_neg c_3, if_pos c_9]), rfl⟩
    ·
      refine ex_iconst (v := 1) dX6_isPitch_12 (by decide) ?_
      refine ex_goto (tgt := 17) dX6_isPitch_13 (by decide) ?_
      refine ex_iret dX6_isPitch_17 rfl rfl rfl ?_
      exact hQ _ _ ⟨(by unfold f_X6_isPitch; rw [if_neg c_3, if_neg c_9]), rfl⟩
def f_X6_isDots (a : Int32) : Int32 := if a < 0 then 0 else (if 2 < a then 0 else 1)
theorem t_X6_isDots (M : Mem) (a : Int32)  (Q : Int32 → Mem → Prop) (hQ : ∀ v M2, v = f_X6_isDots a ∧ M2 = M → Q v M2) : Ex true mX6_isDots 78 78 0 0 0 [.int a] [] M Q := by
  refine ex_iload_n dX6_isDots_0 rfl ?_
  refine ex_if_lt (tgt := 13) dX6_isDots_1 (by decide) (fun c_1 => ?_) (fun c_1 => ?_)
  ·
    refine ex_iconst (v := 0) dX6_isDots_13 (by decide) ?_
    refine ex_iret dX6_isDots_14 rfl rfl rfl ?_
    exact hQ _ _ ⟨(by unfold f_X6_isDots; rw [if_pos c_1]), rfl⟩
  ·
    refine ex_iload_n dX6_isDots_4 rfl ?_
    refine ex_iconst (v := 2) dX6_isDots_5 (by decide) ?_
    refine ex_icmp_gt (tgt := 13) dX6_isDots_6 (by decide) (fun c_6 => ?_) (fun c_6 => ?_)
    ·
      refine ex_iconst (v := 0) dX6_isDots_13 (by decide) ?_
      refine ex_iret dX6_isDots_14 rfl rfl rfl ?_
      exact hQ _ _ ⟨(by unfold f_X6_isDots; rw [if_neg c_1, if_pos c_6]), rfl⟩
    ·
      refine ex_iconst (v := 1) dX6_isDots_9 (by decide) ?_
      refine ex_goto (tgt := 14) dX6_isDots_10 (by decide) ?_
      refine ex_iret dX6_isDots_14 rfl rfl rfl ?_
      exact hQ _ _ ⟨(by unfold f_X6_isDots; rw [if_neg c_1, if_neg c_6]), rfl⟩
