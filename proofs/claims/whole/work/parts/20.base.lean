theorem rmK_of {y y2 : Mt} (h : (decide (y2.2.2.2.2.1 + 1 ≤ y.2.2.2.2.1) && decide (8 + (y2.2.2.1 + 11) + y2.2.2.2.2.2 ≤ y.2.2.2.2.2)) = true) : rmK y y2 := by
  rw [Bool.and_eq_true, decide_eq_true_eq, decide_eq_true_eq] at h
  exact h
theorem ex_nmM {ph : Bool} {y : Mt} {nR n kc ks pc : Nat} {L st : List Value} {M : Mem} {Q : Int32 → Mem → Prop} (k : ∀ M2 : Mem, M2 = M → Ex ph y nR n kc ks pc L st M2 Q) : Ex ph y nR n kc ks pc L st M Q := k M rfl
theorem ex_top {ph : Bool} {y : Mt} {nR n kc ks pc : Nat} {L st : List Value} {M : Mem} {Q : Int32 → Mem → Prop} {x : Int32} (k : ∀ z : Int32, z = x → Ex ph y nR n kc ks pc L (.int z :: st) M Q) : Ex ph y nR n kc ks pc L (.int x :: st) M Q := k x rfl
/-- a Music, a Row, a watch, a table of the reference's, a static table -/
def MU (m : Nat) : Prop := m = 5 ∨ m = 20
def RW (r : Nat) : Prop := r = 1 ∨ r = 3
def OW (w : Nat) : Prop := w = 41 ∨ w = 43
def FA (a : Nat) : Prop := 47 ≤ a ∧ a ≤ 51
def TI (i : Nat) : Prop := i < 8
theorem mu_l {m : Nat} (h : MU m) (i : Nat) (hi : i < 15) : m + i < 78 := by rcases h with rfl | rfl <;> omega
theorem mu_100 {m : Nat} (h : MU m) : m < 100 := by rcases h with rfl | rfl <;> omega
theorem mu_78 {m : Nat} (h : MU m) : m < if true then 78 else 78 := by rcases h with rfl | rfl <;> decide
theorem rw_l {r : Nat} (h : RW r) (i : Nat) (hi : i < 2) : r + i < 78 := by rcases h with rfl | rfl <;> omega
theorem rw_100 {r : Nat} (h : RW r) : r < 100 := by rcases h with rfl | rfl <;> omega
theorem rw_78 {r : Nat} (h : RW r) : r < if true then 78 else 78 := by rcases h with rfl | rfl <;> decide
theorem rw_S0 {r : Nat} (h : RW r) : S0 r = (2 + 2, NC 2) := by rcases h with rfl | rfl <;> rfl
theorem rw_S1 {r : Nat} (h : RW r) : S0 (r + 1) = (0, 4000) := by rcases h with rfl | rfl <;> rfl
theorem rw_F0 {r : Nat} (h : RW r) : FR r 0 = r + 1 := by rcases h with rfl | rfl <;> rfl
theorem ow_l {w : Nat} (h : OW w) : w < 78 := by rcases h with rfl | rfl <;> omega
theorem ow_S0 {w : Nat} (h : OW w) : S0 w = (1 + 2, NC 1) := by rcases h with rfl | rfl <;> rfl
theorem fa_l {a : Nat} (h : FA a) : a < 78 := by unfold FA at h; omega
theorem fa_S {a : Nat} (h : FA a) : S0 a = (0, (S0 a).2) := by
  unfold FA at h
  rcases (show a = 47 ∨ a = 48 ∨ a = 49 ∨ a = 50 ∨ a = 51 by omega) with rfl | rfl | rfl | rfl | rfl <;> rfl
theorem ti_9 {i : Nat} (h : TI i) : i < 9 := Nat.lt_succ_of_lt h
theorem ti_d {i : Nat} (h : decide (i < 8) = true) : TI i := of_decide_eq_true (p := i < 8) h
theorem fa_d {a : Nat} (h : (decide (47 ≤ a) && decide (a ≤ 51)) = true) : FA a := by
  rw [Bool.and_eq_true, decide_eq_true_eq, decide_eq_true_eq] at h
  exact h
theorem nr01 {v : Int32} (h : v = 0 ∨ v = 1) : narrow .boolean (.int v) = .int v := by rcases h with rfl | rfl <;> rfl
theorem nf01 {v : Int32} (h : v = 0 ∨ v = 1) : narrow .boolean (.int v) = .int v ∧ fits .boolean (.int v) = true := by rcases h with rfl | rfl <;> exact ⟨rfl, rfl⟩
theorem nz01 {v : Int32} (h : v = 0 ∨ v = 1) : vp_nar .boolean v = v := by rcases h with rfl | rfl <;> rfl
theorem i32_ne {v c : Int32} (i : Int) (h : ¬ v = c) (hc : c.toInt = i) : v.toInt ≠ i := fun e => h (Int32.toInt_inj.mp (e.trans hc.symm))
theorem mu_S0 {m : Nat} (h : MU m) : S0 m = (0 + 2, NC 0) := by rcases h with rfl | rfl <;> rfl
theorem mu_S1 {m : Nat} (h : MU m) : S0 (m + 1) = (0, 60) := by rcases h with rfl | rfl <;> rfl
theorem mu_S2 {m : Nat} (h : MU m) : S0 (m + 2) = (0, 180) := by rcases h with rfl | rfl <;> rfl
theorem mu_S3 {m : Nat} (h : MU m) : S0 (m + 3) = (0, 180) := by rcases h with rfl | rfl <;> rfl
theorem mu_S4 {m : Nat} (h : MU m) : S0 (m + 4) = (0, 600) := by rcases h with rfl | rfl <;> rfl
theorem mu_S5 {m : Nat} (h : MU m) : S0 (m + 5) = (0, 600) := by rcases h with rfl | rfl <;> rfl
theorem mu_S6 {m : Nat} (h : MU m) : S0 (m + 6) = (0, 600) := by rcases h with rfl | rfl <;> rfl
theorem mu_S7 {m : Nat} (h : MU m) : S0 (m + 7) = (0, 600) := by rcases h with rfl | rfl <;> rfl
theorem mu_S8 {m : Nat} (h : MU m) : S0 (m + 8) = (0, 600) := by rcases h with rfl | rfl <;> rfl
theorem mu_S9 {m : Nat} (h : MU m) : S0 (m + 9) = (0, 600) := by rcases h with rfl | rfl <;> rfl
theorem mu_S10 {m : Nat} (h : MU m) : S0 (m + 10) = (0, 600) := by rcases h with rfl | rfl <;> rfl
theorem mu_S11 {m : Nat} (h : MU m) : S0 (m + 11) = (0, 600) := by rcases h with rfl | rfl <;> rfl
theorem mu_S12 {m : Nat} (h : MU m) : S0 (m + 12) = (0, 600) := by rcases h with rfl | rfl <;> rfl
theorem mu_S13 {m : Nat} (h : MU m) : S0 (m + 13) = (0, 600) := by rcases h with rfl | rfl <;> rfl
theorem mu_S14 {m : Nat} (h : MU m) : S0 (m + 14) = (0, 2400) := by rcases h with rfl | rfl <;> rfl
theorem mu_F4 {m : Nat} (h : MU m) : FR m 4 = m + 1 := by rcases h with rfl | rfl <;> rfl
theorem mu_F5 {m : Nat} (h : MU m) : FR m 5 = m + 2 := by rcases h with rfl | rfl <;> rfl
theorem mu_F6 {m : Nat} (h : MU m) : FR m 6 = m + 3 := by rcases h with rfl | rfl <;> rfl
theorem mu_F7 {m : Nat} (h : MU m) : FR m 7 = m + 4 := by rcases h with rfl | rfl <;> rfl
theorem mu_F8 {m : Nat} (h : MU m) : FR m 8 = m + 5 := by rcases h with rfl | rfl <;> rfl
theorem mu_F9 {m : Nat} (h : MU m) : FR m 9 = m + 6 := by rcases h with rfl | rfl <;> rfl
theorem mu_F10 {m : Nat} (h : MU m) : FR m 10 = m + 7 := by rcases h with rfl | rfl <;> rfl
theorem mu_F11 {m : Nat} (h : MU m) : FR m 11 = m + 8 := by rcases h with rfl | rfl <;> rfl
theorem mu_F12 {m : Nat} (h : MU m) : FR m 12 = m + 9 := by rcases h with rfl | rfl <;> rfl
theorem mu_F13 {m : Nat} (h : MU m) : FR m 13 = m + 10 := by rcases h with rfl | rfl <;> rfl
theorem mu_F14 {m : Nat} (h : MU m) : FR m 14 = m + 11 := by rcases h with rfl | rfl <;> rfl
theorem mu_F15 {m : Nat} (h : MU m) : FR m 15 = m + 12 := by rcases h with rfl | rfl <;> rfl
theorem mu_F16 {m : Nat} (h : MU m) : FR m 16 = m + 13 := by rcases h with rfl | rfl <;> rfl
theorem mu_F17 {m : Nat} (h : MU m) : FR m 17 = m + 14 := by rcases h with rfl | rfl <;> rfl
theorem sw_out3 {v : Int32} (h0 : ¬ v = 0) (h1 : ¬ v = 1) (h2 : ¬ v = 2) : v.toInt < 0 ∨ 2 < v.toInt := by
  have g0 := i32_ne 0 h0 (by decide)
  have g1 := i32_ne 1 h1 (by decide)
  have g2 := i32_ne 2 h2 (by decide)
  omega
theorem sw_out6 {v : Int32} (h0 : ¬ v = 0) (h1 : ¬ v = 1) (h2 : ¬ v = 2) (h3 : ¬ v = 3) (h4 : ¬ v = 4) (h5 : ¬ v = 5) : v.toInt < 0 ∨ 5 < v.toInt := by
  have g0 := i32_ne 0 h0 (by decide)
  have g1 := i32_ne 1 h1 (by decide)
  have g2 := i32_ne 2 h2 (by decide)
  have g3 := i32_ne 3 h3 (by decide)
  have g4 := i32_ne 4 h4 (by decide)
  have g5 := i32_ne 5 h5 (by decide)
  omega
theorem sw_out15 {v : Int32} (h0 : ¬ v = 0) (h1 : ¬ v = 1) (h2 : ¬ v = 2) (h3 : ¬ v = 3) (h4 : ¬ v = 4) (h5 : ¬ v = 5) (h6 : ¬ v = 6) (h7 : ¬ v = 7) (h8 : ¬ v = 8) (h9 : ¬ v = 9) (h10 : ¬ v = 10) (h11 : ¬ v = 11) (h12 : ¬ v = 12) (h13 : ¬ v = 13) (h14 : ¬ v = 14) : v.toInt < 0 ∨ 14 < v.toInt := by
  have g0 := i32_ne 0 h0 (by decide)
  have g1 := i32_ne 1 h1 (by decide)
  have g2 := i32_ne 2 h2 (by decide)
  have g3 := i32_ne 3 h3 (by decide)
  have g4 := i32_ne 4 h4 (by decide)
  have g5 := i32_ne 5 h5 (by decide)
  have g6 := i32_ne 6 h6 (by decide)
  have g7 := i32_ne 7 h7 (by decide)
  have g8 := i32_ne 8 h8 (by decide)
  have g9 := i32_ne 9 h9 (by decide)
  have g10 := i32_ne 10 h10 (by decide)
  have g11 := i32_ne 11 h11 (by decide)
  have g12 := i32_ne 12 h12 (by decide)
  have g13 := i32_ne 13 h13 (by decide)
  have g14 := i32_ne 14 h14 (by decide)
  omega
theorem sw_out23 {v : Int32} (h0 : ¬ v = 0) (h1 : ¬ v = 1) (h2 : ¬ v = 2) (h3 : ¬ v = 3) (h4 : ¬ v = 4) (h5 : ¬ v = 5) (h6 : ¬ v = 6) (h7 : ¬ v = 7) (h8 : ¬ v = 8) (h9 : ¬ v = 9) (h10 : ¬ v = 10) (h11 : ¬ v = 11) (h12 : ¬ v = 12) (h13 : ¬ v = 13) (h14 : ¬ v = 14) (h15 : ¬ v = 15) (h16 : ¬ v = 16) (h17 : ¬ v = 17) (h18 : ¬ v = 18) (h19 : ¬ v = 19) (h20 : ¬ v = 20) (h21 : ¬ v = 21) (h22 : ¬ v = 22) : v.toInt < 0 ∨ 22 < v.toInt := by
  have g0 := i32_ne 0 h0 (by decide)
  have g1 := i32_ne 1 h1 (by decide)
  have g2 := i32_ne 2 h2 (by decide)
  have g3 := i32_ne 3 h3 (by decide)
  have g4 := i32_ne 4 h4 (by decide)
  have g5 := i32_ne 5 h5 (by decide)
  have g6 := i32_ne 6 h6 (by decide)
  have g7 := i32_ne 7 h7 (by decide)
  have g8 := i32_ne 8 h8 (by decide)
  have g9 := i32_ne 9 h9 (by decide)
  have g10 := i32_ne 10 h10 (by decide)
  have g11 := i32_ne 11 h11 (by decide)
  have g12 := i32_ne 12 h12 (by decide)
  have g13 := i32_ne 13 h13 (by decide)
  have g14 := i32_ne 14 h14 (by decide)
  have g15 := i32_ne 15 h15 (by decide)
  have g16 := i32_ne 16 h16 (by decide)
  have g17 := i32_ne 17 h17 (by decide)
  have g18 := i32_ne 18 h18 (by decide)
  have g19 := i32_ne 19 h19 (by decide)
  have g20 := i32_ne 20 h20 (by decide)
  have g21 := i32_ne 21 h21 (by decide)
  have g22 := i32_ne 22 h22 (by decide)
  omega
