/-! THE CLAIM OUT OF ONE WALK OF THE LAW'S BODY. Your part is whole_start (and what it stands on); all else here is the same for every law, but numbers. -/
def R_law : String := "BrailleCellsLaw"
def lw_P (b : Addr) (xs : List Int32) (args : Array Value) (s : State) : Prop := args = #[.ref b] ∧ s.IntsAt b xs ∧ xs.length ≤ 3072 ∧ (Jvm.Cond.and given_1 narrow_1).before args s = true
def lw_Q (_ : Array Value) (s : State) (o : Outcome) (t : State) : Prop := o = .returned (some (.int 1)) ∧ Framed s o t [] 600000 7302249
def lw_Z (below : List Frame) (a : Array Value) (s : State) : State → Prop := fun t => ∃ o, t.status = .running ∧ Ended t below o ∧ lw_Q a s o t
/-- the law's own end, with 1 on the stack, nothing written that was there before, its room as the claim has it -/
theorem lw_ret {p : Program} {l : Launch} {e : Env} {s : State} {m : MethodId} {below : List Frame} {meth : Method} {c : Code} {b : Nat} (hx : p.tables.exec = Jvm.exec) (hb : c.code = code) (hr : meth.sig.returnType = ret) (hlocks : meth.locks = false) {pc : Nat} {H : Heap} {ls : Array Slot} (hdg : decode code pc = .ok (.ireturn, 1)) : W p l e room_1 s m #[Value.ref b] below meth c H [] 600000 7302249 (lw_Z below #[Value.ref b] s) (F0 m pc ls [.int 1]) := by
  intro T hT X
  obtain ⟨fs, hret, hrun, hended, hW, hframe⟩ := X.leave (v := some (.int 1)) (hlocks := hlocks) (fun h => by rw [hr] at h; cases h)
  have hmeth' : T.vm.method? m = some meth := X.method'
  refine ⟨T.setFrames fs, ?_, .returned (some (.int 1)), hrun, hended, rfl, ⟨_, rfl⟩, hW, hframe⟩
  jvm_step X.here [X.here.top, hx, hb, hdg, hmeth', hr, ret, narrow_b1]
  (try refine ⟨rfl, ?_⟩); (try refine ⟨rfl, ?_⟩)
  first | (intro acts; rw [hret _ acts rfl rfl rfl]) | rw [hret _ _ rfl rfl rfl]
  exact Steps.refl _
/-- what holds at the law's entry: the machine, the code, the tables' words (any of lw_tbl by 'hts w (by decide +kernel)'), the script of L ints xs at the cell b, what the Statement gives of the start (any of its parts by flat_of_before) -/
def lw_At (p : Program) (s : State) (m : MethodId) (meth : Method) (c : Code) (b L : Nat) (xs : Nat → Int32) : Prop :=
  p.tables.exec = Jvm.exec ∧ c.code = code ∧ meth.sig.returnType = ret ∧ c.maxLocals = 4 ∧ s.vm.findClass R_law = some m.cls ∧ (∀ w ∈ lw_tbl, w.before #[Value.ref b] s = true) ∧ va_X b L xs s s.heap ∧ b < s.heap.size ∧ meth.locks = false ∧ (Jvm.Cond.and given_1 narrow_1).before #[Value.ref b] s = true ∧ meth.name = "law"
/-- the memory at the law's entry: the tables, and the script of L ints -/
def M0 (L : Nat) (xs : Nat → Int32) : Mem := fun k => match k with
  | 100 => fun j => [25, 17, 11, 27, 19, 10, 26].getD j 0
  | 101 => fun j => [36, 4, 32, 0].getD j 0
  | 102 => fun j => [13, 37, 39, 45].getD j 0
  | 103 => fun j => [8, 24, 56, 16, 40, 48, 32].getD j 0
  | 104 => fun j => [41, 35, 33].getD j 0
  | 105 => fun j => [12, 44, 60, 20, 52, 18, 36].getD j 0
  | 106 => fun j => [8, 4, 2, 1].getD j 0
  | 107 => fun j => [4, 6, 7].getD j 0
  | 108 => xs
  | 110 => fun j => [7, 4, 4, 7, 3, 7, 4, 3, nI L].getD j 0
  | _ => fun _ => 0
/-- and behind the two constructors -/
def MI (L : Nat) (xs : Nat → Int32) : Mem := g_X7_init_46 (mrow (g_X6_init_0 (mrow (M0 L xs) 0 (fun j => if rfq 6 j then -1 else 0))) 46 (fun j => if rfq 7 j then -1 else 0))
def frp : List (Nat × Nat) := [(0, 4), (0, 5), (0, 6), (1, 0), (3, 0), (5, 4), (5, 5), (5, 6), (5, 7), (5, 8), (5, 9), (5, 10), (5, 11), (5, 12), (5, 13), (5, 14), (5, 15), (5, 16), (5, 17), (20, 4), (20, 5), (20, 6), (20, 7), (20, 8), (20, 9), (20, 10), (20, 11), (20, 12), (20, 13), (20, 14), (20, 15), (20, 16), (20, 17), (35, 0), (35, 1), (35, 3), (35, 4), (40, 0), (40, 1), (42, 0), (42, 1), (42, 2), (42, 3), (46, 0), (46, 1), (46, 2), (46, 3), (46, 4), (46, 5), (46, 8), (46, 9), (46, 10), (46, 11), (46, 12), (46, 13), (46, 14), (46, 15), (46, 16), (46, 17), (46, 18), (46, 19), (46, 20), (46, 21), (46, 22), (46, 23), (46, 29), (46, 30), (46, 31), (46, 32), (46, 33), (46, 34), (46, 35), (46, 36), (46, 38)]
theorem frp_all : ((List.range 78).all (fun k => (List.range 40).all (fun j => FR k j == 0 || frp.contains (k, j)))) = true := by decide +kernel
theorem frp_len : ∀ k j : Nat, 40 ≤ j → FR k j = 0 := by
  have h : ∀ l ∈ frs, l.length ≤ 40 := by decide +kernel
  intro k j hj
  unfold FR
  rw [List.getD_eq_getElem?_getD, List.getD_eq_getElem?_getD]
  cases hk : frs[k]? with
  | none => simp
  | some l =>
    have := h l (List.mem_of_getElem? hk)
    simp only [Option.getD_some]
    rw [List.getElem?_eq_none (by omega)]
    rfl
set_option maxRecDepth 100000 in
set_option maxHeartbeats 4000000 in
theorem MI_refs (L : Nat) (xs : Nat → Int32) : ∀ k j : Nat, k < 78 → ¬ FR k j = 0 → MI L xs k j = nI (FR k j) := by
  have h : ∀ q ∈ frp, MI L xs q.1 q.2 = nI (FR q.1 q.2) := by
    intro q hq
    simp only [frp, List.mem_cons, List.not_mem_nil, or_false] at hq
    rcases hq with rfl | rfl | rfl | rfl | rfl | rfl | rfl | rfl | rfl | rfl | rfl | rfl | rfl | rfl | rfl | rfl | rfl | rfl | rfl | rfl | rfl | rfl | rfl | rfl | rfl | rfl | rfl | rfl | rfl | rfl | rfl | rfl | rfl | rfl | rfl | rfl | rfl | rfl | rfl | rfl | rfl | rfl | rfl | rfl | rfl | rfl | rfl | rfl | rfl | rfl | rfl | rfl | rfl | rfl | rfl | rfl | rfl | rfl | rfl | rfl | rfl | rfl | rfl | rfl | rfl | rfl | rfl | rfl | rfl | rfl | rfl | rfl | rfl | rfl <;> rfl
  intro k j hk hz
  by_cases hj : j < 40
  · have := List.all_eq_true.mp (List.all_eq_true.mp frp_all k (List.mem_range.mpr hk)) j (List.mem_range.mpr hj)
    simp only [Bool.or_eq_true, beq_iff_eq] at this
    rcases this with h1 | h1
    · exact absurd h1 hz
    · exact h (k, j) (by simpa using h1)
  · exact absurd (frp_len k j (by omega)) hz
set_option maxRecDepth 100000 in
theorem law_ex (L : Nat) (xs : Nat → Int32) (h : w_law (fun v _ => v = 1) 513 0 (MI L xs)) : Ex false mL_law 0 0 591 238678 0 [.ref (100 + 8), .null, .null, .null] [] (M0 L xs) (fun v _ => v = 1) := by
  refine ex_new (kc := 590) (ks := 238671) (ci := 6) dL_law_0 rfl (by decide) lk_L_7 (by decide) rfl ?_
  refine ex_dup dL_law_3 rfl ?_
  refine ex_invI (kc := 545) (ks := 200738) (k := 0) (as := []) (L2 := [.ref 0]) (st := [.ref 0]) (nR2 := 46) 45 37933 dL_law_4 lk_L_9 sl_X6_init rfl rfl (rmK_of rfl) rfl (Nat.le_of_ble_eq_true rfl) (Nat.le_of_ble_eq_true rfl) rfl (by decide) (k_X6_init_0 _ _ (fun _ _ e => e)) (fun _ M1 e => ?_)
  obtain rfl : M1 = _ := e
  refine ex_astore_n (L2 := [.ref (100 + 8), .ref 0, .null, .null]) dL_law_7 (by decide) rfl rfl ?_
  refine ex_new (kc := 544) (ks := 200698) (ci := 7) dL_law_8 rfl (by decide) lk_L_10 (by decide) rfl ?_
  refine ex_dup dL_law_11 rfl ?_
  refine ex_invI (kc := 513) (ks := 5643) (k := 46) (as := []) (L2 := [.ref 46]) (st := [.ref 46]) (nR2 := 78) 31 195055 dL_law_12 lk_L_12 sl_X7_init rfl rfl (rmK_of rfl) rfl (Nat.le_of_ble_eq_true rfl) (Nat.le_of_ble_eq_true rfl) rfl (by decide) (k_X7_init_46 _ _ (fun _ _ e => e)) (fun _ M1 e => ?_)
  obtain rfl : M1 = _ := e
  refine ex_astore_n (L2 := [.ref (100 + 8), .ref 0, .ref 46, .null]) dL_law_15 (by decide) rfl rfl ?_
  refine ex_iconst (v := 0) dL_law_16 (by decide) ?_
  refine ex_istore_n (L2 := [.ref (100 + 8), .ref 0, .ref 46, .int 0]) dL_law_17 (by decide) rfl rfl ?_
  refine ex_phase (MI_refs L xs) ?_
  exact t_law _ 513 0 (MI L xs) h
set_option maxRecDepth 100000 in
theorem tab_0 {args : Array Value} {s : State} {A : Nat → Prop} (hs : ∀ w ∈ flatC (Jvm.Cond.and given_1 narrow_1), w.before args s = true) (hts : ∀ w ∈ lw_tbl, w.before args s = true) (hA : ∀ a : Nat, a < s.heap.size → ¬ A a) : ∃ t : Nat, va_T .int t 7 (fun j => .int ([25, 17, 11, 27, 19, 10, 26].getD j 0)) A s s.heap ∧ va_Z RX6 (sN 0) "[I" (.ref t) A s s.heap := by
  have hel : ∀ j : Nat, j < 7 → (Term.elem (.static "BrailleCells" "STEP_CELLS" "[I") (.int (Int32.ofNat j))).eval args s none [] s = some (.int ([25, 17, 11, 27, 19, 10, 26].getD j 0)) := by
    intro j hj
    match j, hj with
    | 0, _ => exact va_eqt (hs (Cond.eq (.elem (.static "BrailleCells" "STEP_CELLS" "[I") (.int 0)) (.int 25)) (by decide +kernel))
    | 1, _ => exact va_eqt (hs (Cond.eq (.elem (.static "BrailleCells" "STEP_CELLS" "[I") (.int 1)) (.int 17)) (by decide +kernel))
    | 2, _ => exact va_eqt (hs (Cond.eq (.elem (.static "BrailleCells" "STEP_CELLS" "[I") (.int 2)) (.int 11)) (by decide +kernel))
    | 3, _ => exact va_eqt (hs (Cond.eq (.elem (.static "BrailleCells" "STEP_CELLS" "[I") (.int 3)) (.int 27)) (by decide +kernel))
    | 4, _ => exact va_eqt (hs (Cond.eq (.elem (.static "BrailleCells" "STEP_CELLS" "[I") (.int 4)) (.int 19)) (by decide +kernel))
    | 5, _ => exact va_eqt (hs (Cond.eq (.elem (.static "BrailleCells" "STEP_CELLS" "[I") (.int 5)) (.int 10)) (by decide +kernel))
    | 6, _ => exact va_eqt (hs (Cond.eq (.elem (.static "BrailleCells" "STEP_CELLS" "[I") (.int 6)) (.int 26)) (by decide +kernel))
    | j + 7, h => omega
  obtain ⟨t, h1, h2⟩ := va_Tof (tm := .static "BrailleCells" "STEP_CELLS" "[I") (ty := .int) (N := 7) (f := fun j => .int ([25, 17, 11, 27, 19, 10, 26].getD j 0)) (A := A) (by decide) (hs (Cond.arrayOf (.static "BrailleCells" "STEP_CELLS" "[I") .int) (by decide +kernel)) (va_eqt (hs (Cond.eq (.length (.static "BrailleCells" "STEP_CELLS" "[I")) (.int 7)) (by decide +kernel))) hel hA
  exact ⟨t, h2, va_Zref (hts (.laysStatic "BrailleCells" "STEP_CELLS" "[I") (by decide +kernel)) (hts (.initialized "BrailleCells") (by decide +kernel)) h1 hA⟩
set_option maxRecDepth 100000 in
theorem tab_1 {args : Array Value} {s : State} {A : Nat → Prop} (hs : ∀ w ∈ flatC (Jvm.Cond.and given_1 narrow_1), w.before args s = true) (hts : ∀ w ∈ lw_tbl, w.before args s = true) (hA : ∀ a : Nat, a < s.heap.size → ¬ A a) : ∃ t : Nat, va_T .int t 4 (fun j => .int ([36, 4, 32, 0].getD j 0)) A s s.heap ∧ va_Z RX6 (sN 1) "[I" (.ref t) A s s.heap := by
  have hel : ∀ j : Nat, j < 4 → (Term.elem (.static "BrailleCells" "KIND_CELLS" "[I") (.int (Int32.ofNat j))).eval args s none [] s = some (.int ([36, 4, 32, 0].getD j 0)) := by
    intro j hj
    match j, hj with
    | 0, _ => exact va_eqt (hs (Cond.eq (.elem (.static "BrailleCells" "KIND_CELLS" "[I") (.int 0)) (.int 36)) (by decide +kernel))
    | 1, _ => exact va_eqt (hs (Cond.eq (.elem (.static "BrailleCells" "KIND_CELLS" "[I") (.int 1)) (.int 4)) (by decide +kernel))
    | 2, _ => exact va_eqt (hs (Cond.eq (.elem (.static "BrailleCells" "KIND_CELLS" "[I") (.int 2)) (.int 32)) (by decide +kernel))
    | 3, _ => exact va_eqt (hs (Cond.eq (.elem (.static "BrailleCells" "KIND_CELLS" "[I") (.int 3)) (.int 0)) (by decide +kernel))
    | j + 4, h => omega
  obtain ⟨t, h1, h2⟩ := va_Tof (tm := .static "BrailleCells" "KIND_CELLS" "[I") (ty := .int) (N := 4) (f := fun j => .int ([36, 4, 32, 0].getD j 0)) (A := A) (by decide) (hs (Cond.arrayOf (.static "BrailleCells" "KIND_CELLS" "[I") .int) (by decide +kernel)) (va_eqt (hs (Cond.eq (.length (.static "BrailleCells" "KIND_CELLS" "[I")) (.int 4)) (by decide +kernel))) hel hA
  exact ⟨t, h2, va_Zref (hts (.laysStatic "BrailleCells" "KIND_CELLS" "[I") (by decide +kernel)) (hts (.initialized "BrailleCells") (by decide +kernel)) h1 hA⟩
set_option maxRecDepth 100000 in
theorem tab_2 {args : Array Value} {s : State} {A : Nat → Prop} (hs : ∀ w ∈ flatC (Jvm.Cond.and given_1 narrow_1), w.before args s = true) (hts : ∀ w ∈ lw_tbl, w.before args s = true) (hA : ∀ a : Nat, a < s.heap.size → ¬ A a) : ∃ t : Nat, va_T .int t 4 (fun j => .int ([13, 37, 39, 45].getD j 0)) A s s.heap ∧ va_Z RX6 (sN 2) "[I" (.ref t) A s s.heap := by
  have hel : ∀ j : Nat, j < 4 → (Term.elem (.static "BrailleCells" "REST_CELLS" "[I") (.int (Int32.ofNat j))).eval args s none [] s = some (.int ([13, 37, 39, 45].getD j 0)) := by
    intro j hj
    match j, hj with
    | 0, _ => exact va_eqt (hs (Cond.eq (.elem (.static "BrailleCells" "REST_CELLS" "[I") (.int 0)) (.int 13)) (by decide +kernel))
    | 1, _ => exact va_eqt (hs (Cond.eq (.elem (.static "BrailleCells" "REST_CELLS" "[I") (.int 1)) (.int 37)) (by decide +kernel))
    | 2, _ => exact va_eqt (hs (Cond.eq (.elem (.static "BrailleCells" "REST_CELLS" "[I") (.int 2)) (.int 39)) (by decide +kernel))
    | 3, _ => exact va_eqt (hs (Cond.eq (.elem (.static "BrailleCells" "REST_CELLS" "[I") (.int 3)) (.int 45)) (by decide +kernel))
    | j + 4, h => omega
  obtain ⟨t, h1, h2⟩ := va_Tof (tm := .static "BrailleCells" "REST_CELLS" "[I") (ty := .int) (N := 4) (f := fun j => .int ([13, 37, 39, 45].getD j 0)) (A := A) (by decide) (hs (Cond.arrayOf (.static "BrailleCells" "REST_CELLS" "[I") .int) (by decide +kernel)) (va_eqt (hs (Cond.eq (.length (.static "BrailleCells" "REST_CELLS" "[I")) (.int 4)) (by decide +kernel))) hel hA
  exact ⟨t, h2, va_Zref (hts (.laysStatic "BrailleCells" "REST_CELLS" "[I") (by decide +kernel)) (hts (.initialized "BrailleCells") (by decide +kernel)) h1 hA⟩
set_option maxRecDepth 100000 in
theorem tab_3 {args : Array Value} {s : State} {A : Nat → Prop} (hs : ∀ w ∈ flatC (Jvm.Cond.and given_1 narrow_1), w.before args s = true) (hts : ∀ w ∈ lw_tbl, w.before args s = true) (hA : ∀ a : Nat, a < s.heap.size → ¬ A a) : ∃ t : Nat, va_T .int t 7 (fun j => .int ([8, 24, 56, 16, 40, 48, 32].getD j 0)) A s s.heap ∧ va_Z RX6 (sN 3) "[I" (.ref t) A s s.heap := by
  have hel : ∀ j : Nat, j < 7 → (Term.elem (.static "BrailleCells" "OCTAVE_CELLS" "[I") (.int (Int32.ofNat j))).eval args s none [] s = some (.int ([8, 24, 56, 16, 40, 48, 32].getD j 0)) := by
    intro j hj
    match j, hj with
    | 0, _ => exact va_eqt (hs (Cond.eq (.elem (.static "BrailleCells" "OCTAVE_CELLS" "[I") (.int 0)) (.int 8)) (by decide +kernel))
    | 1, _ => exact va_eqt (hs (Cond.eq (.elem (.static "BrailleCells" "OCTAVE_CELLS" "[I") (.int 1)) (.int 24)) (by decide +kernel))
    | 2, _ => exact va_eqt (hs (Cond.eq (.elem (.static "BrailleCells" "OCTAVE_CELLS" "[I") (.int 2)) (.int 56)) (by decide +kernel))
    | 3, _ => exact va_eqt (hs (Cond.eq (.elem (.static "BrailleCells" "OCTAVE_CELLS" "[I") (.int 3)) (.int 16)) (by decide +kernel))
    | 4, _ => exact va_eqt (hs (Cond.eq (.elem (.static "BrailleCells" "OCTAVE_CELLS" "[I") (.int 4)) (.int 40)) (by decide +kernel))
    | 5, _ => exact va_eqt (hs (Cond.eq (.elem (.static "BrailleCells" "OCTAVE_CELLS" "[I") (.int 5)) (.int 48)) (by decide +kernel))
    | 6, _ => exact va_eqt (hs (Cond.eq (.elem (.static "BrailleCells" "OCTAVE_CELLS" "[I") (.int 6)) (.int 32)) (by decide +kernel))
    | j + 7, h => omega
  obtain ⟨t, h1, h2⟩ := va_Tof (tm := .static "BrailleCells" "OCTAVE_CELLS" "[I") (ty := .int) (N := 7) (f := fun j => .int ([8, 24, 56, 16, 40, 48, 32].getD j 0)) (A := A) (by decide) (hs (Cond.arrayOf (.static "BrailleCells" "OCTAVE_CELLS" "[I") .int) (by decide +kernel)) (va_eqt (hs (Cond.eq (.length (.static "BrailleCells" "OCTAVE_CELLS" "[I")) (.int 7)) (by decide +kernel))) hel hA
  exact ⟨t, h2, va_Zref (hts (.laysStatic "BrailleCells" "OCTAVE_CELLS" "[I") (by decide +kernel)) (hts (.initialized "BrailleCells") (by decide +kernel)) h1 hA⟩
set_option maxRecDepth 100000 in
theorem tab_4 {args : Array Value} {s : State} {A : Nat → Prop} (hs : ∀ w ∈ flatC (Jvm.Cond.and given_1 narrow_1), w.before args s = true) (hts : ∀ w ∈ lw_tbl, w.before args s = true) (hA : ∀ a : Nat, a < s.heap.size → ¬ A a) : ∃ t : Nat, va_T .int t 3 (fun j => .int ([41, 35, 33].getD j 0)) A s s.heap ∧ va_Z RX6 (sN 4) "[I" (.ref t) A s s.heap := by
  have hel : ∀ j : Nat, j < 3 → (Term.elem (.static "BrailleCells" "SIGN_CELLS" "[I") (.int (Int32.ofNat j))).eval args s none [] s = some (.int ([41, 35, 33].getD j 0)) := by
    intro j hj
    match j, hj with
    | 0, _ => exact va_eqt (hs (Cond.eq (.elem (.static "BrailleCells" "SIGN_CELLS" "[I") (.int 0)) (.int 41)) (by decide +kernel))
    | 1, _ => exact va_eqt (hs (Cond.eq (.elem (.static "BrailleCells" "SIGN_CELLS" "[I") (.int 1)) (.int 35)) (by decide +kernel))
    | 2, _ => exact va_eqt (hs (Cond.eq (.elem (.static "BrailleCells" "SIGN_CELLS" "[I") (.int 2)) (.int 33)) (by decide +kernel))
    | j + 3, h => omega
  obtain ⟨t, h1, h2⟩ := va_Tof (tm := .static "BrailleCells" "SIGN_CELLS" "[I") (ty := .int) (N := 3) (f := fun j => .int ([41, 35, 33].getD j 0)) (A := A) (by decide) (hs (Cond.arrayOf (.static "BrailleCells" "SIGN_CELLS" "[I") .int) (by decide +kernel)) (va_eqt (hs (Cond.eq (.length (.static "BrailleCells" "SIGN_CELLS" "[I")) (.int 3)) (by decide +kernel))) hel hA
  exact ⟨t, h2, va_Zref (hts (.laysStatic "BrailleCells" "SIGN_CELLS" "[I") (by decide +kernel)) (hts (.initialized "BrailleCells") (by decide +kernel)) h1 hA⟩
set_option maxRecDepth 100000 in
theorem tab_5 {args : Array Value} {s : State} {A : Nat → Prop} (hs : ∀ w ∈ flatC (Jvm.Cond.and given_1 narrow_1), w.before args s = true) (hts : ∀ w ∈ lw_tbl, w.before args s = true) (hA : ∀ a : Nat, a < s.heap.size → ¬ A a) : ∃ t : Nat, va_T .int t 7 (fun j => .int ([12, 44, 60, 20, 52, 18, 36].getD j 0)) A s s.heap ∧ va_Z RX6 (sN 5) "[I" (.ref t) A s s.heap := by
  have hel : ∀ j : Nat, j < 7 → (Term.elem (.static "BrailleCells" "INTERVAL_CELLS" "[I") (.int (Int32.ofNat j))).eval args s none [] s = some (.int ([12, 44, 60, 20, 52, 18, 36].getD j 0)) := by
    intro j hj
    match j, hj with
    | 0, _ => exact va_eqt (hs (Cond.eq (.elem (.static "BrailleCells" "INTERVAL_CELLS" "[I") (.int 0)) (.int 12)) (by decide +kernel))
    | 1, _ => exact va_eqt (hs (Cond.eq (.elem (.static "BrailleCells" "INTERVAL_CELLS" "[I") (.int 1)) (.int 44)) (by decide +kernel))
    | 2, _ => exact va_eqt (hs (Cond.eq (.elem (.static "BrailleCells" "INTERVAL_CELLS" "[I") (.int 2)) (.int 60)) (by decide +kernel))
    | 3, _ => exact va_eqt (hs (Cond.eq (.elem (.static "BrailleCells" "INTERVAL_CELLS" "[I") (.int 3)) (.int 20)) (by decide +kernel))
    | 4, _ => exact va_eqt (hs (Cond.eq (.elem (.static "BrailleCells" "INTERVAL_CELLS" "[I") (.int 4)) (.int 52)) (by decide +kernel))
    | 5, _ => exact va_eqt (hs (Cond.eq (.elem (.static "BrailleCells" "INTERVAL_CELLS" "[I") (.int 5)) (.int 18)) (by decide +kernel))
    | 6, _ => exact va_eqt (hs (Cond.eq (.elem (.static "BrailleCells" "INTERVAL_CELLS" "[I") (.int 6)) (.int 36)) (by decide +kernel))
    | j + 7, h => omega
  obtain ⟨t, h1, h2⟩ := va_Tof (tm := .static "BrailleCells" "INTERVAL_CELLS" "[I") (ty := .int) (N := 7) (f := fun j => .int ([12, 44, 60, 20, 52, 18, 36].getD j 0)) (A := A) (by decide) (hs (Cond.arrayOf (.static "BrailleCells" "INTERVAL_CELLS" "[I") .int) (by decide +kernel)) (va_eqt (hs (Cond.eq (.length (.static "BrailleCells" "INTERVAL_CELLS" "[I")) (.int 7)) (by decide +kernel))) hel hA
  exact ⟨t, h2, va_Zref (hts (.laysStatic "BrailleCells" "INTERVAL_CELLS" "[I") (by decide +kernel)) (hts (.initialized "BrailleCells") (by decide +kernel)) h1 hA⟩
set_option maxRecDepth 100000 in
theorem tab_6 {args : Array Value} {s : State} {A : Nat → Prop} (hs : ∀ w ∈ flatC (Jvm.Cond.and given_1 narrow_1), w.before args s = true) (hts : ∀ w ∈ lw_tbl, w.before args s = true) (hA : ∀ a : Nat, a < s.heap.size → ¬ A a) : ∃ t : Nat, va_T .int t 4 (fun j => .int ([8, 4, 2, 1].getD j 0)) A s s.heap ∧ va_Z RX6 (sN 6) "[I" (.ref t) A s s.heap := by
  have hel : ∀ j : Nat, j < 4 → (Term.elem (.static "BrailleCells" "KIND_LENGTHS" "[I") (.int (Int32.ofNat j))).eval args s none [] s = some (.int ([8, 4, 2, 1].getD j 0)) := by
    intro j hj
    match j, hj with
    | 0, _ => exact va_eqt (hs (Cond.eq (.elem (.static "BrailleCells" "KIND_LENGTHS" "[I") (.int 0)) (.int 8)) (by decide +kernel))
    | 1, _ => exact va_eqt (hs (Cond.eq (.elem (.static "BrailleCells" "KIND_LENGTHS" "[I") (.int 1)) (.int 4)) (by decide +kernel))
    | 2, _ => exact va_eqt (hs (Cond.eq (.elem (.static "BrailleCells" "KIND_LENGTHS" "[I") (.int 2)) (.int 2)) (by decide +kernel))
    | 3, _ => exact va_eqt (hs (Cond.eq (.elem (.static "BrailleCells" "KIND_LENGTHS" "[I") (.int 3)) (.int 1)) (by decide +kernel))
    | j + 4, h => omega
  obtain ⟨t, h1, h2⟩ := va_Tof (tm := .static "BrailleCells" "KIND_LENGTHS" "[I") (ty := .int) (N := 4) (f := fun j => .int ([8, 4, 2, 1].getD j 0)) (A := A) (by decide) (hs (Cond.arrayOf (.static "BrailleCells" "KIND_LENGTHS" "[I") .int) (by decide +kernel)) (va_eqt (hs (Cond.eq (.length (.static "BrailleCells" "KIND_LENGTHS" "[I")) (.int 4)) (by decide +kernel))) hel hA
  exact ⟨t, h2, va_Zref (hts (.laysStatic "BrailleCells" "KIND_LENGTHS" "[I") (by decide +kernel)) (hts (.initialized "BrailleCells") (by decide +kernel)) h1 hA⟩
set_option maxRecDepth 100000 in
theorem tab_7 {args : Array Value} {s : State} {A : Nat → Prop} (hs : ∀ w ∈ flatC (Jvm.Cond.and given_1 narrow_1), w.before args s = true) (hts : ∀ w ∈ lw_tbl, w.before args s = true) (hA : ∀ a : Nat, a < s.heap.size → ¬ A a) : ∃ t : Nat, va_T .int t 3 (fun j => .int ([4, 6, 7].getD j 0)) A s s.heap ∧ va_Z RX6 (sN 7) "[I" (.ref t) A s s.heap := by
  have hel : ∀ j : Nat, j < 3 → (Term.elem (.static "BrailleCells" "DOT_TIMES" "[I") (.int (Int32.ofNat j))).eval args s none [] s = some (.int ([4, 6, 7].getD j 0)) := by
    intro j hj
    match j, hj with
    | 0, _ => exact va_eqt (hs (Cond.eq (.elem (.static "BrailleCells" "DOT_TIMES" "[I") (.int 0)) (.int 4)) (by decide +kernel))
    | 1, _ => exact va_eqt (hs (Cond.eq (.elem (.static "BrailleCells" "DOT_TIMES" "[I") (.int 1)) (.int 6)) (by decide +kernel))
    | 2, _ => exact va_eqt (hs (Cond.eq (.elem (.static "BrailleCells" "DOT_TIMES" "[I") (.int 2)) (.int 7)) (by decide +kernel))
    | j + 3, h => omega
  obtain ⟨t, h1, h2⟩ := va_Tof (tm := .static "BrailleCells" "DOT_TIMES" "[I") (ty := .int) (N := 3) (f := fun j => .int ([4, 6, 7].getD j 0)) (A := A) (by decide) (hs (Cond.arrayOf (.static "BrailleCells" "DOT_TIMES" "[I") .int) (by decide +kernel)) (va_eqt (hs (Cond.eq (.length (.static "BrailleCells" "DOT_TIMES" "[I")) (.int 3)) (by decide +kernel))) hel hA
  exact ⟨t, h2, va_Zref (hts (.laysStatic "BrailleCells" "DOT_TIMES" "[I") (by decide +kernel)) (hts (.initialized "BrailleCells") (by decide +kernel)) h1 hA⟩
theorem arr_of {args : Array Value} {s : State} {ty : FieldType} (h : (Cond.arrayClass ty).before args s = true) (hty : ∀ C, ty ≠ .object C) : ∃ cA : ClassId, ArrOfT s cA ty ∧ va_RA s cA ty := by
  obtain ⟨cA, kA, comp, h1, h2, h3⟩ := Cond.arrayClass_spec h
  refine ⟨cA, fun n z => ⟨fun k h => (by cases h), kA, h2, comp, h3⟩, ?_⟩
  cases ty with
  | object C => exact absurd rfl (hty C)
  | _ => exact h1
set_option maxRecDepth 100000 in
set_option maxHeartbeats 4000000 in
/-- the claim's walk, out of the pure statement -/
theorem start_of {p : Program} {e : Env} {s : State} {m : MethodId} {below : List Frame} {meth : Method} {c : Code} (l : Launch) {b L : Nat} {xs : Nat → Int32} (hL : L ≤ 3072) (C0 : lw_At p s m meth c b L xs) (hpure : w_law (fun v _ => v = 1) 513 0 (MI L xs)) : W p l e room_1 s m #[Value.ref b] below meth c s.heap [] 0 0 (lw_Z below #[Value.ref b] s) (entryFrame m ([Value.ref b] : List Value).toArray 4) := by
  obtain ⟨hx, hb, hr, hml, hown, hts, hX, hbl, hlocks, hgv, hname⟩ := id C0
  have hA : ∀ a : Nat, a < s.heap.size → ¬ (fun q : Nat => s.heap.size ≤ q) a := fun a h => Nat.not_le.mpr h
  have hs := flat_of_before _ hgv
  obtain ⟨t0, T0, Z0⟩ := tab_0 (A := fun q : Nat => s.heap.size ≤ q) hs hts hA
  obtain ⟨t1, T1, Z1⟩ := tab_1 (A := fun q : Nat => s.heap.size ≤ q) hs hts hA
  obtain ⟨t2, T2, Z2⟩ := tab_2 (A := fun q : Nat => s.heap.size ≤ q) hs hts hA
  obtain ⟨t3, T3, Z3⟩ := tab_3 (A := fun q : Nat => s.heap.size ≤ q) hs hts hA
  obtain ⟨t4, T4, Z4⟩ := tab_4 (A := fun q : Nat => s.heap.size ≤ q) hs hts hA
  obtain ⟨t5, T5, Z5⟩ := tab_5 (A := fun q : Nat => s.heap.size ≤ q) hs hts hA
  obtain ⟨t6, T6, Z6⟩ := tab_6 (A := fun q : Nat => s.heap.size ≤ q) hs hts hA
  obtain ⟨t7, T7, Z7⟩ := tab_7 (A := fun q : Nat => s.heap.size ≤ q) hs hts hA
  obtain ⟨c0, iS0, hKn0⟩ := u_known (C := nmC 0) (T := TC 0) (N := NC 0) (n := NC 0) hts (fun w hw => (List.mem_filter.mp (C_in 0 (by decide) w hw)).1) (hts (.instantiable (nmC 0) (NC 0)) (by decide +kernel))
  obtain ⟨c1, iS1, hKn1⟩ := u_known (C := nmC 1) (T := TC 1) (N := NC 1) (n := NC 1) hts (fun w hw => (List.mem_filter.mp (C_in 1 (by decide) w hw)).1) (hts (.instantiable (nmC 1) (NC 1)) (by decide +kernel))
  obtain ⟨c2, iS2, hKn2⟩ := u_known (C := nmC 2) (T := TC 2) (N := NC 2) (n := NC 2) hts (fun w hw => (List.mem_filter.mp (C_in 2 (by decide) w hw)).1) (hts (.instantiable (nmC 2) (NC 2)) (by decide +kernel))
  obtain ⟨c3, iS3, hKn3⟩ := u_known (C := nmC 3) (T := TC 3) (N := NC 3) (n := NC 3) hts (fun w hw => (List.mem_filter.mp (C_in 3 (by decide) w hw)).1) (hts (.instantiable (nmC 3) (NC 3)) (by decide +kernel))
  obtain ⟨c4, iS4, hKn4⟩ := u_known (C := nmC 4) (T := TC 4) (N := NC 4) (n := NC 4) hts (fun w hw => (List.mem_filter.mp (C_in 4 (by decide) w hw)).1) (hts (.instantiable (nmC 4) (NC 4)) (by decide +kernel))
  obtain ⟨c5, iS5, hKn5⟩ := u_known (C := nmC 5) (T := TC 5) (N := NC 5) (n := NC 5) hts (fun w hw => (List.mem_filter.mp (C_in 5 (by decide) w hw)).1) (hts (.instantiable (nmC 5) (NC 5)) (by decide +kernel))
  obtain ⟨c6, iS6, hKn6⟩ := u_known (C := nmC 6) (T := TC 6) (N := NC 6) (n := NC 6) hts (fun w hw => (List.mem_filter.mp (C_in 6 (by decide) w hw)).1) (hts (.instantiable (nmC 6) (NC 6)) (by decide +kernel))
  obtain ⟨c7, iS7, hKn7⟩ := u_known (C := nmC 7) (T := TC 7) (N := NC 7) (n := NC 7) hts (fun w hw => (List.mem_filter.mp (C_in 7 (by decide) w hw)).1) (hts (.instantiable (nmC 7) (NC 7)) (by decide +kernel))
  obtain ⟨cI, hI1, hI2⟩ := arr_of (hts (.arrayClass .int) (by decide +kernel)) (fun C h => by cases h)
  obtain ⟨cB, hB1, hB2⟩ := arr_of (hts (.arrayClass .boolean) (by decide +kernel)) (fun C h => by cases h)
  obtain ⟨D, hKc⟩ : ∃ D : va_G, ∀ (k : Nat) (q : vw_C), clO[k]? = some q → u_Kn s q.1 q.2.1 q.2.2 (D.1 k) (D.2 k) := by
    refine ⟨(fun k => match k with | 0 => c0 | 1 => c1 | 2 => c2 | 3 => c3 | 4 => c4 | 5 => c5 | 6 => c6 | _ => c7, fun k => match k with | 0 => iS0 | 1 => iS1 | 2 => iS2 | 3 => iS3 | 4 => iS4 | 5 => iS5 | 6 => iS6 | _ => iS7), ?_⟩
    intro k q hq
    match k, hq with
    | 0, hq => cases hq; exact hKn0
    | 1, hq => cases hq; exact hKn1
    | 2, hq => cases hq; exact hKn2
    | 3, hq => cases hq; exact hKn3
    | 4, hq => cases hq; exact hKn4
    | 5, hq => cases hq; exact hKn5
    | 6, hq => cases hq; exact hKn6
    | 7, hq => cases hq; exact hKn7
    | k + 8, hq => simp [clO] at hq
  have hK : va_K D clO [(cI, .int), (cB, .boolean)] s := by
    refine ⟨hKc, fun k q h => ?_⟩
    match k, h with
    | 0, h => cases h; exact ⟨hI1, hI2⟩
    | 1, h => cases h; exact ⟨hB1, hB2⟩
    | k + 2, h => simp at h
  obtain ⟨ad, a0, a1, a2, a3, a4, a5, a6, a7, a8⟩ : ∃ ad : Nat → Nat, ad 100 = t0 ∧ ad 101 = t1 ∧ ad 102 = t2 ∧ ad 103 = t3 ∧ ad 104 = t4 ∧ ad 105 = t5 ∧ ad 106 = t6 ∧ ad 107 = t7 ∧ ad 108 = b := ⟨fun k => match k with | 100 => t0 | 101 => t1 | 102 => t2 | 103 => t3 | 104 => t4 | 105 => t5 | 106 => t6 | 107 => t7 | 108 => b | _ => 0, rfl, rfl, rfl, rfl, rfl, rfl, rfl, rfl, rfl⟩
  have hT : Tx ad (fun q : Nat => s.heap.size ≤ q) (M0 L xs) s s.heap := by
    refine ⟨fun i hi => ?_, fun i hi => ?_⟩
    · match i, hi with
      | 0, _ => show va_T .int (ad 100) _ _ _ _ _; rw [a0]; exact T0
      | 1, _ => show va_T .int (ad 101) _ _ _ _ _; rw [a1]; exact T1
      | 2, _ => show va_T .int (ad 102) _ _ _ _ _; rw [a2]; exact T2
      | 3, _ => show va_T .int (ad 103) _ _ _ _ _; rw [a3]; exact T3
      | 4, _ => show va_T .int (ad 104) _ _ _ _ _; rw [a4]; exact T4
      | 5, _ => show va_T .int (ad 105) _ _ _ _ _; rw [a5]; exact T5
      | 6, _ => show va_T .int (ad 106) _ _ _ _ _; rw [a6]; exact T6
      | 7, _ => show va_T .int (ad 107) _ _ _ _ _; rw [a7]; exact T7
      | 8, _ =>
        show va_T .int (ad 108) (nI L).toNatClampNeg (fun j => .int (xs j)) _ _ _
        rw [a8, nI_clamp (by omega)]
        obtain ⟨scr, x1, x2, x3, x4, x5⟩ := hX
        exact ⟨scr, x1, x2, x3, by omega, (by rw [x4]), x5, hA b hbl⟩
      | i + 9, h => omega
    · match i, hi with
      | 0, _ => show va_Z RX6 (sN 0) "[I" (.ref (ad 100)) _ _ _; rw [a0]; exact Z0
      | 1, _ => show va_Z RX6 (sN 1) "[I" (.ref (ad 101)) _ _ _; rw [a1]; exact Z1
      | 2, _ => show va_Z RX6 (sN 2) "[I" (.ref (ad 102)) _ _ _; rw [a2]; exact Z2
      | 3, _ => show va_Z RX6 (sN 3) "[I" (.ref (ad 103)) _ _ _; rw [a3]; exact Z3
      | 4, _ => show va_Z RX6 (sN 4) "[I" (.ref (ad 104)) _ _ _; rw [a4]; exact Z4
      | 5, _ => show va_Z RX6 (sN 5) "[I" (.ref (ad 105)) _ _ _; rw [a5]; exact Z5
      | 6, _ => show va_Z RX6 (sN 6) "[I" (.ref (ad 106)) _ _ _; rw [a6]; exact Z6
      | 7, _ => show va_Z RX6 (sN 7) "[I" (.ref (ad 107)) _ _ _; rw [a7]; exact Z7
      | i + 8, h => omega
  have hl := lv_entry ([Value.ref b]) (n := 4) (Nat.le_of_ble_eq_true rfl)
  rw [lg_entry_eq]
  generalize (lg_sl ([Value.ref b]) ++ List.replicate (4 - (lg_sl ([Value.ref b])).length) Slot.unset).toArray = ls at hl ⊢
  have hl2 : lv_has ls 4 (lvO ad 0 [.ref (100 + 8), .null, .null, .null]) := by
    refine ⟨hl.1, hl.2.1, fun q hq => hl.2.2 q ?_⟩
    have h1 : lvO ad 0 [.ref (100 + 8), .null, .null, .null] = [(0, .ref (ad 108))] := rfl
    rw [h1, a8] at hq
    exact hq
  have hC : Cx p room_1 s m #[Value.ref b] meth c mL_law := ⟨hx, hb, hml, hown, fun w hw => hts w (List.mem_filter.mp hw).1, fun w hw => ?_, hname, by decide, by decide⟩
  · have hW : Wx false D cI cB ad 0 (fun q : Nat => s.heap.size ≤ q) (M0 L xs) s s.heap [] := ⟨hK, fun k q h => by simp [wsO] at h, ⟨fun i j p q h => by simp [wsO] at h, fun k q h => by simp [wsO] at h⟩, va_S.rf, fun _ h => h, fun k j ci h => absurd h (Nat.not_lt_zero _), by omega, fun h => (by cases h), hT⟩
    refine law_ex L xs hpure p l e room_1 s m _ below meth c D cI cB ad _ s.heap [] 0 0 600000 7302249 (lw_Z below #[Value.ref b] s) ls hC hW hl2 (by decide) (by decide) (Nat.le_refl _) (Nat.le_refl _) ?_
    intro ad' M' H' locs' v pc' ls' ha hq hW' hdc hnar
    subst hq
    refine va_forget hW'.2.2.2.1.2.2 ?_
    exact lw_ret hx hb hr hlocks hdc
  · have h1 := hts w (List.mem_filter.mp hw).1
    have h2 := (List.mem_filter.mp hw).2
    cases w <;> first | exact va_Nw.of rfl h1 | (cases h2)
