def lw_nst : Cond → Bool
  | .methodLinkNest _ _ _ _ => true
  | .fieldLinkNest _ _ _ _ _ _ => true
  | _ => false
/-! THE PURE PICTURE: places 0 .. 77 (78 .. a method's own new rows), 100 .. 108 tables that nobody writes; a memory of ints -/
abbrev Mem : Type := Nat → Nat → Int32
abbrev Mt : Type := MethodName × ByteArray × Nat × Option FieldType × Nat × Nat
def mset (M : Mem) (k j : Nat) (x : Int32) : Mem := fun a => if a = k then upd (M k) j x else M a
def mrow (M : Mem) (k : Nat) (f : Nat → Int32) : Mem := fun a => if a = k then f else M a
/-- a place's shape: 0 a row of ints, 1 of booleans, c + 2 an object of class c; how many -/
def shp : List (Nat × Nat) := [(8, 7), (4, 2), (0, 4000), (4, 2), (0, 4000), (2, 18), (0, 60), (0, 180), (0, 180), (0, 600), (0, 600), (0, 600), (0, 600), (0, 600), (0, 600), (0, 600), (0, 600), (0, 600), (0, 600), (0, 2400), (2, 18), (0, 60), (0, 180), (0, 180), (0, 600), (0, 600), (0, 600), (0, 600), (0, 600), (0, 600), (0, 600), (0, 600), (0, 600), (0, 600), (0, 2400), (7, 5), (0, 40), (0, 40), (0, 11234), (0, 137), (5, 7), (3, 2), (6, 6), (3, 2), (0, 600), (1, 180), (9, 40), (0, 7), (0, 4), (0, 4), (0, 7), (0, 7), (0, 4000), (0, 2), (0, 2), (0, 2), (0, 120), (0, 120), (0, 1200), (0, 1200), (0, 1200), (0, 1200), (0, 1200), (0, 1200), (0, 1200), (0, 1200), (0, 1200), (0, 1200), (0, 4800), (0, 163920), (0, 40), (0, 40), (0, 600), (0, 600), (0, 600), (0, 180), (0, 4000), (0, 4000)]
def S0 (k : Nat) : Nat × Nat := shp.getD k (0, 11)
abbrev clO : List vw_C := [(RX0, TX0, 18), (RX1, TX1, 2), (RX2, TX2, 2), (RX3, TX3, 7), (RX4, TX4, 6), (RX5, TX5, 5), (RX6, TX6, 7), (RX7, TX7, 40)]
def tyC (ci : Nat) : Nat → FieldType := match ci with
  | 0 => tyX0
  | 1 => tyX1
  | 2 => tyX2
  | 3 => tyX3
  | 4 => tyX4
  | 5 => tyX5
  | 6 => tyX6
  | _ => tyX7
def rfq (ci j : Nat) : Bool := match tyC ci j with
  | .int => false
  | .boolean => false
  | _ => true
/-- the places that final fields name (0: no such) -/
def frs : List (List Nat) := [[0, 0, 0, 0, 35, 40, 42], [2, 0], [], [4, 0], [], [0, 0, 0, 0, 6, 7, 8, 9, 10, 11, 12, 13, 14, 15, 16, 17, 18, 19], [], [], [], [], [], [], [], [], [], [], [], [], [], [], [0, 0, 0, 0, 21, 22, 23, 24, 25, 26, 27, 28, 29, 30, 31, 32, 33, 34], [], [], [], [], [], [], [], [], [], [], [], [], [], [], [36, 37, 0, 38, 39], [], [], [], [], [35, 41, 0, 0, 0, 0, 0], [], [35, 43, 44, 45, 0, 0], [], [], [], [47, 48, 49, 50, 51, 52, 0, 0, 53, 54, 55, 56, 57, 58, 59, 60, 61, 62, 63, 64, 65, 66, 67, 68, 0, 0, 0, 0, 0, 69, 70, 71, 72, 73, 74, 75, 76, 0, 77, 0]]
def FR (k j : Nat) : Nat := (frs.getD k []).getD j 0
def rn (ad : Nat → Nat) : Value → Value
  | .ref k => .ref (ad k)
  | v => v
def encF (ph : Bool) (ad : Nat → Nat) (k ci j : Nat) (x : Int32) : Value :=
  if rfq ci j then (if ph && !(FR k j == 0) then .ref (ad (FR k j)) else if x < 0 then .null else .ref (ad x.toNatClampNeg)) else .int x
def cellE (ph : Bool) (cI cB : ClassId) (ad : Nat → Nat) (k : Nat) (m : Nat → Int32) : va_E := match (S0 k).1 with
  | 0 => .inl (cI, (S0 k).2, .inl m)
  | 1 => .inl (cB, (S0 k).2, .inl m)
  | ci + 2 => .inr (ci, (List.range (S0 k).2).map (fun j => encF ph ad k ci j (m j)))
def wsO (ph : Bool) (cI cB : ClassId) (ad : Nat → Nat) (n : Nat) (M : Mem) : va_W := (List.range n).map (fun k => (ad k, cellE ph cI cB ad k (M k)))
theorem wsO_at {ph : Bool} {cI cB : ClassId} {ad : Nat → Nat} {n k : Nat} {M : Mem} (h : k < n) : (wsO ph cI cB ad n M)[k]? = some (ad k, cellE ph cI cB ad k (M k)) := by
  simp [wsO, h]
theorem wsO_set {ph : Bool} {cI cB : ClassId} {ad : Nat → Nat} {n k : Nat} {M M' : Mem} (ho : ∀ a, a ≠ k → M' a = M a) : (wsO ph cI cB ad n M).set k (ad k, cellE ph cI cB ad k (M' k)) = wsO ph cI cB ad n M' := by
  apply List.ext_getElem?
  intro i
  rw [List.getElem?_set]
  by_cases hi : k = i
  · subst hi
    by_cases hk : k < n
    · simp [wsO, hk]
    · simp [wsO, hk]
  · rw [if_neg hi]
    by_cases hk : i < n
    · rw [wsO_at hk, wsO_at hk, ho i (Ne.symm hi)]
    · simp [wsO, hk]
/-- refs in fields point to places that are -/
def wfM (ph : Bool) (n : Nat) (M : Mem) : Prop := ∀ k j ci : Nat, k < n → (S0 k).1 = ci + 2 → j < (S0 k).2 → rfq ci j = true → ¬ M k j < 0 → (M k j).toNatClampNeg < if ph then 78 else n
theorem FR_lt : ∀ k j : Nat, FR k j < 78 := by
  have h : ∀ l ∈ frs, ∀ v ∈ l, v < 78 := by decide +kernel
  intro k j
  unfold FR
  rw [List.getD_eq_getElem?_getD, List.getD_eq_getElem?_getD]
  cases hk : frs[k]? with
  | none => simp
  | some l =>
    simp only [Option.getD_some]
    cases hj : l[j]? with
    | none => simp
    | some v => exact h l (List.mem_of_getElem? hk) v (List.mem_of_getElem? hj)
theorem wsO_ad {ph : Bool} {cI cB : ClassId} {ad ad' : Nat → Nat} {n : Nat} {M : Mem} (hw : wfM ph n M) (hn : ph = true → 78 ≤ n) (ha : ∀ k, k < n → ad' k = ad k) : wsO ph cI cB ad' n M = wsO ph cI cB ad n M := by
  apply List.map_congr_left
  intro k hk
  have hk : k < n := List.mem_range.mp hk
  rw [ha k hk]
  congr 1
  unfold cellE
  split
  · rfl
  · rfl
  · rename_i ci hci
    congr 2
    apply List.map_congr_left
    intro j hj
    have hj := List.mem_range.mp hj
    unfold encF
    by_cases hr : rfq ci j = true
    · rw [if_pos hr, if_pos hr]
      by_cases hp : (ph && !(FR k j == 0)) = true
      · rw [if_pos hp, if_pos hp]
        have h1 : ph = true := by
          cases ph <;> simp_all
        rw [ha _ (Nat.lt_of_lt_of_le (FR_lt k j) (hn h1))]
      · rw [if_neg hp, if_neg hp]
        by_cases hx : M k j < 0
        · rw [if_pos hx, if_pos hx]
        · rw [if_neg hx, if_neg hx, ha _ ?_]
          have h9 := hw k j ci hk hci hj hr hx
          cases ph
          · simpa using h9
          · exact Nat.lt_of_lt_of_le (by simpa using h9) (hn rfl)
    · rw [if_neg hr, if_neg hr]
def gwT : List Cond := lw_tbl.filter goodWord
def nwT : List Cond := lw_tbl.filter lw_nst
def sN (i : Nat) : String := match i with
  | 0 => "STEP_CELLS"
  | 1 => "KIND_CELLS"
  | 2 => "REST_CELLS"
  | 3 => "OCTAVE_CELLS"
  | 4 => "SIGN_CELLS"
  | 5 => "INTERVAL_CELLS"
  | 6 => "KIND_LENGTHS"
  | _ => "DOT_TIMES"
/-- the tables: eight statics, and the script; their lengths stand at place 110 -/
def Tx (ad : Nat → Nat) (A : Nat → Prop) (M : Mem) (s : State) (H : Heap) : Prop :=
  (∀ i, i < 9 → va_T .int (ad (100 + i)) (M 110 i).toNatClampNeg (fun j => .int (M (100 + i) j)) A s H) ∧ ∀ i, i < 8 → va_Z RX6 (sN i) "[I" (.ref (ad (100 + i))) A s H
def Wx (ph : Bool) (D : va_G) (cI cB : ClassId) (ad : Nat → Nat) (n : Nat) (A : Nat → Prop) (M : Mem) (s : State) (H : Heap) (locs : List Loc) : Prop :=
  va_K D clO [(cI, .int), (cB, .boolean)] s ∧ va_P D clO (wsO ph cI cB ad n M) H ∧ va_D A (wsO ph cI cB ad n M) ∧ va_S A s.heap H locs ∧ (∀ q, s.heap.size ≤ q → A q) ∧ wfM ph n M ∧ n ≤ 100 ∧ (ph = true → 78 ≤ n) ∧ Tx ad A M s s.heap
def Cx (p : Program) (R : Room) (s : State) (m : MethodId) (args : Array Value) (meth : Method) (c : Code) (y : Mt) : Prop :=
  p.tables.exec = Jvm.exec ∧ c.code = y.2.1 ∧ c.maxLocals = y.2.2.1 ∧ s.vm.findClass y.1.cls = some m.cls ∧ (∀ w ∈ gwT, w.before args s = true) ∧ (∀ w ∈ nwT, va_Nw w s) ∧ meth.name = y.1.name ∧ y.2.2.2.2.1 ≤ R.frames ∧ y.2.2.2.2.2 ≤ R.locals
def nul : Value → Bool
  | .null => true
  | _ => false
def lvO (ad : Nat → Nat) : Nat → List Value → List (Nat × Value)
  | _, [] => []
  | i, v :: vs => if nul v then lvO ad (i + 1) vs else (i, rn ad v) :: lvO ad (i + 1) vs
theorem lvO_mem {ad : Nat → Nat} {q : Nat × Value} : ∀ {L : List Value} {i : Nat}, q ∈ lvO ad i L ↔ ∃ j v, L[j]? = some v ∧ nul v = false ∧ q = (i + j, rn ad v)
  | [], i => by simp [lvO]
  | v :: vs, i => by
    have ih := lvO_mem (ad := ad) (q := q) (L := vs) (i := i + 1)
    unfold lvO
    constructor
    · intro h
      by_cases hn : nul v = true
      · rw [if_pos hn] at h
        obtain ⟨j, w, h1, h2, h3⟩ := ih.mp h
        exact ⟨j + 1, w, by simpa using h1, h2, by rw [h3]; congr 1; omega⟩
      · rw [if_neg hn] at h
        rcases List.mem_cons.mp h with h | h
        · exact ⟨0, v, rfl, by simpa using hn, h⟩
        · obtain ⟨j, w, h1, h2, h3⟩ := ih.mp h
          exact ⟨j + 1, w, by simpa using h1, h2, by rw [h3]; congr 1; omega⟩
    · rintro ⟨j, w, h1, h2, h3⟩
      cases j with
      | zero =>
        simp at h1
        subst h1
        rw [if_neg (by simp [h2])]
        exact List.mem_cons.mpr (Or.inl h3)
      | succ j =>
        have : q ∈ lvO ad (i + 1) vs := ih.mpr ⟨j, w, by simpa using h1, h2, by rw [h3]; congr 1; omega⟩
        by_cases hn : nul v = true
        · rw [if_pos hn]; exact this
        · rw [if_neg hn]; exact List.mem_cons_of_mem _ this
theorem lvO_at {ad : Nat → Nat} {ls : Array Slot} {nL i : Nat} {L : List Value} {v : Value} (h : lv_has ls nL (lvO ad 0 L)) (hi : L[i]? = some v) (hn : nul v = false) : ls[i]? = some (.val (rn ad v)) := by
  have := h.2.2 (i, rn ad v) (lvO_mem.mpr ⟨i, v, hi, hn, by simp⟩)
  exact this
/-- at i - 1 stands no long -/
def nlg (L : List Value) (i : Nat) : Bool := match i with
  | 0 => true
  | i + 1 => match L[i]? with
    | some v => !(v.category == 2)
    | none => true
theorem rn_cat {ad : Nat → Nat} (v : Value) : (rn ad v).category = v.category := by cases v <;> rfl
theorem lvO_set {ad : Nat → Nat} {ls : Array Slot} {nL i : Nat} {L : List Value} {v : Value} (hg : nlg L i = true) (h : lv_has ls nL ((i, rn ad v) :: (lvO ad 0 L).filter (fun q => !(q.1 == i) && !(q.1 + 1 == i && q.2.category == 2)))) : lv_has ls nL (lvO ad 0 (L.set i v)) := by
  refine ⟨h.1, h.2.1, fun q hq => h.2.2 q ?_⟩
  obtain ⟨j, w, h1, h2, h3⟩ := lvO_mem.mp hq
  simp only [Nat.zero_add] at h3
  rw [List.getElem?_set] at h1
  by_cases hj : i = j
  · subst hj
    rw [if_pos rfl] at h1
    by_cases hl : i < L.length
    · rw [if_pos hl] at h1
      cases h1
      exact List.mem_cons.mpr (Or.inl h3)
    · rw [if_neg hl] at h1
      cases h1
  · rw [if_neg hj] at h1
    refine List.mem_cons_of_mem _ (List.mem_filter.mpr ⟨lvO_mem.mpr ⟨j, w, h1, h2, by simpa using h3⟩, ?_⟩)
    subst h3
    simp only [Bool.and_eq_true, Bool.not_eq_true', beq_eq_false_iff_ne, ne_eq, Bool.and_eq_false_iff]
    refine ⟨fun e => hj e.symm, ?_⟩
    by_cases he : j + 1 = i
    · right
      subst he
      simp only [nlg, h1] at hg
      rw [rn_cat]
      simpa using hg
    · left
      simpa using he
def retI (y : Mt) : Instr := match y.2.2.2.1 with
  | none => .return_
  | some _ => .ireturn
def retS (y : Mt) (v : Int32) : List Value := match y.2.2.2.1 with
  | none => []
  | some _ => [.int v]
def narO (y : Mt) (v : Int32) : Prop := match y.2.2.2.1 with
  | none => True
  | some ty => narrow ty (.int v) = .int v
/-- THE JUDGEMENT: method y at pc, with locals L, stack st, memory M and n places, comes to its return with Q, nR places then -/
def Ex (ph : Bool) (y : Mt) (nR n kc ks pc : Nat) (L st : List Value) (M : Mem) (Q : Int32 → Mem → Prop) : Prop :=
  ∀ (p : Program) (l : Launch) (e : Env) (R : Room) (s : State) (m : MethodId) (args : Array Value) (below : List Frame) (meth : Method) (c : Code) (D : va_G) (cI cB : ClassId) (ad : Nat → Nat) (A : Nat → Prop) (H : Heap) (locs : List Loc) (cells slots KC KS : Nat) (Z : State → Prop) (ls : Array Slot),
    Cx p R s m args meth c y → Wx ph D cI cB ad n A M s H locs → lv_has ls y.2.2.1 (lvO ad 0 L) → cells + kc ≤ KC → slots + ks ≤ KS → KC ≤ R.cells → KS ≤ R.slots →
    (∀ (ad' : Nat → Nat) (M' : Mem) (H' : Heap) (locs' : List Loc) (v : Int32) (pc' : Nat) (ls' : Array Slot), (∀ k, k < n ∨ 100 ≤ k → ad' k = ad k) → Q v M' → Wx ph D cI cB ad' nR A M' s H' locs' → decode y.2.1 pc' = .ok (retI y, 1) → narO y v → W p l e R s m args below meth c H' locs' KC KS Z (F0 m pc' ls' (retS y v))) →
    W p l e R s m args below meth c H locs cells slots Z (F0 m pc ls (st.map (rn ad)))
