theorem wsO_push {ph : Bool} {cI cB : ClassId} {ad : Nat → Nat} {n q : Nat} {M : Mem} {f : Nat → Int32} (hw : wfM ph n M) (hn : ph = true → 78 ≤ n) : wsO ph cI cB (fun k => if k = n then q else ad k) (n + 1) (mrow M n f) = wsO ph cI cB ad n M ++ [(q, cellE ph cI cB (fun k => if k = n then q else ad k) n f)] := by
  have h1 := wsO_ad (cI := cI) (cB := cB) (ad := ad) (ad' := fun k => if k = n then q else ad k) hw hn (fun k hk => if_neg (by omega))
  rw [← h1]
  unfold wsO
  rw [List.range_succ, List.map_append]
  congr 1
  · apply List.map_congr_left
    intro k hk
    have hk := List.mem_range.mp hk
    rw [mrow_o (by omega)]
  · simp [mrow_k]
section Make
variable {ph : Bool} {y : Mt} {nR n kc ks pc : Nat} {L st : List Value} {M : Mem} {Q : Int32 → Mem → Prop}
theorem wf_push {f : Nat → Int32} (hw : wfM ph n M) (hf : ∀ j ci : Nat, (S0 n).1 = ci + 2 → j < (S0 n).2 → rfq ci j = true → f j < 0) : wfM ph (n + 1) (mrow M n f) := by
  intro k j ci q1 q2 q3 q4 q5
  by_cases e : k = n
  · subst e
    rw [mrow_k] at q5
    exact absurd (hf j ci q2 q3 q4) q5
  · rw [mrow_o e] at q5 ⊢
    have := hw k j ci (by omega) q2 q3 q4 q5
    cases ph
    · simp at this ⊢
      omega
    · simpa using this
/-- a new cell at place n -/
theorem push_go {p : Program} {l : Launch} {e : Env} {R : Room} {s : State} {m : MethodId} {args : Array Value} {below : List Frame} {meth : Method} {c : Code} {D : va_G} {cI cB : ClassId} {ad : Nat → Nat} {A : Nat → Prop} {H H1 : Heap} {locs : List Loc} {cells slots KC KS len d q : Nat} {Z : State → Prop} {ls : Array Slot} {f : Nat → Int32} {E : va_E}
    (C : Cx p R s m args meth c y) (Wd : Wx ph D cI cB ad n A M s H locs) (hl : lv_has ls y.2.2.1 (lvO ad 0 L)) (h1 : cells + (kc + 1) ≤ KC) (h2 : slots + (ks + len) ≤ KS) (h3 : KC ≤ R.cells) (h4 : KS ≤ R.slots)
    (hZ : ∀ (ad' : Nat → Nat) (M' : Mem) (H' : Heap) (locs' : List Loc) (v : Int32) (pc' : Nat) (ls' : Array Slot), (∀ k, k < n ∨ 100 ≤ k → ad' k = ad k) → Q v M' → Wx ph D cI cB ad' nR A M' s H' locs' → decode y.2.1 pc' = .ok (retI y, 1) → narO y v → W p l e R s m args below meth c H' locs' KC KS Z (F0 m pc' ls' (retS y v)))
    (hn : n < 100) (hok : (L ++ st).all (okv n) = true) (hf : ∀ j ci : Nat, (S0 n).1 = ci + 2 → j < (S0 n).2 → rfq ci j = true → f j < 0) (hE : cellE ph cI cB (fun k => if k = n then q else ad k) n f = E)
    (g1 : va_P D clO (wsO ph cI cB ad n M ++ [(q, E)]) H1) (g2 : va_D A (wsO ph cI cB ad n M ++ [(q, E)])) (g3 : va_S A s.heap H1 locs)
    (kk : Ex ph y nR (n + 1) kc ks (pc + d) L (.ref n :: st) (mrow M n f) Q) : W p l e R s m args below meth c H1 locs (cells + 1) (slots + len) Z (F0 m (pc + d) ls (.ref q :: st.map (rn ad))) := by
  rw [← hE, ← wsO_push Wd.2.2.2.2.2.1 Wd.2.2.2.2.2.2.2.1] at g1 g2
  rw [List.all_append, Bool.and_eq_true] at hok
  have ha : ∀ k, k < n ∨ 100 ≤ k → (fun k => if k = n then q else ad k) k = ad k := fun k hk => if_neg (by omega)
  have := kk p l e R s m args below meth c D cI cB (fun k => if k = n then q else ad k) A H1 locs (cells + 1) (slots + len) KC KS Z ls C ⟨Wd.1, g1, g2, g3, Wd.2.2.2.2.1, wf_push Wd.2.2.2.2.2.1 hf, by omega, fun h => by have := Wd.2.2.2.2.2.2.2.1 h; omega, ?_⟩ (by rw [lvO_ok ha hok.1]; exact hl) (by omega) (by omega) h3 h4 (fun ad2 M2 H2 locs2 v2 pc2 ls2 q1 q2 q3 q4 q5 => hZ ad2 M2 H2 locs2 v2 pc2 ls2 (fun k hk => (q1 k (by omega)).trans (ha k hk)) q2 q3 q4 q5)
  · rw [List.map_cons, map_ok ha hok.2] at this
    simpa [rn] using this
  · have hT := Tx_same (M' := mrow M n f) Wd.2.2.2.2.2.2.2.2 (fun a h => mrow_o (by omega))
    refine ⟨fun i hi => ?_, fun i hi => ?_⟩
    · rw [ha (100 + i) (by omega)]
      exact hT.1 i hi
    · rw [ha (100 + i) (by omega)]
      exact hT.2 i hi
theorem one_class {D : va_G} {s : State} {cI cB cA : ClassId} {ty : FieldType} (i : Nat) (hty : ty = .int ∨ ty = .boolean) (h : va_K D clO ([(cI, .int), (cB, .boolean)] ++ [(cA, ty)]) s) (hi : [(cI, FieldType.int), (cB, FieldType.boolean)][i]? = some (if ty = .int then cI else cB, ty)) : cA = if ty = .int then cI else cB := by
  have a1 := (h.2 2 (cA, ty) rfl).2
  have a2 := (h.2 i (if ty = .int then cI else cB, ty) (by
    match i, hi with
    | 0, hi => exact hi
    | 1, hi => exact hi
    | i + 2, hi => simp at hi)).2
  rcases hty with rfl | rfl
  · exact Option.some.inj (Eq.trans (Eq.symm a1) a2)
  · exact Option.some.inj (Eq.trans (Eq.symm a1) a2)
theorem ex_newI {len : Nat} {x : Int32} (hd : decode y.2.1 pc = .ok (.newarray .int, 2)) (hS : S0 n = (0, len)) (hx : ¬ x < 0) (hx2 : x.toNatClampNeg = len) (hb : len * 4 ≤ 536870912) (hw : Cond.arrayClass .int ∈ gwT) (hn : n < 100) (hok : (L ++ st).all (okv n) = true) (kk : Ex ph y nR (n + 1) kc ks (pc + 2) L (.ref n :: st) (mrow M n (fun _ => 0)) Q) : Ex ph y nR n (kc + 1) (ks + len) pc L (.int x :: st) M Q := by
  intro p l e R s m args below meth c D cI cB ad A H locs cells slots KC KS Z ls C Wd hl h1 h2 h3 h4 hZ
  refine va_newa (a0 := (len, .inl (fun _ => 0))) C.1 C.2.1 (atype := .int) (C.2.2.2.2.1 _ hw) rfl Wd.1 Wd.2.1 Wd.2.2.1 Wd.2.2.2.1 Wd.2.2.2.2.1 (fun cA => rfl) hx hx2 hb (by omega) (by omega) hd (fun q cA H1 gK g1 g2 g3 => ?_)
  have hc : cA = cI := one_class 0 (Or.inl rfl) gK rfl
  subst hc
  exact push_go C Wd hl h1 h2 h3 h4 hZ hn hok (fun j ci h => by rw [hS] at h; simp only at h; omega) (by rw [cell_row hS]) g1 g2 g3 kk
theorem ex_newZ {len : Nat} {x : Int32} (hd : decode y.2.1 pc = .ok (.newarray .boolean, 2)) (hS : S0 n = (1, len)) (hx : ¬ x < 0) (hx2 : x.toNatClampNeg = len) (hb : len * 1 ≤ 536870912) (hw : Cond.arrayClass .boolean ∈ gwT) (hn : n < 100) (hok : (L ++ st).all (okv n) = true) (kk : Ex ph y nR (n + 1) kc ks (pc + 2) L (.ref n :: st) (mrow M n (fun _ => 0)) Q) : Ex ph y nR n (kc + 1) (ks + len) pc L (.int x :: st) M Q := by
  intro p l e R s m args below meth c D cI cB ad A H locs cells slots KC KS Z ls C Wd hl h1 h2 h3 h4 hZ
  refine va_newa (a0 := (len, .inl (fun _ => 0))) C.1 C.2.1 (atype := .boolean) (C.2.2.2.2.1 _ hw) rfl Wd.1 Wd.2.1 Wd.2.2.1 Wd.2.2.2.1 Wd.2.2.2.2.1 (fun cA => rfl) hx hx2 hb (by omega) (by omega) hd (fun q cA H1 gK g1 g2 g3 => ?_)
  have hc : cA = cB := one_class 1 (Or.inr rfl) gK rfl
  subst hc
  exact push_go C Wd hl h1 h2 h3 h4 hZ hn hok (fun j ci h => by rw [hS] at h; simp only at h; omega) (by rw [cell_brow hS]) g1 g2 g3 kk
theorem C_def0 : ((List.range 8).all (fun ci => (List.range (NC ci)).all (fun j => decide (defaultValue (tyC ci j) = if rfq ci j then .null else .int 0)))) = true := by decide +kernel
theorem ex_new {idx ci : Nat} (hd : decode y.2.1 pc = .ok (.new idx, 3)) (hS : S0 n = (ci + 2, NC ci)) (hci : ci < 8) (hlk : Cond.classLink y.1.cls idx (nmC ci) ∈ gwT ∧ Cond.instantiable (nmC ci) (NC ci) ∈ gwT ∧ Cond.initialized (nmC ci) ∈ gwT) (hn : n < 100) (hok : (L ++ st).all (okv n) = true) (kk : Ex false y nR (n + 1) kc ks (pc + 3) L (.ref n :: st) (mrow M n (fun j => if rfq ci j then -1 else 0)) Q) : Ex false y nR n (kc + 1) (ks + NC ci) pc L st M Q := by
  intro p l e R s m args below meth c D cI cB ad A H locs cells slots KC KS Z ls C Wd hl h1 h2 h3 h4 hZ
  refine va_new (ci := ci) (fs := (List.range (NC ci)).map (fun j => if rfq ci j then .null else .int 0)) C.1 C.2.1 C.2.2.2.2.1 (C_in ci hci) (tyC ci) (C_ty ci hci) C.2.2.2.1 (C.2.2.2.2.1 _ hlk.1) (C.2.2.2.2.1 _ hlk.2.1) (C.2.2.2.2.1 _ hlk.2.2) Wd.1 Wd.2.1 Wd.2.2.1 Wd.2.2.2.1 Wd.2.2.2.2.1 (C_cl ci hci) (fun j hj => ?_) (by omega) (by omega) hd (fun q H1 g1 g2 g3 => ?_)
  · have := of_decide_eq_true (List.all_eq_true.mp (List.all_eq_true.mp C_def0 ci (List.mem_range.mpr hci)) j (List.mem_range.mpr hj))
    rw [this]
    simp [vp_V, List.getD_eq_getElem?_getD, hj]
  · refine push_go (f := fun j => if rfq ci j then -1 else 0) C Wd hl h1 h2 h3 h4 hZ hn hok (fun j c2 h hj hr => ?_) ?_ g1 g2 g3 kk
    · have : c2 = ci := by
        rw [hS] at h
        simp only at h
        omega
      subst this
      simp only [hr, if_true]
      decide
    · rw [cell_obj hS]
      congr 2
      apply List.map_congr_left
      intro j hj
      unfold encF
      by_cases hr : rfq ci j = true
      · simp only [hr, if_true, Bool.false_and, Bool.false_eq_true, if_false]
        rw [if_pos (by decide)]
      · simp only [hr, if_false, Bool.false_eq_true]
theorem ex_max {idx : Nat} {a b : Int32} (hd : decode y.2.1 pc = .ok (.invokestatic idx, 3)) (hlk : Cond.methodLink y.1.cls idx Lib.Math.max.name ∈ gwT ∧ Cond.static Lib.Math.max.name ∈ gwT ∧ Cond.initialized "java/lang/Math" ∈ gwT ∧ Cond.code Lib.Math.max.name Lib.Math.max.code 2 (some .int) ∈ gwT) (hfr : 1 ≤ y.2.2.2.2.1) (hlo : (st.map fun v => v.category).sum + 13 ≤ y.2.2.2.2.2) (kk : Ex ph y nR n kc ks (pc + 3) L (.int (if a < b then b else a) :: st) M Q) : Ex ph y nR n kc ks pc L (.int b :: .int a :: st) M Q := by
  intro p l e R s m args below meth c D cI cB ad A H locs cells slots KC KS Z ls C Wd hl h1 h2 h3 h4 hZ
  exact va_mmax C.1 C.2.1 (C.2.2.1.trans hl.1.symm) C.2.2.2.1 (C.2.2.2.2.1 _ hlk.1) (C.2.2.2.2.1 _ hlk.2.1) (C.2.2.2.2.1 _ hlk.2.2.1) (C.2.2.2.2.1 _ hlk.2.2.2) (Nat.le_trans hfr C.2.2.2.2.2.2.2.1) (by rw [cat_map]; exact Nat.le_trans hlo C.2.2.2.2.2.2.2.2) (by omega) (by omega) hd (kk p l e R s m args below meth c D cI cB ad A H locs cells slots KC KS Z ls C Wd hl h1 h2 h3 h4 hZ)
theorem ex_min {idx : Nat} {a b : Int32} (hd : decode y.2.1 pc = .ok (.invokestatic idx, 3)) (hlk : Cond.methodLink y.1.cls idx Lib.Math.min.name ∈ gwT ∧ Cond.static Lib.Math.min.name ∈ gwT ∧ Cond.initialized "java/lang/Math" ∈ gwT ∧ Cond.code Lib.Math.min.name Lib.Math.min.code 2 (some .int) ∈ gwT) (hfr : 1 ≤ y.2.2.2.2.1) (hlo : (st.map fun v => v.category).sum + 13 ≤ y.2.2.2.2.2) (kk : Ex ph y nR n kc ks (pc + 3) L (.int (if b < a then b else a) :: st) M Q) : Ex ph y nR n kc ks pc L (.int b :: .int a :: st) M Q := by
  intro p l e R s m args below meth c D cI cB ad A H locs cells slots KC KS Z ls C Wd hl h1 h2 h3 h4 hZ
  exact va_mmin C.1 C.2.1 (C.2.2.1.trans hl.1.symm) C.2.2.2.1 (C.2.2.2.2.1 _ hlk.1) (C.2.2.2.2.1 _ hlk.2.1) (C.2.2.2.2.1 _ hlk.2.2.1) (C.2.2.2.2.1 _ hlk.2.2.2) (Nat.le_trans hfr C.2.2.2.2.2.2.2.1) (by rw [cat_map]; exact Nat.le_trans hlo C.2.2.2.2.2.2.2.2) (by omega) (by omega) hd (kk p l e R s m args below meth c D cI cB ad A H locs cells slots KC KS Z ls C Wd hl h1 h2 h3 h4 hZ)
theorem ex_abs {idx : Nat} {a : Int32} (hd : decode y.2.1 pc = .ok (.invokestatic idx, 3)) (hlk : Cond.methodLink y.1.cls idx Lib.Math.abs.name ∈ gwT ∧ Cond.static Lib.Math.abs.name ∈ gwT ∧ Cond.initialized "java/lang/Math" ∈ gwT ∧ Cond.code Lib.Math.abs.name Lib.Math.abs.code 1 (some .int) ∈ gwT) (hfr : 1 ≤ y.2.2.2.2.1) (hlo : (st.map fun v => v.category).sum + 13 ≤ y.2.2.2.2.2) (kk : Ex ph y nR n kc ks (pc + 3) L (.int (if 0 ≤ a then a else 0 - a) :: st) M Q) : Ex ph y nR n kc ks pc L (.int a :: st) M Q := by
  intro p l e R s m args below meth c D cI cB ad A H locs cells slots KC KS Z ls C Wd hl h1 h2 h3 h4 hZ
  exact va_mabs C.1 C.2.1 (C.2.2.1.trans hl.1.symm) C.2.2.2.1 (C.2.2.2.2.1 _ hlk.1) (C.2.2.2.2.1 _ hlk.2.1) (C.2.2.2.2.1 _ hlk.2.2.1) (C.2.2.2.2.1 _ hlk.2.2.2) (Nat.le_trans hfr C.2.2.2.2.2.2.2.1) (by rw [cat_map]; exact Nat.le_trans hlo C.2.2.2.2.2.2.2.2) (by omega) (by omega) hd (kk p l e R s m args below meth c D cI cB ad A H locs cells slots KC KS Z ls C Wd hl h1 h2 h3 h4 hZ)
end Make
