section Rows
variable {ph : Bool} {y : Mt} {nR n kc ks pc : Nat} {L st : List Value} {M : Mem} {Q : Int32 → Mem → Prop}
theorem ex_iconst {k : Int} {v : Int32} (hd : decode y.2.1 pc = .ok (.iconst k, 1)) (hv : Int32.ofInt k = v) (kk : Ex ph y nR n kc ks (pc + 1) L (.int v :: st) M Q) : Ex ph y nR n kc ks pc L st M Q := by
  intro p l e R s m args below meth c D cI cB ad A H locs cells slots KC KS Z ls C Wd hl h1 h2 h3 h4 hZ
  exact lv_iconst C.1 C.2.1 hd hv (kk p l e R s m args below meth c D cI cB ad A H locs cells slots KC KS Z ls C Wd hl h1 h2 h3 h4 hZ)
theorem ex_bipush {k : Int} {v : Int32} (hd : decode y.2.1 pc = .ok (.bipush k, 2)) (hv : (Int8.ofInt k).toInt32 = v) (kk : Ex ph y nR n kc ks (pc + 2) L (.int v :: st) M Q) : Ex ph y nR n kc ks pc L st M Q := by
  intro p l e R s m args below meth c D cI cB ad A H locs cells slots KC KS Z ls C Wd hl h1 h2 h3 h4 hZ
  exact lv_bipush C.1 C.2.1 hd hv (kk p l e R s m args below meth c D cI cB ad A H locs cells slots KC KS Z ls C Wd hl h1 h2 h3 h4 hZ)
theorem ex_sipush {k : Int} {v : Int32} (hd : decode y.2.1 pc = .ok (.sipush k, 3)) (hv : (Int16.ofInt k).toInt32 = v) (kk : Ex ph y nR n kc ks (pc + 3) L (.int v :: st) M Q) : Ex ph y nR n kc ks pc L st M Q := by
  intro p l e R s m args below meth c D cI cB ad A H locs cells slots KC KS Z ls C Wd hl h1 h2 h3 h4 hZ
  exact lv_sipush C.1 C.2.1 hd hv (kk p l e R s m args below meth c D cI cB ad A H locs cells slots KC KS Z ls C Wd hl h1 h2 h3 h4 hZ)
theorem ex_ldc {k : Nat} {v : Int32} (hd : decode y.2.1 pc = .ok (.ldc k, 2)) (hv : Cond.constant y.1.cls k v ∈ gwT) (kk : Ex ph y nR n kc ks (pc + 2) L (.int v :: st) M Q) : Ex ph y nR n kc ks pc L st M Q := by
  intro p l e R s m args below meth c D cI cB ad A H locs cells slots KC KS Z ls C Wd hl h1 h2 h3 h4 hZ
  exact lv_ldc C.1 C.2.1 C.2.2.2.1 (C.2.2.2.2.1 _ hv) hd (kk p l e R s m args below meth c D cI cB ad A H locs cells slots KC KS Z ls C Wd hl h1 h2 h3 h4 hZ)
theorem ex_ldc2 {k : Nat} {v : Int64} (hd : decode y.2.1 pc = .ok (.ldc2_w k, 3)) (hv : Cond.constantLong y.1.cls k v ∈ gwT) (kk : Ex ph y nR n kc ks (pc + 3) L (.long v :: st) M Q) : Ex ph y nR n kc ks pc L st M Q := by
  intro p l e R s m args below meth c D cI cB ad A H locs cells slots KC KS Z ls C Wd hl h1 h2 h3 h4 hZ
  exact lv_ldc2 C.1 C.2.1 C.2.2.2.1 (C.2.2.2.2.1 _ hv) hd (kk p l e R s m args below meth c D cI cB ad A H locs cells slots KC KS Z ls C Wd hl h1 h2 h3 h4 hZ)
theorem ex_iadd {a b : Int32} (hd : decode y.2.1 pc = .ok (.iadd, 1)) (kk : Ex ph y nR n kc ks (pc + 1) L (.int (a + b) :: st) M Q) : Ex ph y nR n kc ks pc L (.int b :: .int a :: st) M Q := by
  intro p l e R s m args below meth c D cI cB ad A H locs cells slots KC KS Z ls C Wd hl h1 h2 h3 h4 hZ
  exact lv_iadd C.1 C.2.1 hd (kk p l e R s m args below meth c D cI cB ad A H locs cells slots KC KS Z ls C Wd hl h1 h2 h3 h4 hZ)
theorem ex_isub {a b : Int32} (hd : decode y.2.1 pc = .ok (.isub, 1)) (kk : Ex ph y nR n kc ks (pc + 1) L (.int (a - b) :: st) M Q) : Ex ph y nR n kc ks pc L (.int b :: .int a :: st) M Q := by
  intro p l e R s m args below meth c D cI cB ad A H locs cells slots KC KS Z ls C Wd hl h1 h2 h3 h4 hZ
  exact lv_isub C.1 C.2.1 hd (kk p l e R s m args below meth c D cI cB ad A H locs cells slots KC KS Z ls C Wd hl h1 h2 h3 h4 hZ)
theorem ex_imul {a b : Int32} (hd : decode y.2.1 pc = .ok (.imul, 1)) (kk : Ex ph y nR n kc ks (pc + 1) L (.int (a * b) :: st) M Q) : Ex ph y nR n kc ks pc L (.int b :: .int a :: st) M Q := by
  intro p l e R s m args below meth c D cI cB ad A H locs cells slots KC KS Z ls C Wd hl h1 h2 h3 h4 hZ
  exact lv_imul C.1 C.2.1 hd (kk p l e R s m args below meth c D cI cB ad A H locs cells slots KC KS Z ls C Wd hl h1 h2 h3 h4 hZ)
theorem ex_iand {a b : Int32} (hd : decode y.2.1 pc = .ok (.iand, 1)) (kk : Ex ph y nR n kc ks (pc + 1) L (.int (a &&& b) :: st) M Q) : Ex ph y nR n kc ks pc L (.int b :: .int a :: st) M Q := by
  intro p l e R s m args below meth c D cI cB ad A H locs cells slots KC KS Z ls C Wd hl h1 h2 h3 h4 hZ
  exact lv_iand C.1 C.2.1 hd (kk p l e R s m args below meth c D cI cB ad A H locs cells slots KC KS Z ls C Wd hl h1 h2 h3 h4 hZ)
theorem ex_ior {a b : Int32} (hd : decode y.2.1 pc = .ok (.ior, 1)) (kk : Ex ph y nR n kc ks (pc + 1) L (.int (a ||| b) :: st) M Q) : Ex ph y nR n kc ks pc L (.int b :: .int a :: st) M Q := by
  intro p l e R s m args below meth c D cI cB ad A H locs cells slots KC KS Z ls C Wd hl h1 h2 h3 h4 hZ
  exact lv_ior C.1 C.2.1 hd (kk p l e R s m args below meth c D cI cB ad A H locs cells slots KC KS Z ls C Wd hl h1 h2 h3 h4 hZ)
theorem ex_ishr {a b : Int32} (hd : decode y.2.1 pc = .ok (.ishr, 1)) (kk : Ex ph y nR n kc ks (pc + 1) L (.int (a >>> (b &&& 31)) :: st) M Q) : Ex ph y nR n kc ks pc L (.int b :: .int a :: st) M Q := by
  intro p l e R s m args below meth c D cI cB ad A H locs cells slots KC KS Z ls C Wd hl h1 h2 h3 h4 hZ
  exact lv_ishr C.1 C.2.1 hd (kk p l e R s m args below meth c D cI cB ad A H locs cells slots KC KS Z ls C Wd hl h1 h2 h3 h4 hZ)
theorem ex_ishl {a b : Int32} (hd : decode y.2.1 pc = .ok (.ishl, 1)) (kk : Ex ph y nR n kc ks (pc + 1) L (.int (a <<< (b &&& 31)) :: st) M Q) : Ex ph y nR n kc ks pc L (.int b :: .int a :: st) M Q := by
  intro p l e R s m args below meth c D cI cB ad A H locs cells slots KC KS Z ls C Wd hl h1 h2 h3 h4 hZ
  exact lv_ishl C.1 C.2.1 hd (kk p l e R s m args below meth c D cI cB ad A H locs cells slots KC KS Z ls C Wd hl h1 h2 h3 h4 hZ)
theorem ex_idiv {a b : Int32} (hd : decode y.2.1 pc = .ok (.idiv, 1)) (hb : ¬ b = 0) (kk : Ex ph y nR n kc ks (pc + 1) L (.int (a / b) :: st) M Q) : Ex ph y nR n kc ks pc L (.int b :: .int a :: st) M Q := by
  intro p l e R s m args below meth c D cI cB ad A H locs cells slots KC KS Z ls C Wd hl h1 h2 h3 h4 hZ
  exact lv_idiv C.1 C.2.1 hd hb (kk p l e R s m args below meth c D cI cB ad A H locs cells slots KC KS Z ls C Wd hl h1 h2 h3 h4 hZ)
theorem ex_irem {a b : Int32} (hd : decode y.2.1 pc = .ok (.irem, 1)) (hb : ¬ b = 0) (kk : Ex ph y nR n kc ks (pc + 1) L (.int (a - a / b * b) :: st) M Q) : Ex ph y nR n kc ks pc L (.int b :: .int a :: st) M Q := by
  intro p l e R s m args below meth c D cI cB ad A H locs cells slots KC KS Z ls C Wd hl h1 h2 h3 h4 hZ
  exact lv_irem C.1 C.2.1 hd hb (kk p l e R s m args below meth c D cI cB ad A H locs cells slots KC KS Z ls C Wd hl h1 h2 h3 h4 hZ)
theorem ex_land {a b : Int64} (hd : decode y.2.1 pc = .ok (.land, 1)) (kk : Ex ph y nR n kc ks (pc + 1) L (.long (a &&& b) :: st) M Q) : Ex ph y nR n kc ks pc L (.long b :: .long a :: st) M Q := by
  intro p l e R s m args below meth c D cI cB ad A H locs cells slots KC KS Z ls C Wd hl h1 h2 h3 h4 hZ
  exact lv_land C.1 C.2.1 hd (kk p l e R s m args below meth c D cI cB ad A H locs cells slots KC KS Z ls C Wd hl h1 h2 h3 h4 hZ)
theorem ex_lor {a b : Int64} (hd : decode y.2.1 pc = .ok (.lor, 1)) (kk : Ex ph y nR n kc ks (pc + 1) L (.long (a ||| b) :: st) M Q) : Ex ph y nR n kc ks pc L (.long b :: .long a :: st) M Q := by
  intro p l e R s m args below meth c D cI cB ad A H locs cells slots KC KS Z ls C Wd hl h1 h2 h3 h4 hZ
  exact lv_lor C.1 C.2.1 hd (kk p l e R s m args below meth c D cI cB ad A H locs cells slots KC KS Z ls C Wd hl h1 h2 h3 h4 hZ)
theorem ex_lshr {a : Int64} {b : Int32} (hd : decode y.2.1 pc = .ok (.lshr, 1)) (kk : Ex ph y nR n kc ks (pc + 1) L (.long (a >>> (b.toInt64 &&& 63)) :: st) M Q) : Ex ph y nR n kc ks pc L (.int b :: .long a :: st) M Q := by
  intro p l e R s m args below meth c D cI cB ad A H locs cells slots KC KS Z ls C Wd hl h1 h2 h3 h4 hZ
  exact lv_lshr C.1 C.2.1 hd rfl (kk p l e R s m args below meth c D cI cB ad A H locs cells slots KC KS Z ls C Wd hl h1 h2 h3 h4 hZ)
theorem ex_lshl {a : Int64} {b : Int32} (hd : decode y.2.1 pc = .ok (.lshl, 1)) (kk : Ex ph y nR n kc ks (pc + 1) L (.long (a <<< (b.toInt64 &&& 63)) :: st) M Q) : Ex ph y nR n kc ks pc L (.int b :: .long a :: st) M Q := by
  intro p l e R s m args below meth c D cI cB ad A H locs cells slots KC KS Z ls C Wd hl h1 h2 h3 h4 hZ
  exact lv_lshl C.1 C.2.1 hd rfl (kk p l e R s m args below meth c D cI cB ad A H locs cells slots KC KS Z ls C Wd hl h1 h2 h3 h4 hZ)
theorem ex_lushr {a : Int64} {b : Int32} (hd : decode y.2.1 pc = .ok (.lushr, 1)) (kk : Ex ph y nR n kc ks (pc + 1) L (.long ((a.toUInt64 >>> (b.toInt64.toUInt64 &&& Int64.toUInt64 63)).toInt64) :: st) M Q) : Ex ph y nR n kc ks pc L (.int b :: .long a :: st) M Q := by
  intro p l e R s m args below meth c D cI cB ad A H locs cells slots KC KS Z ls C Wd hl h1 h2 h3 h4 hZ
  exact lv_lushr C.1 C.2.1 hd rfl (kk p l e R s m args below meth c D cI cB ad A H locs cells slots KC KS Z ls C Wd hl h1 h2 h3 h4 hZ)
theorem ex_i2l {a : Int32} (hd : decode y.2.1 pc = .ok (.i2l, 1)) (kk : Ex ph y nR n kc ks (pc + 1) L (.long a.toInt64 :: st) M Q) : Ex ph y nR n kc ks pc L (.int a :: st) M Q := by
  intro p l e R s m args below meth c D cI cB ad A H locs cells slots KC KS Z ls C Wd hl h1 h2 h3 h4 hZ
  exact lv_i2l C.1 C.2.1 hd rfl (kk p l e R s m args below meth c D cI cB ad A H locs cells slots KC KS Z ls C Wd hl h1 h2 h3 h4 hZ)
theorem ex_l2i {a : Int64} (hd : decode y.2.1 pc = .ok (.l2i, 1)) (kk : Ex ph y nR n kc ks (pc + 1) L (.int a.toInt32 :: st) M Q) : Ex ph y nR n kc ks pc L (.long a :: st) M Q := by
  intro p l e R s m args below meth c D cI cB ad A H locs cells slots KC KS Z ls C Wd hl h1 h2 h3 h4 hZ
  exact lv_l2i C.1 C.2.1 hd rfl (kk p l e R s m args below meth c D cI cB ad A H locs cells slots KC KS Z ls C Wd hl h1 h2 h3 h4 hZ)
theorem ex_dup {v : Value} (hd : decode y.2.1 pc = .ok (.dup, 1)) (hc : v.category = 1) (kk : Ex ph y nR n kc ks (pc + 1) L (v :: v :: st) M Q) : Ex ph y nR n kc ks pc L (v :: st) M Q := by
  intro p l e R s m args below meth c D cI cB ad A H locs cells slots KC KS Z ls C Wd hl h1 h2 h3 h4 hZ
  exact lv_dup C.1 C.2.1 hd ((rn_cat v).trans hc) (kk p l e R s m args below meth c D cI cB ad A H locs cells slots KC KS Z ls C Wd hl h1 h2 h3 h4 hZ)
theorem ex_pop {v : Value} (hd : decode y.2.1 pc = .ok (.pop, 1)) (hc : v.category = 1) (kk : Ex ph y nR n kc ks (pc + 1) L st M Q) : Ex ph y nR n kc ks pc L (v :: st) M Q := by
  intro p l e R s m args below meth c D cI cB ad A H locs cells slots KC KS Z ls C Wd hl h1 h2 h3 h4 hZ
  exact lv_pop C.1 C.2.1 hd ((rn_cat v).trans hc) (kk p l e R s m args below meth c D cI cB ad A H locs cells slots KC KS Z ls C Wd hl h1 h2 h3 h4 hZ)
theorem ex_dup2 {v w : Value} (hd : decode y.2.1 pc = .ok (.dup2, 1)) (hc : v.category = 1) (hc2 : w.category = 1) (kk : Ex ph y nR n kc ks (pc + 1) L (v :: w :: v :: w :: st) M Q) : Ex ph y nR n kc ks pc L (v :: w :: st) M Q := by
  intro p l e R s m args below meth c D cI cB ad A H locs cells slots KC KS Z ls C Wd hl h1 h2 h3 h4 hZ
  exact lv_dup2_11 C.1 C.2.1 hd ((rn_cat v).trans hc) ((rn_cat w).trans hc2) (kk p l e R s m args below meth c D cI cB ad A H locs cells slots KC KS Z ls C Wd hl h1 h2 h3 h4 hZ)
theorem ex_iload_n {k : Fin 4} {x : Int32} (hd : decode y.2.1 pc = .ok (.iload_n k, 1)) (hx : L[(k : Nat)]? = some (.int x)) (kk : Ex ph y nR n kc ks (pc + 1) L (.int x :: st) M Q) : Ex ph y nR n kc ks pc L st M Q := by
  intro p l e R s m args below meth c D cI cB ad A H locs cells slots KC KS Z ls C Wd hl h1 h2 h3 h4 hZ
  exact lv_iload_n C.1 C.2.1 hd rfl (lvO_at hl hx rfl) (kk p l e R s m args below meth c D cI cB ad A H locs cells slots KC KS Z ls C Wd hl h1 h2 h3 h4 hZ)
theorem ex_iload {k : Nat} {x : Int32} (hd : decode y.2.1 pc = .ok (.iload k, 2)) (hx : L[k]? = some (.int x)) (kk : Ex ph y nR n kc ks (pc + 2) L (.int x :: st) M Q) : Ex ph y nR n kc ks pc L st M Q := by
  intro p l e R s m args below meth c D cI cB ad A H locs cells slots KC KS Z ls C Wd hl h1 h2 h3 h4 hZ
  exact lv_iload C.1 C.2.1 hd (lvO_at hl hx rfl) (kk p l e R s m args below meth c D cI cB ad A H locs cells slots KC KS Z ls C Wd hl h1 h2 h3 h4 hZ)
theorem ex_istore_n {k : Fin 4} {x : Int32} {L2 : List Value} (hd : decode y.2.1 pc = .ok (.istore_n k, 1)) (hn : (k : Nat) < y.2.2.1) (hg : nlg L (k : Nat) = true) (hL : L.set (k : Nat) (.int x) = L2) (kk : Ex ph y nR n kc ks (pc + 1) L2 st M Q) : Ex ph y nR n kc ks pc L (.int x :: st) M Q := by
  subst hL
  intro p l e R s m args below meth c D cI cB ad A H locs cells slots KC KS Z ls C Wd hl h1 h2 h3 h4 hZ
  exact lv_istore_n C.1 C.2.1 hd rfl hl hn rfl (fun ls2 hl2 => kk p l e R s m args below meth c D cI cB ad A H locs cells slots KC KS Z ls2 C Wd (lvO_set (v := .int x) hg hl2) h1 h2 h3 h4 hZ)
theorem ex_istore {k : Nat} {x : Int32} {L2 : List Value} (hd : decode y.2.1 pc = .ok (.istore k, 2)) (hn : k < y.2.2.1) (hg : nlg L k = true) (hL : L.set k (.int x) = L2) (kk : Ex ph y nR n kc ks (pc + 2) L2 st M Q) : Ex ph y nR n kc ks pc L (.int x :: st) M Q := by
  subst hL
  intro p l e R s m args below meth c D cI cB ad A H locs cells slots KC KS Z ls C Wd hl h1 h2 h3 h4 hZ
  exact lv_istore C.1 C.2.1 hd hl hn rfl (fun ls2 hl2 => kk p l e R s m args below meth c D cI cB ad A H locs cells slots KC KS Z ls2 C Wd (lvO_set (v := .int x) hg hl2) h1 h2 h3 h4 hZ)
theorem ex_aload_n {k : Fin 4} {x : Nat} (hd : decode y.2.1 pc = .ok (.aload_n k, 1)) (hx : L[(k : Nat)]? = some (.ref x)) (kk : Ex ph y nR n kc ks (pc + 1) L (.ref x :: st) M Q) : Ex ph y nR n kc ks pc L st M Q := by
  intro p l e R s m args below meth c D cI cB ad A H locs cells slots KC KS Z ls C Wd hl h1 h2 h3 h4 hZ
  exact lv_aload_n C.1 C.2.1 hd rfl (lvO_at hl hx rfl) (kk p l e R s m args below meth c D cI cB ad A H locs cells slots KC KS Z ls C Wd hl h1 h2 h3 h4 hZ)
theorem ex_aload {k : Nat} {x : Nat} (hd : decode y.2.1 pc = .ok (.aload k, 2)) (hx : L[k]? = some (.ref x)) (kk : Ex ph y nR n kc ks (pc + 2) L (.ref x :: st) M Q) : Ex ph y nR n kc ks pc L st M Q := by
  intro p l e R s m args below meth c D cI cB ad A H locs cells slots KC KS Z ls C Wd hl h1 h2 h3 h4 hZ
  exact lv_aload C.1 C.2.1 hd (lvO_at hl hx rfl) (kk p l e R s m args below meth c D cI cB ad A H locs cells slots KC KS Z ls C Wd hl h1 h2 h3 h4 hZ)
theorem ex_astore_n {k : Fin 4} {x : Nat} {L2 : List Value} (hd : decode y.2.1 pc = .ok (.astore_n k, 1)) (hn : (k : Nat) < y.2.2.1) (hg : nlg L (k : Nat) = true) (hL : L.set (k : Nat) (.ref x) = L2) (kk : Ex ph y nR n kc ks (pc + 1) L2 st M Q) : Ex ph y nR n kc ks pc L (.ref x :: st) M Q := by
  subst hL
  intro p l e R s m args below meth c D cI cB ad A H locs cells slots KC KS Z ls C Wd hl h1 h2 h3 h4 hZ
  exact lv_astore_n C.1 C.2.1 hd rfl hl hn rfl (fun ls2 hl2 => kk p l e R s m args below meth c D cI cB ad A H locs cells slots KC KS Z ls2 C Wd (lvO_set (v := .ref x) hg hl2) h1 h2 h3 h4 hZ)
theorem ex_astore {k : Nat} {x : Nat} {L2 : List Value} (hd : decode y.2.1 pc = .ok (.astore k, 2)) (hn : k < y.2.2.1) (hg : nlg L k = true) (hL : L.set k (.ref x) = L2) (kk : Ex ph y nR n kc ks (pc + 2) L2 st M Q) : Ex ph y nR n kc ks pc L (.ref x :: st) M Q := by
  subst hL
  intro p l e R s m args below meth c D cI cB ad A H locs cells slots KC KS Z ls C Wd hl h1 h2 h3 h4 hZ
  exact lv_astore C.1 C.2.1 hd hl hn rfl (fun ls2 hl2 => kk p l e R s m args below meth c D cI cB ad A H locs cells slots KC KS Z ls2 C Wd (lvO_set (v := .ref x) hg hl2) h1 h2 h3 h4 hZ)
theorem ex_lload_n {k : Fin 4} {x : Int64} (hd : decode y.2.1 pc = .ok (.lload_n k, 1)) (hx : L[(k : Nat)]? = some (.long x)) (kk : Ex ph y nR n kc ks (pc + 1) L (.long x :: st) M Q) : Ex ph y nR n kc ks pc L st M Q := by
  intro p l e R s m args below meth c D cI cB ad A H locs cells slots KC KS Z ls C Wd hl h1 h2 h3 h4 hZ
  exact lv_lload_n C.1 C.2.1 hd rfl (lvO_at hl hx rfl) (kk p l e R s m args below meth c D cI cB ad A H locs cells slots KC KS Z ls C Wd hl h1 h2 h3 h4 hZ)
theorem ex_iinc {k : Nat} {d : Int} {x v : Int32} {L2 : List Value} (hd : decode y.2.1 pc = .ok (.iinc k d, 3)) (hx : L[k]? = some (.int x)) (hv : x + Int32.ofInt d = v) (hn : k < y.2.2.1) (hg : nlg L k = true) (hL : L.set k (.int v) = L2) (kk : Ex ph y nR n kc ks (pc + 3) L2 st M Q) : Ex ph y nR n kc ks pc L st M Q := by
  subst hL
  intro p l e R s m args below meth c D cI cB ad A H locs cells slots KC KS Z ls C Wd hl h1 h2 h3 h4 hZ
  obtain ⟨q, hq⟩ := List.getElem?_of_mem (lvO_mem.mpr ⟨k, .int x, hx, rfl, by simp; rfl⟩ : (k, Value.int x) ∈ lvO ad 0 L)
  exact lv_iinc C.1 C.2.1 hd hl hq hv hn rfl (fun ls2 hl2 => kk p l e R s m args below meth c D cI cB ad A H locs cells slots KC KS Z ls2 C Wd (lvO_set (v := .int v) hg hl2) h1 h2 h3 h4 hZ)
theorem ex_if_eq {x : Int32} {off : Int} {tgt : Nat} (hd : decode y.2.1 pc = .ok (.ifCond .eq off, 3)) (ht : (pc : Int) + off = (tgt : Int)) (kt : x = 0 → Ex ph y nR n kc ks tgt L st M Q) (kf : ¬ x = 0 → Ex ph y nR n kc ks (pc + 3) L st M Q) : Ex ph y nR n kc ks pc L (.int x :: st) M Q := by
  intro p l e R s m args below meth c D cI cB ad A H locs cells slots KC KS Z ls C Wd hl h1 h2 h3 h4 hZ
  exact lv_if_eq C.1 C.2.1 hd ht (fun h => kt h p l e R s m args below meth c D cI cB ad A H locs cells slots KC KS Z ls C Wd hl h1 h2 h3 h4 hZ) (fun h => kf h p l e R s m args below meth c D cI cB ad A H locs cells slots KC KS Z ls C Wd hl h1 h2 h3 h4 hZ)
theorem ex_icmp_eq {x y0 : Int32} {off : Int} {tgt : Nat} (hd : decode y.2.1 pc = .ok (.if_icmp .eq off, 3)) (ht : (pc : Int) + off = (tgt : Int)) (kt : x = y0 → Ex ph y nR n kc ks tgt L st M Q) (kf : ¬ x = y0 → Ex ph y nR n kc ks (pc + 3) L st M Q) : Ex ph y nR n kc ks pc L (.int y0 :: .int x :: st) M Q := by
  intro p l e R s m args below meth c D cI cB ad A H locs cells slots KC KS Z ls C Wd hl h1 h2 h3 h4 hZ
  exact lv_icmp_eq C.1 C.2.1 hd ht (fun h => kt h p l e R s m args below meth c D cI cB ad A H locs cells slots KC KS Z ls C Wd hl h1 h2 h3 h4 hZ) (fun h => kf h p l e R s m args below meth c D cI cB ad A H locs cells slots KC KS Z ls C Wd hl h1 h2 h3 h4 hZ)
theorem ex_if_ne {x : Int32} {off : Int} {tgt : Nat} (hd : decode y.2.1 pc = .ok (.ifCond .ne off, 3)) (ht : (pc : Int) + off = (tgt : Int)) (kt : ¬ x = 0 → Ex ph y nR n kc ks tgt L st M Q) (kf : x = 0 → Ex ph y nR n kc ks (pc + 3) L st M Q) : Ex ph y nR n kc ks pc L (.int x :: st) M Q := by
  intro p l e R s m args below meth c D cI cB ad A H locs cells slots KC KS Z ls C Wd hl h1 h2 h3 h4 hZ
  exact lv_if_ne C.1 C.2.1 hd ht (fun h => kt h p l e R s m args below meth c D cI cB ad A H locs cells slots KC KS Z ls C Wd hl h1 h2 h3 h4 hZ) (fun h => kf h p l e R s m args below meth c D cI cB ad A H locs cells slots KC KS Z ls C Wd hl h1 h2 h3 h4 hZ)
theorem ex_icmp_ne {x y0 : Int32} {off : Int} {tgt : Nat} (hd : decode y.2.1 pc = .ok (.if_icmp .ne off, 3)) (ht : (pc : Int) + off = (tgt : Int)) (kt : ¬ x = y0 → Ex ph y nR n kc ks tgt L st M Q) (kf : x = y0 → Ex ph y nR n kc ks (pc + 3) L st M Q) : Ex ph y nR n kc ks pc L (.int y0 :: .int x :: st) M Q := by
  intro p l e R s m args below meth c D cI cB ad A H locs cells slots KC KS Z ls C Wd hl h1 h2 h3 h4 hZ
  exact lv_icmp_ne C.1 C.2.1 hd ht (fun h => kt h p l e R s m args below meth c D cI cB ad A H locs cells slots KC KS Z ls C Wd hl h1 h2 h3 h4 hZ) (fun h => kf h p l e R s m args below meth c D cI cB ad A H locs cells slots KC KS Z ls C Wd hl h1 h2 h3 h4 hZ)
theorem ex_if_lt {x : Int32} {off : Int} {tgt : Nat} (hd : decode y.2.1 pc = .ok (.ifCond .lt off, 3)) (ht : (pc : Int) + off = (tgt : Int)) (kt : x < 0 → Ex ph y nR n kc ks tgt L st M Q) (kf : ¬ x < 0 → Ex ph y nR n kc ks (pc + 3) L st M Q) : Ex ph y nR n kc ks pc L (.int x :: st) M Q := by
  intro p l e R s m args below meth c D cI cB ad A H locs cells slots KC KS Z ls C Wd hl h1 h2 h3 h4 hZ
  exact lv_if_lt C.1 C.2.1 hd ht (fun h => kt h p l e R s m args below meth c D cI cB ad A H locs cells slots KC KS Z ls C Wd hl h1 h2 h3 h4 hZ) (fun h => kf h p l e R s m args below meth c D cI cB ad A H locs cells slots KC KS Z ls C Wd hl h1 h2 h3 h4 hZ)
theorem ex_icmp_lt {x y0 : Int32} {off : Int} {tgt : Nat} (hd : decode y.2.1 pc = .ok (.if_icmp .lt off, 3)) (ht : (pc : Int) + off = (tgt : Int)) (kt : x < y0 → Ex ph y nR n kc ks tgt L st M Q) (kf : ¬ x < y0 → Ex ph y nR n kc ks (pc + 3) L st M Q) : Ex ph y nR n kc ks pc L (.int y0 :: .int x :: st) M Q := by
  intro p l e R s m args below meth c D cI cB ad A H locs cells slots KC KS Z ls C Wd hl h1 h2 h3 h4 hZ
  exact lv_icmp_lt C.1 C.2.1 hd ht (fun h => kt h p l e R s m args below meth c D cI cB ad A H locs cells slots KC KS Z ls C Wd hl h1 h2 h3 h4 hZ) (fun h => kf h p l e R s m args below meth c D cI cB ad A H locs cells slots KC KS Z ls C Wd hl h1 h2 h3 h4 hZ)
theorem ex_if_ge {x : Int32} {off : Int} {tgt : Nat} (hd : decode y.2.1 pc = .ok (.ifCond .ge off, 3)) (ht : (pc : Int) + off = (tgt : Int)) (kt : 0 ≤ x → Ex ph y nR n kc ks tgt L st M Q) (kf : ¬ 0 ≤ x → Ex ph y nR n kc ks (pc + 3) L st M Q) : Ex ph y nR n kc ks pc L (.int x :: st) M Q := by
  intro p l e R s m args below meth c D cI cB ad A H locs cells slots KC KS Z ls C Wd hl h1 h2 h3 h4 hZ
  exact lv_if_ge C.1 C.2.1 hd ht (fun h => kt h p l e R s m args below meth c D cI cB ad A H locs cells slots KC KS Z ls C Wd hl h1 h2 h3 h4 hZ) (fun h => kf h p l e R s m args below meth c D cI cB ad A H locs cells slots KC KS Z ls C Wd hl h1 h2 h3 h4 hZ)
theorem ex_icmp_ge {x y0 : Int32} {off : Int} {tgt : Nat} (hd : decode y.2.1 pc = .ok (.if_icmp .ge off, 3)) (ht : (pc : Int) + off = (tgt : Int)) (kt : y0 ≤ x → Ex ph y nR n kc ks tgt L st M Q) (kf : ¬ y0 ≤ x → Ex ph y nR n kc ks (pc + 3) L st M Q) : Ex ph y nR n kc ks pc L (.int y0 :: .int x :: st) M Q := by
  intro p l e R s m args below meth c D cI cB ad A H locs cells slots KC KS Z ls C Wd hl h1 h2 h3 h4 hZ
  exact lv_icmp_ge C.1 C.2.1 hd ht (fun h => kt h p l e R s m args below meth c D cI cB ad A H locs cells slots KC KS Z ls C Wd hl h1 h2 h3 h4 hZ) (fun h => kf h p l e R s m args below meth c D cI cB ad A H locs cells slots KC KS Z ls C Wd hl h1 h2 h3 h4 hZ)
theorem ex_if_gt {x : Int32} {off : Int} {tgt : Nat} (hd : decode y.2.1 pc = .ok (.ifCond .gt off, 3)) (ht : (pc : Int) + off = (tgt : Int)) (kt : 0 < x → Ex ph y nR n kc ks tgt L st M Q) (kf : ¬ 0 < x → Ex ph y nR n kc ks (pc + 3) L st M Q) : Ex ph y nR n kc ks pc L (.int x :: st) M Q := by
  intro p l e R s m args below meth c D cI cB ad A H locs cells slots KC KS Z ls C Wd hl h1 h2 h3 h4 hZ
  exact lv_if_gt C.1 C.2.1 hd ht (fun h => kt h p l e R s m args below meth c D cI cB ad A H locs cells slots KC KS Z ls C Wd hl h1 h2 h3 h4 hZ) (fun h => kf h p l e R s m args below meth c D cI cB ad A H locs cells slots KC KS Z ls C Wd hl h1 h2 h3 h4 hZ)
theorem ex_icmp_gt {x y0 : Int32} {off : Int} {tgt : Nat} (hd : decode y.2.1 pc = .ok (.if_icmp .gt off, 3)) (ht : (pc : Int) + off = (tgt : Int)) (kt : y0 < x → Ex ph y nR n kc ks tgt L st M Q) (kf : ¬ y0 < x → Ex ph y nR n kc ks (pc + 3) L st M Q) : Ex ph y nR n kc ks pc L (.int y0 :: .int x :: st) M Q := by
  intro p l e R s m args below meth c D cI cB ad A H locs cells slots KC KS Z ls C Wd hl h1 h2 h3 h4 hZ
  exact lv_icmp_gt C.1 C.2.1 hd ht (fun h => kt h p l e R s m args below meth c D cI cB ad A H locs cells slots KC KS Z ls C Wd hl h1 h2 h3 h4 hZ) (fun h => kf h p l e R s m args below meth c D cI cB ad A H locs cells slots KC KS Z ls C Wd hl h1 h2 h3 h4 hZ)
theorem ex_if_le {x : Int32} {off : Int} {tgt : Nat} (hd : decode y.2.1 pc = .ok (.ifCond .le off, 3)) (ht : (pc : Int) + off = (tgt : Int)) (kt : x ≤ 0 → Ex ph y nR n kc ks tgt L st M Q) (kf : ¬ x ≤ 0 → Ex ph y nR n kc ks (pc + 3) L st M Q) : Ex ph y nR n kc ks pc L (.int x :: st) M Q := by
  intro p l e R s m args below meth c D cI cB ad A H locs cells slots KC KS Z ls C Wd hl h1 h2 h3 h4 hZ
  exact lv_if_le C.1 C.2.1 hd ht (fun h => kt h p l e R s m args below meth c D cI cB ad A H locs cells slots KC KS Z ls C Wd hl h1 h2 h3 h4 hZ) (fun h => kf h p l e R s m args below meth c D cI cB ad A H locs cells slots KC KS Z ls C Wd hl h1 h2 h3 h4 hZ)
theorem ex_icmp_le {x y0 : Int32} {off : Int} {tgt : Nat} (hd : decode y.2.1 pc = .ok (.if_icmp .le off, 3)) (ht : (pc : Int) + off = (tgt : Int)) (kt : x ≤ y0 → Ex ph y nR n kc ks tgt L st M Q) (kf : ¬ x ≤ y0 → Ex ph y nR n kc ks (pc + 3) L st M Q) : Ex ph y nR n kc ks pc L (.int y0 :: .int x :: st) M Q := by
  intro p l e R s m args below meth c D cI cB ad A H locs cells slots KC KS Z ls C Wd hl h1 h2 h3 h4 hZ
  exact lv_icmp_le C.1 C.2.1 hd ht (fun h => kt h p l e R s m args below meth c D cI cB ad A H locs cells slots KC KS Z ls C Wd hl h1 h2 h3 h4 hZ) (fun h => kf h p l e R s m args below meth c D cI cB ad A H locs cells slots KC KS Z ls C Wd hl h1 h2 h3 h4 hZ)
theorem ex_goto {off : Int} {tgt : Nat} (hd : decode y.2.1 pc = .ok (.goto off, 3)) (ht : (pc : Int) + off = (tgt : Int)) (kk : Ex ph y nR n kc ks tgt L st M Q) : Ex ph y nR n kc ks pc L st M Q := by
  intro p l e R s m args below meth c D cI cB ad A H locs cells slots KC KS Z ls C Wd hl h1 h2 h3 h4 hZ
  exact lv_goto C.1 C.2.1 hd ht (kk p l e R s m args below meth c D cI cB ad A H locs cells slots KC KS Z ls C Wd hl h1 h2 h3 h4 hZ)
theorem ex_tableOut {df lo hi : Int} {offs : Array Int} {len : Nat} {x : Int32} {tgt : Nat} (hd : decode y.2.1 pc = .ok (.tableswitch df lo hi offs, len)) (h : x.toInt < lo ∨ hi < x.toInt) (ht : (pc : Int) + df = (tgt : Int)) (kk : Ex ph y nR n kc ks tgt L st M Q) : Ex ph y nR n kc ks pc L (.int x :: st) M Q := by
  intro p l e R s m args below meth c D cI cB ad A H locs cells slots KC KS Z ls C Wd hl h1 h2 h3 h4 hZ
  exact lv_tableOut C.1 C.2.1 hd h ht (kk p l e R s m args below meth c D cI cB ad A H locs cells slots KC KS Z ls C Wd hl h1 h2 h3 h4 hZ)
theorem ex_tableIn {df lo hi : Int} {offs : Array Int} {len : Nat} {x : Int32} {off : Int} {tgt : Nat} (hd : decode y.2.1 pc = .ok (.tableswitch df lo hi offs, len)) (h1 : ¬ x.toInt < lo) (h2 : ¬ hi < x.toInt) (ho : offs[(x.toInt - lo).toNat]? = some off) (ht : (pc : Int) + off = (tgt : Int)) (kk : Ex ph y nR n kc ks tgt L st M Q) : Ex ph y nR n kc ks pc L (.int x :: st) M Q := by
  intro p l e R s m args below meth c D cI cB ad A H locs cells slots KC KS Z ls C Wd hl g1 g2 h3 h4 hZ
  exact lv_tableIn C.1 C.2.1 hd h1 h2 ho ht (kk p l e R s m args below meth c D cI cB ad A H locs cells slots KC KS Z ls C Wd hl g1 g2 h3 h4 hZ)
end Rows
