section LayBar
variable {M0 M : Mem} {S : Mus} {c r m : Nat} {row : Nat → Int} {mk sg : Nat → Int} {L : List Int} {st : Option Int} {Q : Int32 → Mem → Prop} {wd : Int}
theorem RWT_01 {M : Mem} (h : RWT M st) : M 46 27 = 0 ∨ M 46 27 = 1 := by
  cases st with
  | none => exact Or.inr h
  | some p => exact Or.inl h.1
theorem x_voiceL {b v : Nat} {st1 : Option Int} {B29 : Int32 → Int32 → Mem → Prop} (hB : PB M0 S mk sg) (h : PS M0 M L st1) (hl : L.length ≤ 100000) (hb : b < gNb S) (hvv : v < gVo S b) (hQ : ∀ M' : Mem, PS M0 M' (L ++ voL S mk (sg (3 * b + v)) (gFo S (3 * b + v)) st1 (gSz S (3 * b + v))) (voS S (gFo S (3 * b + v)) st1 (gSz S (3 * b + v))) → B29 (zI b) (zI ((v + 1 : Nat) : Int)) M') : ∃ k, w_X7_layBar_65 Q B29 k (zI b) (zI v) (-1) 0 M := by
  have hv := hB.2.2.1
  have hni := hv.2.2.2.1
  have hnb := hv.2.2.1
  have hb3 := hv.2.2.2.2.1 b hb
  obtain ⟨hr1, hr2, hr3⟩ := hv.2.2.2.2.2.2.1 b v hb hvv
  have hsg := hB.2.2.2.2.2 b v hb hvv
  have hGV := hB.2.2.2.1
  generalize hs : 3 * b + v = s at *
  refine ⟨gNi S + 1, ?_⟩
  have key : ∀ (k i n : Nat) (la : Int) (Mx : Mem), i ≤ gNi S → gNi S - i < k → (i ≤ gFo S s → n = 0) → (gFo S s ≤ i → i ≤ gFo S s + gSz S s → n = i - gFo S s) → (gFo S s + gSz S s ≤ i → n = gSz S s) → (n = 0 → la = -1) → (0 < n → la = gIt S (gFo S s + n - 1) 5) → PS M0 Mx (L ++ voL S mk (sg s) (gFo S s) st1 n) (voS S (gFo S s) st1 n) → w_X7_layBar_65 Q B29 k (zI b) (zI v) (zI la) (zI i) Mx := by
    intro k
    induction k with
    | zero => intro i n la Mx g1 g2; omega
    | succ k ih =>
      intro i n la Mx hi hk n1 n2 n3 l1 l2 hx
      show wb_X7_layBar_65 Q B29 (w_X7_layBar_65 Q B29 k) _ _ _ _ Mx
      unfold wb_X7_layBar_65
      have e54 : Mx 54 (Int32.toNatClampNeg 0) = zI (gNi S) := by rw [hx.1 54 (by omega) (by omega)]; exact hB.1.2.1
      have nx : zI (i : Int) + 1 = zI ((i + 1 : Nat) : Int) := by rw [lz1, zI_add]; rfl
      rw [e54, zI_le (by omega) (by omega) (by omega) (by omega)]
      refine ⟨vi0, fun q x10 e10 => ?_, fun q => ?_⟩
      · have e10' : x10 = zI ((v + 1 : Nat) : Int) := by rw [e10, lz1, zI_add]; rfl
        subst e10'
        have : n = gSz S s := n3 (by omega)
        subst this
        exact hQ Mx hx
      · have hi2 : i < gNi S := by omega
        obtain ⟨w0, w1, -, -, -, w5, w6, -, -, w9, -⟩ := hv.2.2.2.2.2.1 i hi2
        have g3 : gVo S (gIt S i 0).toNat ≤ 3 := hv.2.2.2.2.1 _ (by omega)
        have e58 : Mx 58 i = zI (gIt S i 0) := PS_at hB hx hi2 (a := 0) (by omega)
        have e59 : Mx 59 i = zI (gIt S i 1) := PS_at hB hx hi2 (a := 1) (by omega)
        have e63 : Mx 63 i = zI (gIt S i 5) := PS_at hB hx hi2 (a := 5) (by omega)
        have hin := hr3 i hi2
        have skip : ¬ (gFo S s ≤ i ∧ i < gFo S s + gSz S s) → w_X7_layBar_65 Q B29 k (zI b) (zI v) (zI la) (zI ((i + 1 : Nat) : Int)) Mx := fun hno => ih (i + 1) n la Mx (by omega) (by omega) (fun z => n1 (by omega)) (fun z1 z2 => by
          rcases Nat.lt_or_ge i (gFo S s) with g | g
          · have := n1 (by omega); omega
          · omega) (fun z => by
          rcases Nat.lt_or_ge i (gFo S s) with g | g
          · have := n1 (by omega); omega
          · exact n3 (by omega)) l1 l2 hx
        rw [zI_in (by omega) (by omega), zI_tn (by omega) (by omega), tn_nat, e58, e59, e63, zI_eq (by omega) (by omega) (by omega) (by omega), zI_eq (by omega) (by omega) (by omega) (by omega), nx]
        refine ⟨by omega, fun g x12 e12 => ?_, fun g => ⟨by omega, fun g2 x14 e14 => ?_, fun g2 => ?_⟩⟩
        · rw [e12]; exact skip (fun z => g (hin.mpr z).1)
        · rw [e14]; exact skip (fun z => g2 (hin.mpr z).2)
        · obtain ⟨in1, in2⟩ := hin.mp ⟨g, g2⟩
          have hn : n = i - gFo S s := n2 in1 (by omega)
          have hin' : gFo S s + n = i := by omega
          have vl := voL_len (mk := mk) (g := sg s) (st := st1) hv n (f0 := gFo S s) (by omega)
          have hz0 := (hGV.2.2.1 i hi2).1
          have e75 : Mx 75 s = zI (sg s) := by rw [hx.1 75 (by omega) (by omega)]; exact hsg.1
          have bla : -1 ≤ la ∧ la ≤ 2 := by
            rcases Nat.eq_zero_or_pos n with z | z
            · rw [l1 z]; omega
            · rw [l2 z]
              obtain ⟨-, -, -, -, -, w5', -⟩ := hv.2.2.2.2.2.1 (gFo S s + n - 1) (by omega)
              exact w5'
          have evo : voL S mk (sg s) (gFo S s) st1 (n + 1) = voL S mk (sg s) (gFo S s) st1 n ++ (if sg s = 1 ∧ (n = 0 ∨ ¬ gIt S (gFo S s + n) 5 = gIt S (gFo S s + n - 1) 5) then szC (gIt S (gFo S s + n) 5) else []) ++ itC S (mk (gFo S s + n)) (gFo S s + n) (voS S (gFo S s) st1 n) := rfl
          have evs : voS S (gFo S s) st1 (n + 1) = nst S (gFo S s + n) (voS S (gFo S s) st1 n) := rfl
          rw [hin'] at evo evs
          have item : ∀ (L2 : List Int) (My : Mem), L2.length ≤ 200000 → PS M0 My L2 (voS S (gFo S s) st1 n) → L2 ++ itC S (mk i) i (voS S (gFo S s) st1 n) = L ++ voL S mk (sg s) (gFo S s) st1 (n + 1) → w_X7_layBar_155 Q B29 (w_X7_layBar_65 Q B29 k) (zI b) (zI v) (zI la) (zI i) My := by
            intro L2 My hl2 hy he
            have e63' : My 63 i = zI (gIt S i 5) := PS_at hB hy hi2 (a := 5) (by omega)
            unfold w_X7_layBar_155
            rw [zI_in (by omega) (by omega), zI_tn (by omega) (by omega), tn_nat, e63']
            refine ⟨by omega, fun x17 e17 => x_layItem hB hy hl2 hi2 (fun M' h' x20 e20 => ?_)⟩
            rw [e17, e20, nx]
            refine ih (i + 1) (n + 1) (gIt S i 5) M' (by omega) (by omega) (fun z => by omega) (fun z1 z2 => by omega) (fun z => by omega) (fun z => by omega) (fun _ => by rw [show gFo S s + (n + 1) - 1 = i by omega]) ?_
            rw [evs, ← he]
            exact h'
          rw [lz3, zI_mul, zI_add, zI_in (by omega) (by omega), zI_tn (by omega) (by omega), show (3 * (b : Int) + (v : Int)).toNat = s by omega, e75, zI_eq (by omega) (by omega) (by omega) (by omega)]
          have k1 : zI (sg s) = 1 ↔ sg s = 1 := by rw [lz1, zI_eq (by omega) (by omega) (by omega) (by omega)]
          rw [k1]
          refine ⟨by omega, fun g4 => ?_, fun g4 => ⟨by omega, fun g5 => ?_, fun g5 => ⟨by omega, fun z23 e23 => ?_⟩⟩⟩
          · refine item _ Mx (by simp only [List.length_append]; omega) hx ?_
            rw [evo, if_neg (fun z => g4 z.1), List.append_nil, List.append_assoc]
          · refine item _ Mx (by simp only [List.length_append]; omega) hx ?_
            have hpos : 0 < n := by
              rcases Nat.eq_zero_or_pos n with z | z
              · have := l1 z; omega
              · exact z
            rw [evo, if_neg (fun z => by
              rcases z.2 with z | z
              · omega
              · rw [l2 hpos] at g5
                rw [hin'] at g5
                exact z g5), List.append_nil, List.append_assoc]
          · have hyes : sg s = 1 ∧ (n = 0 ∨ ¬ gIt S i 5 = gIt S (i - 1) 5) := by
              refine ⟨g4, ?_⟩
              rcases Nat.eq_zero_or_pos n with z | z
              · exact Or.inl z
              · refine Or.inr ?_
                rw [l2 z, hin'] at g5
                exact g5
            rw [if_pos hyes] at evo
            have k2 : zI (gIt S i 5) = 0 ↔ gIt S i 5 = 0 := by rw [lz0, zI_eq (by omega) (by omega) (by omega) (by omega)]
            simp only [k2] at e23
            have e23' : z23 = zI (if gIt S i 5 = 0 then 24 else 32) := by
              rw [e23]
              by_cases z : gIt S i 5 = 0
              · rw [if_pos z, if_pos z]; rfl
              · rw [if_neg z, if_neg z]; rfl
            subst e23'
            rw [lz35, lz2]
            refine x_lay hx (by simp only [List.length_append]; omega) (fun M1 h1 => x_lay h1 (by simp only [List.length_append, List.length_cons, List.length_nil]; omega) (fun M2 h2 => x_lay h2 (by simp only [List.length_append, List.length_cons, List.length_nil]; omega) (fun M3 h3 => item _ M3 (by simp only [List.length_append, List.length_cons, List.length_nil]; omega) h3 ?_)))
            rw [evo]
            simp only [List.append_assoc]
            rfl
  have := key (gNi S + 1) 0 0 (-1) M (by omega) (by omega) (fun _ => rfl) (fun _ _ => by omega) (fun z => by omega) (fun _ => rfl) (fun z => by omega) (by show PS M0 M (L ++ []) st1; rw [List.append_nil]; exact h)
  rw [ln1]
  exact this
theorem x_layBar {b : Nat} (hB : PB M S mk sg) (hw : RWT M st) (hb : b < gNb S) (hQ : ∀ M' : Mem, PS M M' (barL S mk sg b st) (entS S (b + 1) (baS S b st (gVo S b))) → Q 0 M') : w_X7_layBar (zI b) M Q := by
  have hv := hB.2.2.1
  have hnb := hv.2.2.1
  have hb3 := hv.2.2.2.2.1 b hb
  unfold w_X7_layBar
  intro M1 e1
  have h1 : PS M M1 [] st := ⟨fun k g1 g2 => by rw [e1, mset_o g1], fun j g1 g2 g3 => by rw [e1, mset_j g3], ⟨by rw [e1, mset_at]; rfl, fun j hj => absurd hj (Nat.not_lt_zero j)⟩, RWT_of hw (by rw [e1, mset_j (by omega)]) (by rw [e1, mset_j (by omega)])⟩
  have e56 : M1 56 b = zI (if gVo S b = 0 then 1 else 0) := by
    rw [h1.1 56 (by omega) (by omega)]
    have := (hB.1.2.2.2.1 b hb).2
    rw [show 60 * 0 + b = b by omega] at this
    exact this
  have k1 : zI (if gVo S b = 0 then 1 else 0) = 1 ↔ gVo S b = 0 := by
    by_cases g : gVo S b = 0
    · rw [if_pos g]; exact ⟨fun _ => g, fun _ => rfl⟩
    · rw [if_neg g]; exact ⟨fun z => absurd z (by decide +kernel), fun z => absurd z g⟩
  have fresh : ∀ (My M' : Mem) (Lx : List Int) (sx : Option Int), PS M My Lx sx → M' = mset My 46 27 1 → PS M M' Lx none := fun My M' Lx sx hy e => ⟨fun k g1 g2 => by rw [e, mset_o g1]; exact hy.1 k g1 g2, fun j g1 g2 g3 => by rw [e, mset_j g1]; exact hy.2.1 j g1 g2 g3, ⟨by rw [e, mset_j (by omega)]; exact hy.2.2.1.1, fun j j1 j2 => by rw [e, mset_o (by omega)]; exact hy.2.2.1.2 j j1 j2⟩, by show M' 46 27 = 1; rw [e, mset_at]⟩
  rw [zI_in (by omega) (by omega), zI_tn (by omega) (by omega), tn_nat, e56, k1]
  refine ⟨by omega, fun q => ⟨gVo S b + 1, ?_⟩, fun q => ?_⟩
  · have key : ∀ (k v : Nat) (Mx : Mem), v ≤ gVo S b → gVo S b - v < k → PS M Mx (baL S mk sg b st v) (baS S b st v) → w_X7_layBar_29 Q k (zI b) (zI v) Mx := by
      intro k
      induction k with
      | zero => intro v Mx g1 g2; omega
      | succ k ih =>
        intro v Mx hv2 hk hx
        have bl := baL_len (mk := mk) (sg := sg) (st := st) hv hb v hv2
        have e57 : Mx 57 b = zI (gVo S b) := by
          rw [hx.1 57 (by omega) (by omega)]
          have := (hB.1.2.2.2.1 b hb).1
          rw [show 60 * 0 + b = b by omega] at this
          exact this
        show wb_X7_layBar_29 Q (w_X7_layBar_29 Q k) _ _ Mx
        unfold wb_X7_layBar_29
        have k0 : zI (v : Int) ≤ 0 ↔ v = 0 := by rw [lz0, zI_le (by omega) (by omega) (by omega) (by omega)]; omega
        have k2 : zI (gVo S b : Int) ≤ 1 ↔ gVo S b ≤ 1 := by rw [lz1, zI_le (by omega) (by omega) (by omega) (by omega)]; omega
        rw [zI_in (by omega) (by omega), zI_tn (by omega) (by omega), tn_nat, e57, zI_le (by omega) (by omega) (by omega) (by omega), k0]
        simp only [k2]
        refine ⟨by omega, fun g => ⟨by omega, fun z5 e5 => ?_⟩, fun g => ⟨fun g2 => ?_, fun g2 => ?_⟩⟩
        · have : v = gVo S b := by omega
          subst this
          have h01 := RWT_01 hx.2.2.2
          have unf : barL S mk sg b st = baL S mk sg b st (gVo S b) := by
            unfold barL
            rw [if_neg q, List.nil_append]
          by_cases g3 : gVo S b ≤ 1
          · rw [if_pos g3] at e5
            have eor : Mx 46 27 ||| z5 = Mx 46 27 := by
              rw [e5]
              rcases h01 with z | z
              · rw [z]; decide +kernel
              · rw [z]; decide +kernel
            rw [eor]
            refine ⟨h01, fun M7 e7 => hQ M7 ?_⟩
            rw [unf, show entS S (b + 1) (baS S b st (gVo S b)) = baS S b st (gVo S b) from if_pos ⟨by omega, by rw [show b + 1 - 1 = b by omega]; omega⟩]
            have same : ∀ a j : Nat, M7 a j = Mx a j := fun a j => by
              rw [e7, mset_g]
              by_cases z : a = 46 ∧ j = 27
              · rw [if_pos z, z.1, z.2]
              · rw [if_neg z]
            have e77 : M7 = Mx := by
              funext a j
              exact same a j
            rw [e77]
            exact hx
          · rw [if_neg g3] at e5
            have eor : Mx 46 27 ||| z5 = 1 := by
              rw [e5]
              rcases h01 with z | z
              · rw [z]; decide +kernel
              · rw [z]; decide +kernel
            rw [eor]
            refine ⟨Or.inr rfl, fun M7 e7 => hQ M7 ?_⟩
            rw [unf, show entS S (b + 1) (baS S b st (gVo S b)) = none from if_neg (by rw [show b + 1 - 1 = b by omega]; omega)]
            exact fresh Mx M7 _ _ hx e7
        · subst g2
          refine x_voiceL hB hx (by show 0 ≤ 100000; omega) hb (by omega) (fun M' h' => ih 1 M' (by omega) (by omega) ?_)
          show PS M M' ([] ++ [] ++ voL S mk (sg (3 * b + 0)) (gFo S (3 * b + 0)) (inS 0 st) (gSz S (3 * b + 0))) _
          rw [List.nil_append, List.nil_append]
          exact h'
        · rw [lz35, lz28]
          refine x_lay hx (by omega) (fun M2 h2 => x_lay h2 (by simp only [List.length_append, List.length_cons, List.length_nil]; omega) (fun M3 h3 M4 e4 => ?_))
          have h4 := fresh M3 M4 _ _ h3 e4
          refine x_voiceL hB h4 (by simp only [List.length_append, List.length_cons, List.length_nil]; omega) hb (by omega) (fun M' h' => ih (v + 1) M' (by omega) (by omega) ?_)
          show PS M M' (baL S mk sg b st v ++ (if v = 0 then [] else [35, 28]) ++ voL S mk (sg (3 * b + v)) (gFo S (3 * b + v)) (inS v st) (gSz S (3 * b + v))) (voS S (gFo S (3 * b + v)) (inS v st) (gSz S (3 * b + v)))
          rw [if_neg g2, show inS v st = none from if_neg g2, ← app2]
          exact h'
    exact key _ 0 M1 (by omega) (by omega) h1
  · rw [lz54]
    refine x_lay h1 (by show 0 ≤ 900000; omega) (fun M2 h2 M38 e38 => hQ M38 ?_)
    rw [show barL S mk sg b st = [54] by unfold barL; rw [q]; rfl, show entS S (b + 1) (baS S b st (gVo S b)) = none from if_neg (by rw [show b + 1 - 1 = b by omega]; omega)]
    exact fresh M2 M38 _ _ h2 e38
end LayBar
