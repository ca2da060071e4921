section Slurs
variable {M0 M : Mem} {S : Mus} {Q : Int32 → Mem → Prop}
theorem ms_run (S : Mus) : ∀ (e j : Nat), (msS S e).1 ≤ j → j < e → (msS S e).2 j = 1
  | 0, j, _, h => by omega
  | e + 1, j, h1, h2 => by
    have em : msS S (e + 1) = if gIt S e 8 = 0 then (e + 1, if e - (msS S e).1 < 4 ∨ brk S (msS S e).1 (e - (msS S e).1) = true then (fun j => if j = e then 0 else (msS S e).2 j) else (fun j => if j = e then 3 else if j = (msS S e).1 then 2 else if (msS S e).1 ≤ j ∧ j < e then 0 else (msS S e).2 j)) else ((msS S e).1, fun j => if j = e then 1 else (msS S e).2 j) := rfl
    by_cases g : gIt S e 8 = 0
    · rw [if_pos g] at em
      rw [em] at h1
      have : e + 1 ≤ j := h1
      omega
    · rw [if_neg g] at em
      rw [em] at h1 ⊢
      show (if j = e then 1 else (msS S e).2 j) = 1
      by_cases g2 : j = e
      · rw [if_pos g2]
      · rw [if_neg g2]
        exact ms_run S e j h1 (by omega)
def MKR (M : Mem) (mk : Nat → Int) (i : Nat) : Prop := M 72 i = zI (one (mk i) 2) ∧ M 73 i = zI (one (mk i) 3) ∧ M 74 i = zI (one (mk i) 1)
def isI (b : Bool) : Int := if b = true then 1 else 0
theorem or01 {a b : Bool} : zI (isI a) ||| zI (isI b) = zI (isI (a || b)) := by
  cases a <;> cases b <;> decide +kernel
theorem x_slurs (hM : RM M 0 S) (hv : MV S) (hQ : ∀ M' : Mem, (∀ k : Nat, k ≠ 72 → k ≠ 73 → k ≠ 74 → M' k = M k) → (∀ j : Nat, j < gNi S → MKR M' (mkS S) j) → Q 0 M') : w_X7_slurs M Q := by
  have hni := hv.2.2.2.1
  have hnb := hv.2.2.1
  have e54 : ∀ Mx : Mem, (∀ k : Nat, k ≠ 72 → k ≠ 73 → k ≠ 74 → Mx k = M k) → Mx 54 (Int32.toNatClampNeg 0) = zI (gNi S) := fun Mx f => by
    rw [f 54 (by omega) (by omega) (by omega)]
    exact hM.2.1
  refine ⟨gNi S + 2, ?_⟩
  have em : ∀ e : Nat, msS S (e + 1) = if gIt S e 8 = 0 then (e + 1, if e - (msS S e).1 < 4 ∨ brk S (msS S e).1 (e - (msS S e).1) = true then (fun j => if j = e then 0 else (msS S e).2 j) else (fun j => if j = e then 3 else if j = (msS S e).1 then 2 else if (msS S e).1 ≤ j ∧ j < e then 0 else (msS S e).2 j)) else ((msS S e).1, fun j => if j = e then 1 else (msS S e).2 j) := fun _ => rfl
  have inner : ∀ (B2 : Int32 → Mem → Prop) (i : Nat), i < gNi S → (∀ (e : Nat) (My : Mem), i ≤ e → e < gNi S → (∀ k : Nat, k ≠ 72 → k ≠ 73 → k ≠ 74 → My k = M k) → (msS S (e + 1)).1 = e + 1 → (∀ j : Nat, j < e + 1 → MKR My (msS S (e + 1)).2 j) → B2 (zI ((e + 1 : Nat) : Int)) My) → (∀ My : Mem, (∀ k : Nat, k ≠ 72 → k ≠ 73 → k ≠ 74 → My k = M k) → (∀ j : Nat, j < gNi S → MKR My (msS S (gNi S)).2 j) → B2 (zI ((gNi S + 1 : Nat) : Int)) My) → ∀ (k e : Nat) (ap : Bool) (Mx : Mem), i ≤ e → e ≤ gNi S → gNi S - e < k → (∀ k : Nat, k ≠ 72 → k ≠ 73 → k ≠ 74 → Mx k = M k) → (msS S e).1 = i → (∀ j : Nat, j < e → MKR Mx (msS S e).2 j) → (e < gNi S → ap = brk S i (e - i)) → w_X7_slurs_16 Q B2 k (zI i) (zI e) (zI (isI ap)) Mx := by
    intro B2 i hi hB hB2 k
    induction k with
    | zero => intro e ap Mx g0 g1 g2; omega
    | succ k ih =>
      intro e ap Mx he0 he hk f1 fi f2 fa
      have apb : 0 ≤ isI ap ∧ isI ap ≤ 1 := by cases ap <;> decide
      show wb_X7_slurs_16 Q B2 (w_X7_slurs_16 Q B2 k) _ _ _ Mx
      unfold wb_X7_slurs_16
      rw [e54 Mx f1, zI_le (by omega) (by omega) (by omega) (by omega), zI_in (by omega) (by omega), zI_tn (by omega) (by omega), tn_nat, f1 66 (by omega) (by omega) (by omega), zI_in (by omega) (by omega)]
      -- the end of all items
      refine ⟨vi0, fun q => ?_, fun q => ?_⟩
      · have : e = gNi S := by omega
        subst this
        refine ⟨vi0, ?_⟩
        rw [e54 Mx f1, zI_le (by omega) (by omega) (by omega) (by omega)]
        refine ⟨fun _ => ⟨vi0, ?_⟩, fun z => absurd (Int.le_refl _) z⟩
        rw [e54 Mx f1, zI_le (by omega) (by omega) (by omega) (by omega)]
        refine ⟨fun _ x5 e5 => ?_, fun z => absurd (Int.le_refl _) z⟩
        have e5' : x5 = zI ((gNi S + 1 : Nat) : Int) := by rw [e5, lz1, zI_add]; rfl
        subst e5'
        exact hB2 Mx f1 f2
      · have he2 : e < gNi S := by omega
        obtain ⟨w0, w1, -, -, -, -, -, -, w8, -⟩ := hv.2.2.2.2.2.1 e he2
        have g3 : gVo S (gIt S e 0).toNat ≤ 3 := hv.2.2.2.2.1 _ (by omega)
        have e66 : M 66 e = zI (gIt S e 8) := RM0_at hM he2 (a := 8) (by omega)
        rw [e66]
        have k1 : zI (gIt S e 8) = 1 ↔ gIt S e 8 = 1 := by rw [lz1, zI_eq (by omega) (by omega) (by omega) (by omega)]
        rw [k1]
        have nx : zI (e : Int) + 1 = zI ((e + 1 : Nat) : Int) := by rw [lz1, zI_add]; rfl
        refine ⟨by omega, fun g => ?_, fun g => ⟨by omega, fun M24 e24 => ⟨by omega, fun M26 e26 => ⟨by omega, fun M28 e28 x29 e29 => ⟨vi0, ?_⟩⟩⟩⟩⟩
        · -- the run ends here
          have g0 : gIt S e 8 = 0 := by omega
          have eme := em e
          rw [if_pos g0, fi] at eme
          refine ⟨vi0, ?_⟩
          rw [e54 Mx f1, zI_le (by omega) (by omega) (by omega) (by omega), zI_in (by omega) (by omega), zI_tn (by omega) (by omega), tn_nat]
          refine ⟨fun z => by omega, fun _ => ⟨by omega, fun M17 e17 => ⟨by omega, fun M19 e19 => ⟨by omega, fun M21 e21 => ⟨vi0, ?_⟩⟩⟩⟩⟩
          have f21 : ∀ k : Nat, k ≠ 72 → k ≠ 73 → k ≠ 74 → M21 k = M k := fun k a1 a2 a3 => by rw [e21, mset_o a3, e19, mset_o a2, e17, mset_o a1]; exact f1 k a1 a2 a3
          have v21 : ∀ j : Nat, j < e + 1 → MKR M21 (fun j => if j = e then 0 else (msS S e).2 j) j := fun j hj => by
            by_cases c : j = e
            · subst c
              refine ⟨?_, ?_, ?_⟩
              · show _ = zI (one (if j = j then 0 else _) 2)
                rw [if_pos rfl, e21, mset_o (by omega), e19, mset_o (by omega), e17, mset_at]; rfl
              · show _ = zI (one (if j = j then 0 else _) 3)
                rw [if_pos rfl, e21, mset_o (by omega), e19, mset_at]; rfl
              · show _ = zI (one (if j = j then 0 else _) 1)
                rw [if_pos rfl, e21, mset_at]; rfl
            · obtain ⟨q1, q2, q3⟩ := f2 j (by omega)
              refine ⟨?_, ?_, ?_⟩
              · show _ = zI (one (if j = e then 0 else _) 2)
                rw [if_neg c, e21, mset_o (by omega), e19, mset_o (by omega), e17, mset_j c]; exact q1
              · show _ = zI (one (if j = e then 0 else _) 3)
                rw [if_neg c, e21, mset_o (by omega), e19, mset_j c, e17, mset_o (by omega)]; exact q2
              · show _ = zI (one (if j = e then 0 else _) 1)
                rw [if_neg c, e21, mset_j c, e19, mset_o (by omega), e17, mset_o (by omega)]; exact q3
          have hfa := fa he2
          have plain : (e - i < 4 ∨ brk S i (e - i) = true) → B2 (zI ((e + 1 : Nat) : Int)) M21 := fun hc => by
            rw [if_pos hc] at eme
            exact hB e M21 he0 he2 f21 (by rw [eme]) (by rw [eme]; exact v21)
          rw [e54 M21 f21, zI_le (by omega) (by omega) (by omega) (by omega), zI_sub, lz4, zI_lt (by omega) (by omega) (by omega) (by omega)]
          refine ⟨fun z => by omega, fun _ => ⟨fun c x6 e6 => ?_, fun c => ⟨fun c2 x7 e7 => ?_, fun c2 => ⟨e - i + 1, ?_⟩⟩⟩⟩
          · rw [e6, nx]; exact plain (Or.inl (by omega))
          · rw [e7, nx]
            refine plain (Or.inr ?_)
            cases ap with
            | true => exact hfa.symm
            | false => exact absurd rfl c2
          · have hnb2 : ¬ brk S i (e - i) = true := by
              cases ap with
              | true => exact absurd c2 (by decide +kernel)
              | false => rw [← hfa]; decide
            rw [if_neg (by rintro (z | z); omega; exact hnb2 z)] at eme
            have fill : ∀ (k j : Nat) (My : Mem), i ≤ j → j ≤ e → e - j < k → (∀ k : Nat, k ≠ 74 → My k = M21 k) → (∀ t : Nat, My 74 t = if i ≤ t ∧ t < j then zI 0 else M21 74 t) → w_X7_slurs_192 Q B2 k (zI i) (zI e) (zI (isI ap)) (zI j) My := by
              intro k
              induction k with
              | zero => intro j My b0 b1 b2; omega
              | succ k ih3 =>
                intro j My b0 b1 b2 y1 y2
                show wb_X7_slurs_192 Q B2 (w_X7_slurs_192 Q B2 k) _ _ _ _ My
                unfold wb_X7_slurs_192
                rw [zI_le (by omega) (by omega) (by omega) (by omega), zI_in (by omega) (by omega), zI_in (by omega) (by omega), zI_in (by omega) (by omega), zI_tn (by omega) (by omega), zI_tn (by omega) (by omega), zI_tn (by omega) (by omega), tn_nat, tn_nat, tn_nat]
                refine ⟨fun p => ⟨by omega, fun M9 e9 => ⟨by omega, fun M11 e11 x12 e12 => ?_⟩⟩, fun p => ⟨by omega, fun M14 e14 x15 e15 => ?_⟩⟩
                · rw [e12, nx]
                  have hje : j = e := by omega
                  refine hB e M11 he0 he2 (fun k a1 a2 a3 => by rw [e11, mset_o a2, e9, mset_o a1, y1 k a3]; exact f21 k a1 a2 a3) (by rw [eme]) (fun t ht => ?_)
                  rw [eme]
                  have t72 : M11 72 t = if t = i then 1 else M21 72 t := by
                    rw [e11, mset_o (by omega), e9]
                    by_cases c5 : t = i
                    · subst c5; rw [mset_at, if_pos rfl]
                    · rw [mset_j c5, if_neg c5, y1 72 (by omega)]
                  have t73 : M11 73 t = if t = e then 1 else M21 73 t := by
                    rw [e11]
                    by_cases c5 : t = e
                    · subst c5; rw [mset_at, if_pos rfl]
                    · rw [mset_j c5, if_neg c5, e9, mset_o (by omega), y1 73 (by omega)]
                  have t74 : M11 74 t = if i ≤ t ∧ t < e then zI 0 else M21 74 t := by
                    rw [e11, mset_o (by omega), e9, mset_o (by omega), y2 t, hje]
                  obtain ⟨v1, v2, v3⟩ := v21 t ht
                  unfold MKR
                  rw [t72, t73, t74]
                  show _ = zI (one (if t = e then 3 else if t = i then 2 else if i ≤ t ∧ t < e then 0 else (msS S e).2 t) 2) ∧ _ = zI (one (if t = e then 3 else if t = i then 2 else if i ≤ t ∧ t < e then 0 else (msS S e).2 t) 3) ∧ _ = zI (one (if t = e then 3 else if t = i then 2 else if i ≤ t ∧ t < e then 0 else (msS S e).2 t) 1)
                  by_cases c1 : t = e
                  · rw [if_pos c1, if_neg (show ¬ t = i by omega), if_pos c1, if_neg (show ¬ (i ≤ t ∧ t < e) by omega), v1, v3]
                    simp only [if_pos c1]
                    exact ⟨rfl, rfl, rfl⟩
                  · rw [if_neg c1, if_neg c1]
                    by_cases c2 : t = i
                    · rw [if_pos c2, if_pos c2, if_pos (show i ≤ t ∧ t < e by omega), v2]
                      simp only [if_neg c1]
                      have := ms_run S e t (by rw [fi]; omega) (by omega)
                      rw [this]
                      exact ⟨rfl, rfl, rfl⟩
                    · rw [if_neg c2, if_neg c2, v1, v2, v3]
                      simp only [if_neg c1]
                      by_cases c3 : i ≤ t ∧ t < e
                      · rw [if_pos c3, if_pos c3]
                        have := ms_run S e t (by rw [fi]; omega) (by omega)
                        rw [this]
                        exact ⟨rfl, rfl, rfl⟩
                      · rw [if_neg c3, if_neg c3]
                        exact ⟨rfl, rfl, rfl⟩
                · have e15' : x15 = zI ((j + 1 : Nat) : Int) := by rw [e15, lz1, zI_add]; rfl
                  subst e15'
                  refine ih3 (j + 1) M14 (by omega) (by omega) (by omega) (fun k hk => by rw [e14, mset_o hk]; exact y1 k hk) (fun t => ?_)
                  by_cases c5 : t = j
                  · subst c5; rw [e14, mset_at, if_pos (by omega)]; rfl
                  · rw [e14, mset_j c5, y2 t]
                    by_cases c6 : i ≤ t ∧ t < j
                    · rw [if_pos c6, if_pos (by omega)]
                    · rw [if_neg c6, if_neg (by omega)]
            exact fill _ i M21 (Nat.le_refl _) he0 (by omega) (fun _ _ => rfl) (fun t => by rw [if_neg (by omega)])
        · -- the run goes on
          have eme := em e
          rw [if_neg (by omega), fi] at eme
          have f28 : ∀ k : Nat, k ≠ 72 → k ≠ 73 → k ≠ 74 → M28 k = M k := fun k a1 a2 a3 => by rw [e28, mset_o a3, e26, mset_o a2, e24, mset_o a1]; exact f1 k a1 a2 a3
          have v28 : ∀ j : Nat, j < e + 1 → MKR M28 (msS S (e + 1)).2 j := fun j hj => by
            rw [eme]
            by_cases c : j = e
            · subst c
              refine ⟨?_, ?_, ?_⟩
              · show _ = zI (one (if j = j then 1 else _) 2)
                rw [if_pos rfl, e28, mset_o (by omega), e26, mset_o (by omega), e24, mset_at]; rfl
              · show _ = zI (one (if j = j then 1 else _) 3)
                rw [if_pos rfl, e28, mset_o (by omega), e26, mset_at]; rfl
              · show _ = zI (one (if j = j then 1 else _) 1)
                rw [if_pos rfl, e28, mset_at]; rfl
            · obtain ⟨q1, q2, q3⟩ := f2 j (by omega)
              refine ⟨?_, ?_, ?_⟩
              · show _ = zI (one (if j = e then 1 else _) 2)
                rw [if_neg c, e28, mset_o (by omega), e26, mset_o (by omega), e24, mset_j c]; exact q1
              · show _ = zI (one (if j = e then 1 else _) 3)
                rw [if_neg c, e28, mset_o (by omega), e26, mset_j c, e24, mset_o (by omega)]; exact q2
              · show _ = zI (one (if j = e then 1 else _) 1)
                rw [if_neg c, e28, mset_j c, e26, mset_o (by omega), e24, mset_o (by omega)]; exact q3
          rw [nx] at e29
          subst e29
          have next : ∀ ap2 : Bool, (e + 1 < gNi S → ap2 = brk S i (e + 1 - i)) → w_X7_slurs_16 Q B2 k (zI i) (zI ((e + 1 : Nat) : Int)) (zI (isI ap2)) M28 := fun ap2 ha => ih (e + 1) ap2 M28 (by omega) (by omega) (by omega) f28 (by rw [eme]) v28 ha
          have k2 : zI (gNi S : Int) ≤ zI ((e + 1 : Nat) : Int) ↔ gNi S ≤ e + 1 := by rw [zI_le (by omega) (by omega) (by omega) (by omega)]; omega
          rw [e54 M28 f28]
          simp only [k2]
          by_cases ge : gNi S ≤ e + 1
          · refine ⟨⟨fun _ => trivial, fun z => absurd ge z⟩, fun z37 e37 x38 e38 => ?_⟩
            rw [if_pos ge] at e37
            rw [e37, show (0 : Int32) = zI (isI false) from rfl, or01] at e38
            rw [e38]
            exact next _ (fun z => by omega)
          · have he3 : e + 1 < gNi S := by omega
            obtain ⟨y0, y1, -⟩ := hv.2.2.2.2.2.1 (e + 1) he3
            have g4 : gVo S (gIt S (e + 1) 0).toNat ≤ 3 := hv.2.2.2.2.1 _ (by omega)
            have a0 : M28 58 e = zI (gIt S e 0) := by rw [f28 58 (by omega) (by omega) (by omega)]; exact RM0_at hM he2 (a := 0) (by omega)
            have a1 : M28 58 (e + 1) = zI (gIt S (e + 1) 0) := by rw [f28 58 (by omega) (by omega) (by omega)]; exact RM0_at hM he3 (a := 0) (by omega)
            have b0 : M28 59 e = zI (gIt S e 1) := by rw [f28 59 (by omega) (by omega) (by omega)]; exact RM0_at hM he2 (a := 1) (by omega)
            have b1 : M28 59 (e + 1) = zI (gIt S (e + 1) 1) := by rw [f28 59 (by omega) (by omega) (by omega)]; exact RM0_at hM he3 (a := 1) (by omega)
            rw [lz1, zI_sub, zI_tn (a := ((e + 1 : Nat) : Int) - 1) (by omega) (by omega), show (((e + 1 : Nat) : Int) - 1).toNat = e by omega, zI_tn (by omega) (by omega), tn_nat, a0, a1, b0, b1, zI_add, zI_in (by omega) (by omega), zI_in (by omega) (by omega)]
            have c1 : zI (gIt S (e + 1) 0) = zI (gIt S e 0) ↔ gIt S (e + 1) 0 = gIt S e 0 := by rw [zI_eq (by omega) (by omega) (by omega) (by omega)]
            have c2 : zI (gIt S (e + 1) 1) = zI (gIt S e 1) ↔ gIt S (e + 1) 1 = gIt S e 1 := by rw [zI_eq (by omega) (by omega) (by omega) (by omega)]
            have c3 : zI (gIt S (e + 1) 0) ≤ zI (gIt S e 0 + 1) ↔ gIt S (e + 1) 0 ≤ gIt S e 0 + 1 := by rw [zI_le (by omega) (by omega) (by omega) (by omega)]
            simp only [c1, c2, c3]
            refine ⟨⟨fun _ => trivial, fun _ => ⟨by omega, by omega, fun _ => ⟨by omega, by omega, fun _ => trivial, fun _ => trivial⟩, fun _ => ⟨by omega, by omega, fun _ => trivial, fun _ => trivial⟩⟩⟩, fun z37 e37 x38 e38 => ?_⟩
            rw [if_neg ge] at e37
            have hz : z37 = zI (isI (bkB S e)) := by
              have hB3 := bk_iff (S := S) e
              rw [e37]
              by_cases d1 : gIt S (e + 1) 0 = gIt S e 0
              · rw [if_pos d1]
                by_cases d2 : gIt S (e + 1) 1 = gIt S e 1
                · rw [if_pos d2]
                  have : bkB S e = false := by
                    cases hb : bkB S e with
                    | false => rfl
                    | true => rcases hB3.mp hb with z | z; omega; exact absurd d2 z.2
                  rw [this]; rfl
                · rw [if_neg d2, hB3.mpr (Or.inr ⟨d1, d2⟩)]; rfl
              · rw [if_neg d1]
                by_cases d2 : gIt S (e + 1) 0 ≤ gIt S e 0 + 1
                · rw [if_pos d2]
                  have : bkB S e = false := by
                    cases hb : bkB S e with
                    | false => rfl
                    | true => rcases hB3.mp hb with z | z; omega; exact absurd z.1 d1
                  rw [this]; rfl
                · rw [if_neg d2, hB3.mpr (Or.inl (by omega))]; rfl
            rw [hz, or01] at e38
            rw [e38]
            refine next _ (fun _ => ?_)
            rw [fa he2, show e + 1 - i = e - i + 1 by omega]
            show _ = (brk S i (e - i) || bkB S (i + (e - i)))
            rw [show i + (e - i) = e by omega]
  have outer : ∀ (k i : Nat) (Mx : Mem), (i ≤ gNi S ∧ gNi S - i < k ∧ (msS S i).1 = i ∧ ∀ j : Nat, j < i → MKR Mx (msS S i).2 j) ∨ (i = gNi S + 1 ∧ 0 < k ∧ ∀ j : Nat, j < gNi S → MKR Mx (msS S (gNi S)).2 j) → (∀ k : Nat, k ≠ 72 → k ≠ 73 → k ≠ 74 → Mx k = M k) → w_X7_slurs_2 Q k (zI i) Mx := by
    intro k
    induction k with
    | zero => intro i Mx g; omega
    | succ k ih =>
      intro i Mx hd f1
      show wb_X7_slurs_2 Q (w_X7_slurs_2 Q k) _ Mx
      unfold wb_X7_slurs_2
      rw [e54 Mx f1, zI_le (by omega) (by omega) (by omega) (by omega)]
      refine ⟨vi0, fun q => ?_, fun q => ?_⟩
      · rcases hd with ⟨d1, d2, d3, d4⟩ | ⟨d1, d2, d3⟩
        · have : i = gNi S := by omega
          subst this
          exact hQ Mx f1 d4
        · exact hQ Mx f1 d3
      · rcases hd with ⟨d1, d2, d3, d4⟩ | ⟨d1, d2, d3⟩
        · refine ⟨gNi S - i + 1, ?_⟩
          have := inner (w_X7_slurs_2 Q k) i (by omega) (fun e My a1 a2 a3 a4 a5 => ih (e + 1) My (Or.inl ⟨by omega, by omega, a4, a5⟩) a3) (fun My a1 a2 => ih (gNi S + 1) My (Or.inr ⟨rfl, by omega, a2⟩) a1) (gNi S - i + 1) i false Mx (Nat.le_refl _) d1 (by omega) f1 d3 d4 (fun _ => by rw [Nat.sub_self]; rfl)
          exact this
        · omega
  exact outer (gNi S + 2) 0 M (Or.inl ⟨by omega, by omega, rfl, fun j hj => by omega⟩) (fun _ _ _ _ => rfl)
end Slurs
