section XVoice
variable {Mv M M' : Mem} {S S' : Mus} {c p q s n : Nat} {row : Nat → Int} {len : Int} {o : Bool} {t t0 : Int} {w : Option Int} {Q : Int32 → Mem → Prop}
theorem x_full (hB : XB Mv c row len) (h : XR Mv M S p o w t) (hp : p ≤ c) (hn : n ≤ 40) (hbad : (n = 0 ∨ ¬ (pkF c row p = 0 ∨ pkF c row p = 64 ∨ pkF c row p = -1 ∨ (pkF c row p = 35 ∧ pkF c row (p + 1) = 28))) → ∀ M' : Mem, JS Mv M' p → Q 0 M') (hop : ¬ n = 0 → o = true → pkF c row p = 35 ∧ pkF c row (p + 1) = 28 → ∀ M' : Mem, JS Mv M' (p + 1) → Q 0 M') (hok : ¬ n = 0 → (pkF c row p = 0 ∨ pkF c row p = 64 ∨ pkF c row p = -1 ∨ (pkF c row p = 35 ∧ pkF c row (p + 1) = 28)) → ¬ (o = true ∧ pkF c row p = 35 ∧ pkF c row (p + 1) = 28) → Q 0 M) : w_X7_full (zI (n : Int)) M Q := by
  have hP := PK_x hB
  have hc := hB.2.1
  have b0 := (hP p).2
  have b1 := (hP (p + 1)).2
  have bad : (n = 0 ∨ ¬ (pkF c row p = 0 ∨ pkF c row p = 64 ∨ pkF c row p = -1 ∨ (pkF c row p = 35 ∧ pkF c row (p + 1) = 28))) → ∀ z : Int32, z = zI (p : Int) → w_X7_fail z M (fun _ M' => Q 0 M') := by
    intro g z ez
    rw [ez]
    exact x_fail h.2.2.2.1 (fun M' e' => hbad g M' (JS_of h (by omega) (by omega) e'))
  unfold w_X7_full
  rw [h.2.2.1]
  refine x_peek hB h.1 (by omega) ?_
  rw [h.2.2.1, lz35, zI_eq (by omega) (by omega) (by omega) (by omega), lz0, zI_eq (a := (n : Int)) (by omega) (by omega) (by omega) (by omega), zI_eq (a := pkF c row p) (by omega) (by omega) (by omega) (by omega), lz64, zI_eq (a := pkF c row p) (b := 64) (by omega) (by omega) (by omega) (by omega), ln1, zI_eq (a := pkF c row p) (b := -1) (by omega) (by omega) (by omega) (by omega), lz1, zI_add]
  refine ⟨fun g => ⟨fun g2 => bad (by omega) _ rfl, fun g2 => ⟨fun z => absurd rfl z, fun _ => ?_⟩⟩, fun g => x_peek (q := p + 1) hB h.1 (by omega) (fun z11 e11 => ?_)⟩
  · have done : (pkF c row p = 0 ∨ pkF c row p = 64 ∨ pkF c row p = -1) → w_X7_full_70 Q (zI (n : Int)) (zI (pkF c row p)) (zI 0) M := fun g3 => ⟨fun _ => hok (by omega) (by omega) (fun z => g z.2.1), fun z => absurd rfl z⟩
    exact ⟨fun g3 => done (Or.inl g3), fun g3 => ⟨fun g4 => done (Or.inr (Or.inl g4)), fun g4 => ⟨fun g5 => done (Or.inr (Or.inr g5)), fun g5 => bad (by omega) _ rfl⟩⟩⟩
  · have k : zI (pkF c row (p + 1)) = 28 ↔ pkF c row (p + 1) = 28 := by rw [lz28, zI_eq (by omega) (by omega) (by omega) (by omega)]
    simp only [k] at e11
    have n10 : ¬ zI 1 = zI 0 := by decide +kernel
    by_cases g28 : pkF c row (p + 1) = 28
    · rw [if_pos g28] at e11
      rw [e11]
      refine ⟨fun g2 => bad (by omega) _ (by rw [h.2.2.1]), fun g2 => ⟨fun _ => ?_, fun z => absurd z n10⟩⟩
      unfold w_X7_full_70
      rw [h.2.2.1, h.2.2.2.2.1]
      refine ⟨fun z => absurd z n10, fun _ => ⟨fun g3 => hok (by omega) (by omega) (fun z => ?_), fun g3 => ?_⟩⟩
      · have := bI_0.mp g3
        rw [this] at z
        exact absurd z.1 (by decide)
      · have ho : o = true := by
          cases o with
          | true => rfl
          | false => exact absurd rfl g3
        rw [lz1, zI_add]
        exact x_fail h.2.2.2.1 (fun M' e' => hop (by omega) ho ⟨g, g28⟩ M' (JS_of (f := p + 1) h (by omega) (by omega) e'))
    · rw [if_neg g28] at e11
      rw [e11]
      refine ⟨fun g2 => bad (by omega) _ (by rw [h.2.2.1]), fun g2 => ⟨fun z => absurd rfl z, fun _ => ⟨fun g3 => by omega, fun _ => ⟨fun g3 => by omega, fun _ => ⟨fun g3 => by omega, fun _ => bad (by omega) _ (by rw [h.2.2.1])⟩⟩⟩⟩⟩
theorem RI_sz {f0 k : Nat} {g : Nat → Int} (hv : MV S) (h : RI M S) (he : ∀ k j : Nat, ri (gNi S) k j → ¬ k = 63 → M' k j = M k j) (h5 : ∀ i : Nat, i < gNi S → M' 63 (600 + i) = zI (if f0 ≤ i ∧ i < f0 + k then g (i - f0) else gIt S i 5)) : RI M' (sSz S f0 k g) := by
  obtain ⟨h1, h2, h3, h4⟩ := h
  refine ⟨by rw [he _ _ (by unfold ri; omega) (by omega)]; exact h1, by rw [he _ _ (by unfold ri; omega) (by omega)]; exact h2, fun i a hi ha => ?_, fun i k hi hk => ?_⟩
  · have hi' : i < gNi S := hi
    by_cases g5 : a = 5
    · subst g5
      unfold rat
      rw [if_neg (by omega), sz_5]
      exact h5 i hi'
    · rw [he _ _ (by unfold ri; omega) (by omega), h3 i a hi' ha]
      unfold rat
      rw [sz_it (by omega), sz_it g5]
  · have hi' : i < gNi S := hi
    rw [sz_it (by omega)] at hk ⊢
    have := (hv.2.2.2.2.2.1 i hi').2.2.2.2.2.2.2.2.2.1
    rw [he _ _ (by unfold ri; omega) (by omega)]
    exact h4 i k hi' hk
theorem XR_sz {f0 k : Nat} {g : Nat → Int} (hv : MV S) (h : XR Mv M S p o w t) (he : ∀ k : Nat, k < 69 → ¬ k = 63 → M' k = M k) (h77 : ∀ k : Nat, 78 ≤ k → M' k = M k) (hlow : ∀ j : Nat, j < 600 → M' 63 j = M 63 j) (h5 : ∀ i : Nat, i < gNi S → M' 63 (600 + i) = zI (if f0 ≤ i ∧ i < f0 + k then g (i - f0) else gIt S i 5)) : XR Mv M' (sSz S f0 k g) p o w t := by
  obtain ⟨x1, x2, x3, x4, x5, x6, x7⟩ := h
  have e46 := he 46 (by omega) (by omega)
  refine ⟨fun k j hk => ?_, RI_sz hv x2 (fun k j hk hne => ?_) h5, by rw [e46]; exact x3, by rw [e46]; exact x4, by rw [e46]; exact x5, RWT_of x6 (by rw [e46]) (by rw [e46]), by rw [e46]; exact x7⟩
  · have hk' := hk
    unfold kp at hk
    by_cases g3 : k = 63
    · subst g3
      rw [hlow j (by omega)]
      exact x1 63 j hk'
    · rcases Nat.lt_or_ge k 69 with z | z
      · rw [he k z g3]; exact x1 k j hk'
      · rw [h77 k (by omega)]; exact x1 k j hk'
  · unfold ri at hk
    rw [he k (by omega) hne]
theorem x_whole (hB : XB Mv c row len) (hlen : len = gLen S) (hv : MV S) (hl : ¬ lastS S < 0) (hs : s = (lastS S).toNat) (hV : VI S s n t0) (hn : 1 ≤ n) (h : XR Mv M S p o w t) (hA : isLn S s → ∀ M' : Mem, XR Mv M' (sSz S (gFo S s) 1 (fun _ => 2)) p o w t → Q 1 M') (hY : ¬ isLn S s → ∀ u : Nat, ldG S (gFo S s) (gSz S s) 0 = u → okS (smf S (gFo S s)) u (nxS (wS S (gFo S s)) (gSz S s) u) (suR S (gFo S s) (gSz S s) u) → ∀ M' : Mem, XR Mv M' (sSz S (gFo S s) u (szR S (gFo S s) (gSz S s) u)) p o w t → Q 1 M') (hN : ¬ isLn S s → ∀ u : Nat, ldG S (gFo S s) (gSz S s) 0 = u → ¬ okS (smf S (gFo S s)) u (nxS (wS S (gFo S s)) (gSz S s) u) (suR S (gFo S s) (gSz S s) u) → ∀ M' : Mem, XR Mv M' S p o w t → Q 0 M') : w_X7_whole (zI ((600 + gFo S s : Nat) : Int)) (zI (n : Int)) M Q := by
  obtain ⟨l1, l2, l3⟩ := lastS_sp hl
  have l4 : s = 3 * (gNb S - 1) + (gVo S (gNb S - 1) - 1) := by rw [hs, l3]; rfl
  have vni := hv.2.2.2.1
  obtain ⟨q1, q2, q3⟩ := hv.2.2.2.2.2.2.1 (gNb S - 1) (gVo S (gNb S - 1) - 1) l1 l2
  rw [← l4] at q1 q2 q3
  obtain ⟨a1, a2, u, a3, a4, a5, a6⟩ := hV
  have hld : ldG S (gFo S s) (gSz S s) 0 = u := by
    rw [a1]
    exact ldG_is a3 a4 (fun z z2 => by have := a5 u (Nat.le_refl _) z; omega) n 0 (by omega) (by omega)
  have hri := h.2.1.2.2.1
  have vin : ∀ j : Nat, j < n → vp_in (zI ((600 + gFo S s + j : Nat) : Int)) 1200 := fun j hj => by rw [zI_in (by omega) (by omega)]; omega
  have hsz : ∀ i : Nat, i < gNi S → M 63 (600 + i) = zI (gIt S i 5) := fun i hi => hri i 5 hi (by omega)
  have ib := hv.2.2.2.2.2.1
  have f5 : ∀ j : Nat, j < n → -1 ≤ gIt S (gFo S s + j) 5 ∧ gIt S (gFo S s + j) 5 ≤ 1 := fun j hj => by
    rcases Nat.lt_or_ge j u with z | z
    · rw [a4 j z]; omega
    · have := a5 j z hj; omega
  -- the sizes are looked for
  have rest : ¬ isLn S s → ∃ k, w_X7_whole_52 Q k (zI ((600 + gFo S s : Nat) : Int)) (zI (n : Int)) 0 M := by
    intro hln
    refine ⟨n + 1, ?_⟩
    have fin : ∀ M1 : Mem, (∀ k : Nat, ¬ k = 70 → M1 k = M k) → (∀ j : Nat, j < n → M1 70 j = zI (wS S (gFo S s) j)) → w_X7_canBe (zI ((600 + gFo S s : Nat) : Int)) (zI (n : Int)) M1 (fun v1 M2 => ∃ k, w_X7_whole_87 Q k (zI ((600 + gFo S s : Nat) : Int)) (zI (n : Int)) v1 0 M2) := by
      intro M1 hf h70
      rw [show (600 + gFo S s : Nat) = 600 * 1 + gFo S s by omega]
      have hM1 : ∀ i a : Nat, i < gNi S → a < 10 → M1 (58 + a) (600 * 1 + i) = zI (rat (gIt S i) a) := fun i a hi ha => by
        rw [hf (58 + a) (by omega), show 600 * 1 + i = 600 + i by omega]
        exact hri i a hi ha
      have hl7 : M1 46 7 = zI (gLen S) := by
        rw [hf 46 (by omega), h.1 46 7 (by unfold kp; omega), hB.2.2.2.2.1, hlen]
      have hlb := hv.1
      refine x_canBe2 (o := 1) (f0 := gFo S s) (n := n) (u := u) (w := wS S (gFo S s)) (len := gLen S) (by omega) hM1 hv hl7 hlb hn (by omega) a3 (by omega) h70 a4 a5 (fun hok M2 g1 g2 g3 => ?_) (fun hno M2 g1 => ?_)
      · have hall : ∀ j : Nat, j < n → M2 71 j = zI (szE S (gFo S s) n u j) := by
          intro j hj
          unfold szE
          by_cases z : j < u
          · rw [if_pos z]; exact g2 j z
          · rw [if_neg z]; exact g3 j (by omega) hj
        refine ⟨n + 1, ?_⟩
        rw [show (600 * 1 + gFo S s : Nat) = 600 + gFo S s by omega]
        have key : ∀ (d j : Nat) (M3 : Mem), j + d = n → (∀ k : Nat, ¬ k = 63 → M3 k = M2 k) → (∀ x : Nat, M3 63 x = if 600 + gFo S s ≤ x ∧ x < 600 + gFo S s + j then zI (szE S (gFo S s) n u (x - (600 + gFo S s))) else M2 63 x) → w_X7_whole_87 Q (d + 1) (zI ((600 + gFo S s : Nat) : Int)) (zI (n : Int)) 1 (zI (j : Int)) M3 := by
          intro d
          induction d with
          | zero =>
            intro j M3 hj g4 g5
            have hjn : j = n := by omega
            subst hjn
            show wb_X7_whole_87 Q (w_X7_whole_87 Q 0) _ _ _ _ M3
            unfold wb_X7_whole_87
            refine ⟨fun _ => ⟨Or.inr rfl, ?_⟩, fun z => absurd (by rw [zI_le (by omega) (by omega) (by omega) (by omega)]; omega) z⟩
            have same : ∀ k : Nat, k < 69 → ¬ k = 63 → M3 k = M k := fun k h1 h2 => by rw [g4 k h2, g1 k (by omega) (by omega), hf k (by omega)]
            have e63 : ∀ x : Nat, M2 63 x = M 63 x := fun x => by rw [g1 63 (by omega) (by omega), hf 63 (by omega)]
            have hokE := hY hln u hld (by rw [a1]; exact hok)
            rw [a1] at hokE
            refine hokE M3 (XR_sz hv h same (fun k hk => by rw [g4 k (by omega), g1 k (by omega) (by omega), hf k (by omega)]) (fun x hx => by rw [g5 x, if_neg (by omega)]; exact e63 x) (fun i hi => ?_))
            rw [g5 (600 + i)]
            by_cases z : gFo S s ≤ i
            · rw [if_pos (by omega), show 600 + i - (600 + gFo S s) = i - gFo S s by omega]
              unfold szE
              by_cases z2 : i - gFo S s < u
              · rw [if_pos z2, if_pos (by omega)]
              · rw [if_neg z2, if_neg (by omega), show gFo S s + (i - gFo S s) = i by omega]
            · rw [if_neg (by omega), if_neg (by omega), e63]
              exact hsz i hi
          | succ d ih =>
            intro j M3 hj g4 g5
            show wb_X7_whole_87 Q (w_X7_whole_87 Q (d + 1)) _ _ _ _ M3
            unfold wb_X7_whole_87
            rw [zI_le (by omega) (by omega) (by omega) (by omega), zI_in (by omega) (by omega), zI_add, show ((600 + gFo S s : Nat) : Int) + (j : Int) = ((600 + gFo S s + j : Nat) : Int) by omega, zI_tn (by omega) (by omega), zI_tn (by omega) (by omega), tn_nat, tn_nat]
            refine ⟨fun z => by omega, fun _ => ⟨fun z => absurd z one0, fun _ => ⟨by omega, vin j (by omega), fun M7 e7 x8 e8 => ?_⟩⟩⟩
            have e71 : M3 71 j = zI (szE S (gFo S s) n u j) := by rw [g4 71 (by omega)]; exact hall j (by omega)
            have e8' : x8 = zI ((j + 1 : Nat) : Int) := by rw [e8, lz1, zI_add]; rfl
            rw [e8']
            rw [e71] at e7
            refine ih (j + 1) M7 (by omega) (fun k hk => by rw [e7, mset_o hk]; exact g4 k hk) (fun x => ?_)
            by_cases z : x = 600 + gFo S s + j
            · subst z
              rw [e7, mset_at, if_pos (by omega), show 600 + gFo S s + j - (600 + gFo S s) = j by omega]
            · rw [e7, mset_j z, g5 x]
              by_cases z2 : 600 + gFo S s ≤ x ∧ x < 600 + gFo S s + j
              · rw [if_pos z2, if_pos (by omega)]
              · rw [if_neg z2, if_neg (by omega)]
        exact key n 0 M2 (by omega) (fun _ _ => rfl) (fun x => by rw [if_neg (by omega)])
      · refine ⟨1, ?_⟩
        show wb_X7_whole_87 Q (w_X7_whole_87 Q 0) _ _ _ _ M2
        unfold wb_X7_whole_87
        have hq : Q 0 M2 := by
          refine hN hln u hld (by rw [a1]; exact hno) M2 ?_
          have same : ∀ k : Nat, k < 69 → M2 k = M k := fun k h1 => by rw [g1 k (by omega) (by omega), hf k (by omega)]
          obtain ⟨x1, x2, x3, x4, x5, x6, x7⟩ := h
          have e46 := same 46 (by omega)
          refine ⟨fun k j hk => ?_, RI_far hv x2 (fun k j hk => by unfold ri at hk; rw [same k (by omega)]), by rw [e46]; exact x3, by rw [e46]; exact x4, by rw [e46]; exact x5, RWT_of x6 (by rw [e46]) (by rw [e46]), by rw [e46]; exact x7⟩
          have hk' := hk
          unfold kp at hk
          rcases Nat.lt_or_ge k 69 with z | z
          · rw [same k z]; exact x1 k j hk'
          · rw [g1 k (by omega) (by omega), hf k (by omega)]; exact x1 k j hk'
        exact ⟨fun _ => ⟨Or.inl rfl, hq⟩, fun _ => ⟨fun _ => ⟨Or.inl rfl, hq⟩, fun z => absurd rfl z⟩⟩
    have key : ∀ (d j : Nat) (M1 : Mem), j + d = n → (∀ k : Nat, ¬ k = 70 → M1 k = M k) → (∀ i : Nat, i < j → M1 70 i = zI (wS S (gFo S s) i)) → w_X7_whole_52 Q (d + 1) (zI ((600 + gFo S s : Nat) : Int)) (zI (n : Int)) (zI (j : Int)) M1 := by
      intro d
      induction d with
      | zero =>
        intro j M1 hj hf h70
        have hjn : j = n := by omega
        subst hjn
        show wb_X7_whole_52 Q (w_X7_whole_52 Q 0) _ _ _ M1
        unfold wb_X7_whole_52
        exact ⟨fun _ => fin M1 hf h70, fun z => absurd (by rw [zI_le (by omega) (by omega) (by omega) (by omega)]; omega) z⟩
      | succ d ih =>
        intro j M1 hj hf h70
        show wb_X7_whole_52 Q (w_X7_whole_52 Q (d + 1)) _ _ _ M1
        unfold wb_X7_whole_52
        rw [zI_le (by omega) (by omega) (by omega) (by omega), zI_in (a := (j : Int)) (by omega) (by omega), zI_add, show ((600 + gFo S s : Nat) : Int) + (j : Int) = ((600 + gFo S s + j : Nat) : Int) by omega, zI_tn (by omega) (by omega), zI_tn (by omega) (by omega), tn_nat, tn_nat]
        refine ⟨fun z => by omega, fun _ => ⟨vin j (by omega), by omega, fun M11 e11 x12 e12 => ?_⟩⟩
        have e12' : x12 = zI ((j + 1 : Nat) : Int) := by rw [e12, lz1, zI_add]; rfl
        have e63 : M1 63 (600 + gFo S s + j) = zI (wS S (gFo S s) j) := by
          rw [hf 63 (by omega), show 600 + gFo S s + j = 600 + (gFo S s + j) by omega]
          exact hsz _ (by omega)
        rw [e12']
        rw [e63] at e11
        refine ih (j + 1) M11 (by omega) (fun k hk => by rw [e11, mset_o hk]; exact hf k hk) (fun i hi => ?_)
        by_cases z : i = j
        · subst z
          rw [e11, mset_at]
        · rw [e11, mset_j z]
          exact h70 i (by omega)
    exact key n 0 M (by omega) (fun _ _ => rfl) (fun i hi => absurd hi (Nat.not_lt_zero i))
  have e60 : M 60 (600 + gFo S s) = zI (rp (gIt S (gFo S s) 2)) := hri (gFo S s) 2 (by omega) (by omega)
  have e62 : M 62 (600 + gFo S s) = zI (gIt S (gFo S s) 4) := hri (gFo S s) 4 (by omega) (by omega)
  have e63 : M 63 (600 + gFo S s) = zI (gIt S (gFo S s) 5) := hri (gFo S s) 5 (by omega) (by omega)
  have e64 : M 64 (600 + gFo S s) = zI (gIt S (gFo S s) 6) := hri (gFo S s) 6 (by omega) (by omega)
  obtain ⟨-, -, i2, i3, i4, i5, i6, -⟩ := ib (gFo S s) (by omega)
  have rb : (0 ≤ rp (gIt S (gFo S s) 2) ↔ ¬ gIt S (gFo S s) 2 = 0) ∧ -1 ≤ rp (gIt S (gFo S s) 2) ∧ rp (gIt S (gFo S s) 2) ≤ 55 := by
    unfold rp
    split <;> omega
  have vin0 := vin 0 (by omega)
  rw [Nat.add_zero] at vin0
  unfold w_X7_whole
  rw [zI_tn (by omega) (by omega), tn_nat, e60, e62, e63, e64, lz1, zI_eq (by omega) (by omega) (by omega) (by omega), lz0, zI_le (by omega) (by omega) (by omega) (by omega), rb.1, zI_eq (by omega) (by omega) (by omega) (by omega), zI_eq (by omega) (by omega) (by omega) (by omega), zI_le (by omega) (by omega) (by omega) (by omega), ← lz0]
  refine ⟨fun g => rest (fun z => g (by have := z.1.1; omega)), fun g => ⟨vin0, fun g2 => rest (fun z => g2 z.1.2.1), fun g2 => ⟨vin0, fun g3 => rest (fun z => g3 z.1.2.2.1), fun g3 => ⟨vin0, fun g4 => rest (fun z => g4 z.1.2.2.2), fun g4 => ⟨vin0, fun g5 => rest (fun z => by have := z.2; omega), fun g5 => ⟨vin0, fun M18 e18 => ?_⟩⟩⟩⟩⟩⟩
  refine hA ⟨⟨by omega, by omega, g3, g4⟩, by omega⟩ M18 (XR_sz hv h (fun k h1 h2 => by rw [e18, mset_o h2]) (fun k hk => by rw [e18, mset_o (by omega)]) (fun x hx => by rw [e18, mset_j (by omega)]) (fun i hi => ?_))
  by_cases z : i = gFo S s
  · subst z
    rw [e18, mset_at, if_pos (by omega)]
    rfl
  · rw [e18, mset_j (by omega), if_neg (by omega)]
    exact hsz i hi
end XVoice
