section Ways2
variable {M : Mem} {S : Mus} {c r m : Nat} {row : Nat → Int} {Q : Int32 → Mem → Prop}
theorem x_isVoice {p1 p2 : Int32} (h : RM M 0 S) (hv : MV S) (h1 : ∀ b v : Nat, p1 = zI b → p2 = zI v → b < gNb S → v < gVo S b → Q 1 M) (h0 : (∀ b v : Nat, p1 = zI b → p2 = zI v → b < gNb S → v < gVo S b → False) → Q 0 M) : w_X7_isVoice p1 p2 M Q := by
  obtain ⟨a, rfl, a1, a2⟩ := zI_ex p1
  obtain ⟨d, rfl, c1, c2⟩ := zI_ex p2
  have hnb := hv.2.2.1
  have no : (a < 0 ∨ (gNb S : Int) ≤ a ∨ d < 0 ∨ (0 ≤ a ∧ a < gNb S ∧ (gVo S a.toNat : Int) ≤ d)) → Q 0 M := by
    intro q
    refine h0 (fun b v e1 e2 g1 g2 => ?_)
    have g3 := hv.2.2.2.2.1 b g1
    rw [zI_eq (by omega) (by omega) (by omega) (by omega)] at e1 e2
    subst e1 e2
    rcases q with q | q | q | ⟨q1, q2, q3⟩
    · omega
    · omega
    · omega
    · simp only [tn_nat] at q3
      omega
  have e53 : M 53 (Int32.toNatClampNeg 0) = zI (gNb S) := h.1
  have k1 : zI a < 0 ↔ a < 0 := by rw [lz0, zI_lt (by omega) (by omega) (by omega) (by omega)]
  have k2 : zI (gNb S : Int) ≤ zI a ↔ (gNb S : Int) ≤ a := by rw [zI_le (by omega) (by omega) (by omega) (by omega)]
  have k3 : zI d < 0 ↔ d < 0 := by rw [lz0, zI_lt (by omega) (by omega) (by omega) (by omega)]
  unfold w_X7_isVoice
  rw [e53]
  simp only [k1, k2, k3]
  have hz : ∀ P : Int32 → Prop, (P 0 → P 0) := fun _ z => z
  by_cases g1 : a < 0
  · simp only [g1, not_true_eq_false, false_implies, true_implies, if_true, and_true]
    refine ⟨trivial, fun z3 e3 => ?_⟩
    subst e3
    exact ⟨Or.inl rfl, no (Or.inl g1)⟩
  · by_cases g2 : (gNb S : Int) ≤ a
    · refine ⟨⟨fun _ => trivial, fun _ => ⟨vi0, fun _ => trivial, fun q => absurd g2 q⟩⟩, fun z3 e3 => ?_⟩
      rw [if_neg g1, if_pos g2] at e3
      subst e3
      exact ⟨Or.inl rfl, no (Or.inr (Or.inl g2))⟩
    · by_cases g3 : d < 0
      · refine ⟨⟨fun _ => trivial, fun _ => ⟨vi0, fun _ => trivial, fun _ => ⟨fun _ => trivial, fun q => absurd g3 q⟩⟩⟩, fun z3 e3 => ?_⟩
        rw [if_neg g1, if_neg g2, if_pos g3] at e3
        subst e3
        exact ⟨Or.inl rfl, no (Or.inr (Or.inr (Or.inl g3)))⟩
      · have e57 : M 57 a.toNat = zI (gVo S a.toNat) := by
          have := (h.2.2.2.1 a.toNat (by omega)).1
          rw [show 60 * 0 + a.toNat = a.toNat by omega] at this
          exact this
        have g5 := hv.2.2.2.2.1 a.toNat (by omega)
        have k4 : zI (gVo S a.toNat : Int) ≤ zI d ↔ (gVo S a.toNat : Int) ≤ d := by rw [zI_le (by omega) (by omega) (by omega) (by omega)]
        rw [zI_tn a1 a2, zI_in a1 a2, e57]
        simp only [k4]
        refine ⟨⟨fun _ => trivial, fun _ => ⟨vi0, fun _ => trivial, fun _ => ⟨fun _ => trivial, fun _ => ⟨by omega, fun _ => trivial, fun _ => trivial⟩⟩⟩⟩, fun z3 e3 => ?_⟩
        rw [if_neg g1, if_neg g2, if_neg g3] at e3
        by_cases g4 : (gVo S a.toNat : Int) ≤ d
        · rw [if_pos g4] at e3
          subst e3
          exact ⟨Or.inl rfl, no (Or.inr (Or.inr (Or.inr ⟨by omega, by omega, g4⟩)))⟩
        · rw [if_neg g4] at e3
          subst e3
          exact ⟨Or.inr rfl, h1 a.toNat d.toNat (by rw [show ((a.toNat : Nat) : Int) = a by omega]) (by rw [show ((d.toNat : Nat) : Int) = d by omega]) (by omega) (by omega)⟩
theorem x_ways {p1 p2 : Int32} (h : RS M S c row) (h1 : ∀ b v : Nat, p1 = zI b → p2 = zI v → b < gNb S → v < gVo S b → ∀ M' : Mem, fr M M' → Q (zI (waysV S (3 * b + v))) M') (h0 : (∀ b v : Nat, p1 = zI b → p2 = zI v → b < gNb S → v < gVo S b → False) → Q (-1) M) : w_X7_ways p1 p2 M Q := by
  have hM := h.2.2.2.2.1
  have hv := h.2.2.2.2.2.2
  have hL := h.2.2.1
  unfold w_X7_ways
  refine x_isVoice hM hv (fun b v ep1 ep2 hb hvv => ⟨fun _ => ?_, fun q => absurd q (by decide)⟩) (fun q => ⟨fun z => absurd rfl z, fun _ => h0 q⟩)
  have hQ := h1 b v ep1 ep2 hb hvv
  subst ep1 ep2
  have hs := hv.2.2.2.2.2.2.1 b v hb hvv
  obtain ⟨hr1, hr2, hr3⟩ := hs
  have hb3 := hv.2.2.2.2.1 b hb
  have hnb := hv.2.2.1
  have hni := hv.2.2.2.1
  have hlen := hv.1
  have hf : ∀ j : Nat, j < gSz S (3 * b + v) → 4 ≤ sml S (gFo S (3 * b + v) + j) ∧ sml S (gFo S (3 * b + v) + j) ≤ 56 := fun j hj => sml_pos hv (by omega)
  have hW0 : waysV S (3 * b + v) = if 0 < gSz S (3 * b + v) ∧ gIt S (gFo S (3 * b + v)) 5 = 2 then 1 else m2 (rw' (fun j => sml S (gFo S (3 * b + v) + j)) (gSz S (3 * b + v)) (gLen S)) := rfl
  rw [hW0] at hQ
  rw [lz0]
  refine x_voiceFirst (o := 0) (by omega) hM hv hb hvv (x_voiceSize (o := 0) (by omega) hM hv hb hvv ?_)
  generalize gFo S (3 * b + v) = f0 at *
  generalize gSz S (3 * b + v) = n at *
  have cn : zI (n : Int) = zI 0 ↔ n = 0 := by rw [zI_eq (by omega) (by omega) (by omega) (by omega)]; omega
  rw [cn]
  refine ⟨fun q => ?_, fun q => ?_⟩
  · rw [if_neg q, show ((600 * 0 + f0 : Nat) : Int) = (f0 : Int) by omega]
    have hi : f0 < gNi S := by omega
    have e5 : M 63 f0 = zI (gIt S f0 5) := RM0_at hM hi (a := 5) (by omega)
    obtain ⟨-, -, -, -, -, w5, -⟩ := hv.2.2.2.2.2.1 f0 hi
    rw [zI_in (by omega) (by omega), zI_tn (by omega) (by omega), tn_nat, e5, lz2, zI_eq (by omega) (by omega) (by omega) (by omega)]
    refine ⟨by omega, fun q2 => ?_, fun q2 => ?_⟩
    · rw [if_neg (fun z => q2 z.2)] at hQ
      generalize hG : gLen S = len at *
      generalize hF : (fun j => sml S (f0 + j)) = F at *
      have hFj : ∀ j : Nat, sml S (f0 + j) = F j := fun j => by rw [← hF]
      have hF4 : ∀ j : Nat, j < n → 4 ≤ F j ∧ F j ≤ 56 := fun j hj => by rw [← hFj]; exact hf j hj
      have inner : ∀ (k i s : Nat) (Mx : Mem) (B : Int32 → Int32 → Int32 → Int32 → Int32 → Mem → Prop), i < n → (s : Int) - 1 ≤ len → s < k → (∀ k : Nat, k ≠ 69 → Mx k = M k) → (∀ t : Nat, (t : Int) ≤ len → Mx 69 t = zI (m2 (rw' F (if t < s then i else i + 1) t))) → (∀ My : Mem, (∀ k : Nat, k ≠ 69 → My k = M k) → (∀ t : Nat, (t : Int) ≤ len → My 69 t = zI (m2 (rw' F (i + 1) t))) → B (zI b) (zI v) (zI f0) (zI n) (zI ((f0 + (i + 1) : Nat) : Int)) My) → w_X7_ways_140 Q B k (zI b) (zI v) (zI f0) (zI n) (zI ((f0 + i : Nat) : Int)) (zI (16 * F i)) (zI (F i)) (zI ((s : Int) - 1)) Mx := by
        intro k
        induction k with
        | zero => intro i s Mx B g1 g2 g3; omega
        | succ k ih =>
          intro i s Mx B hi hs2 hk f1 f4 hB
          have hfi := hF4 i hi
          show wb_X7_ways_140 Q B (w_X7_ways_140 Q B k) _ _ _ _ _ _ _ _ Mx
          unfold wb_X7_ways_140
          have k0 : zI ((s : Int) - 1) < 0 ↔ s = 0 := by rw [lz0, zI_lt (by omega) (by omega) (by omega) (by omega)]; omega
          have k1 : zI ((s : Int) - 1) < zI (16 * F i) ↔ (s : Int) - 1 < 16 * F i := by rw [zI_lt (by omega) (by omega) (by omega) (by omega)]
          have k2 : zI ((s : Int) - 1) < zI (F i) ↔ (s : Int) - 1 < F i := by rw [zI_lt (by omega) (by omega) (by omega) (by omega)]
          simp only [k0, k1, k2]
          refine ⟨fun q1 x18 e18 => ?_, fun q1 => ⟨⟨fun _ => trivial, fun g1 => ⟨?_, trivial⟩⟩, fun z20 e20 => ⟨⟨fun _ => trivial, fun g1 => ⟨?_, trivial⟩⟩, fun z22 e22 x23 e23 z24 e24 => ⟨?_, fun M26 e26 x27 e27 => ?_⟩⟩⟩⟩
          · have e18' : x18 = zI ((f0 + (i + 1) : Nat) : Int) := by rw [e18, lz1, zI_add]; rfl
            subst e18'
            exact hB Mx f1 (fun t ht => by rw [f4 t ht, if_neg (by omega)])
          · rw [zI_sub, zI_in (by omega) (by omega)]; omega
          · rw [zI_sub, zI_in (by omega) (by omega)]; omega
          · rw [zI_in (by omega) (by omega)]; omega
          · have val : ∀ (d : Int) (z : Int32), 1 ≤ d → d ≤ 896 → z = (if (s : Int) - 1 < d then 0 else Mx 69 (Int32.toNatClampNeg (zI ((s : Int) - 1) - zI d))) → z = zI (m2 (rw' F i ((s : Int) - 1 - d))) := by
              intro d z hd hd2 ez
              by_cases g : (s : Int) - 1 < d
              · rw [if_pos g] at ez
                rw [ez, rw_neg i _ (fun j hj => by have := hF4 j (by omega); omega) (by omega)]
                rfl
              · rw [if_neg g, zI_sub, zI_tn (by omega) (by omega), f4 _ (by omega), if_pos (by omega), show ((((s : Int) - 1 - d).toNat : Nat) : Int) = (s : Int) - 1 - d by omega] at ez
                exact ez
            have v1 := val (16 * F i) z20 (by omega) (by omega) e20
            have v2 := val (F i) z22 (by omega) (by omega) e22
            have e27' : x27 = zI (((s - 1 : Nat) : Int) - 1) := by rw [e27, ln1, zI_add]; congr 1; omega
            have b1 := m2_bd (rw_nn F i ((s : Int) - 1 - 16 * F i))
            have b2 := m2_bd (rw_nn F i ((s : Int) - 1 - F i))
            have e24' : z24 = zI (m2 (rw' F (i + 1) ((s - 1 : Nat) : Int))) := by
              rw [show rw' F (i + 1) ((s - 1 : Nat) : Int) = rw' F i (((s - 1 : Nat) : Int) - 16 * F i) + rw' F i (((s - 1 : Nat) : Int) - F i) from rfl, ← m2_add (rw_nn _ _ _) (rw_nn _ _ _), show (((s - 1 : Nat) : Int) - F i) = (s : Int) - 1 - F i by omega, show (((s - 1 : Nat) : Int) - 16 * F i) = (s : Int) - 1 - 16 * F i by omega, e24, e23, v1, v2, zI_add]
              generalize m2 (rw' F i ((s : Int) - 1 - 16 * F i)) = a1 at *
              generalize m2 (rw' F i ((s : Int) - 1 - F i)) = a2 at *
              have c1 : zI (a1 + a2) ≤ 2 ↔ a1 + a2 ≤ 2 := by rw [lz2, zI_le (by omega) (by omega) (by omega) (by omega)]
              simp only [c1]
              unfold m2
              by_cases g : a1 + a2 ≤ 2
              · rw [if_pos g]
                by_cases g2 : a1 + a2 < 2
                · rw [if_pos g2]
                · rw [if_neg g2]; congr 1; omega
              · rw [if_neg g, if_neg (by omega)]; rfl
            rw [zI_tn (by omega) (by omega), show ((s : Int) - 1).toNat = s - 1 by omega, e24'] at e26
            subst e27'
            refine ih i (s - 1) M26 B hi (by omega) (by omega) (fun k g1 => by rw [e26, mset_o g1]; exact f1 k g1) (fun t ht => ?_) hB
            by_cases g : t = s - 1
            · subst g
              rw [e26, mset_at, if_neg (by omega)]
            · rw [e26, mset_j g, f4 t ht]
              by_cases g2 : t < s
              · rw [if_pos g2, if_pos (by omega)]
              · rw [if_neg g2, if_neg (by omega)]
      have outer : ∀ (k i : Nat) (Mx : Mem), i ≤ n → n - i < k → (∀ k : Nat, k ≠ 69 → Mx k = M k) → (∀ t : Nat, (t : Int) ≤ len → Mx 69 t = zI (m2 (rw' F i t))) → w_X7_ways_85 Q k (zI b) (zI v) (zI f0) (zI n) (zI ((f0 + i : Nat) : Int)) Mx := by
        intro k
        induction k with
        | zero => intro i Mx g1 g2; omega
        | succ k ih =>
          intro i Mx hi hk f1 f4
          show wb_X7_ways_85 Q (w_X7_ways_85 Q k) _ _ _ _ _ Mx
          unfold wb_X7_ways_85
          rw [zI_add, zI_le (by omega) (by omega) (by omega) (by omega), zI_in (by omega) (by omega), zI_tn (a := ((f0 + i : Nat) : Int)) (by omega) (by omega), tn_nat, f1 46 (by omega), f1 62 (by omega), f1 64 (by omega), hL, zI_in (by omega) (by omega), zI_tn (by omega) (by omega), f4 _ (by omega)]
          refine ⟨fun q1 => ⟨by omega, ?_⟩, fun q1 => ⟨by omega, by omega, ?_⟩⟩
          · have : i = n := by omega
            subst this
            rw [show ((len.toNat : Nat) : Int) = len by omega]
            exact hQ Mx (fun k hk => f1 k (by omega))
          · have hj : f0 + i < gNi S := by omega
            obtain ⟨-, -, -, -, w4, -, w6, -⟩ := hv.2.2.2.2.2.1 _ hj
            have e4 : M 62 (f0 + i) = zI (gIt S (f0 + i) 4) := RM0_at hM hj (a := 4) (by omega)
            have e6 : M 64 (f0 + i) = zI (gIt S (f0 + i) 6) := RM0_at hM hj (a := 6) (by omega)
            rw [e4, e6, lz0]
            refine x_lasts w4 (by omega) w6 ⟨by omega, by omega, ?_⟩
            rw [f1 62 (by omega), f1 64 (by omega), e4, e6, lz1]
            refine x_lasts w4 (by omega) w6 (fun x17 e17 => ⟨(len + 1).toNat + 1, ?_⟩)
            rw [f1 46 (by omega), hL] at e17
            subst e17
            rw [lenI_large]
            show w_X7_ways_140 Q (w_X7_ways_85 Q k) _ _ _ _ _ _ (zI (16 * sml S (f0 + i))) (zI (sml S (f0 + i))) _ _
            rw [hFj]
            have := inner ((len + 1).toNat + 1) i (len + 1).toNat Mx (w_X7_ways_85 Q k) (by omega) (by omega) (by omega) f1 (fun t ht => by rw [f4 t ht, if_pos (by omega)]) (fun My g1 g4 => ih (i + 1) My (by omega) (by omega) g1 g4)
            rw [show (((len + 1).toNat : Nat) : Int) - 1 = len by omega] at this
            exact this
      have start : ∀ (k s : Nat) (Mx : Mem), (s : Int) ≤ len + 1 → (len + 1).toNat - s < k → (∀ k : Nat, k ≠ 69 → Mx k = M k) → (∀ t : Nat, t < s → Mx 69 t = zI (m2 (rw' F 0 t))) → w_X7_ways_50 Q k (zI b) (zI v) (zI f0) (zI n) (zI s) Mx := by
        intro k
        induction k with
        | zero => intro s Mx g1 g2; omega
        | succ k ih =>
          intro s Mx hs2 hk f1 f4
          show wb_X7_ways_50 Q (w_X7_ways_50 Q k) _ _ _ _ _ Mx
          unfold wb_X7_ways_50
          rw [f1 46 (by omega), hL, zI_lt (by omega) (by omega) (by omega) (by omega), zI_in (by omega) (by omega), zI_tn (by omega) (by omega), tn_nat]
          refine ⟨fun q1 => ⟨n + 1, ?_⟩, fun q1 z16 e16 => ⟨by omega, fun M18 e18 x19 e19 => ?_⟩⟩
          · exact outer (n + 1) 0 Mx (by omega) (by omega) f1 (fun t ht => f4 t (by omega))
          · have e19' : x19 = zI ((s + 1 : Nat) : Int) := by rw [e19, lz1, zI_add]; rfl
            subst e19'
            have e16' : z16 = zI (m2 (rw' F 0 s)) := by
              rw [e16]
              have c1 : zI (s : Int) = 0 ↔ (s : Int) = 0 := by rw [lz0, zI_eq (by omega) (by omega) (by omega) (by omega)]
              unfold rw'
              by_cases g : (s : Int) = 0
              · rw [if_pos (c1.mpr g), if_pos g]; rfl
              · rw [if_neg (fun q => g (c1.mp q)), if_neg g]; rfl
            rw [e16'] at e18
            refine ih (s + 1) M18 (by omega) (by omega) (fun k g1 => by rw [e18, mset_o g1]; exact f1 k g1) (fun t ht => ?_)
            by_cases g : t = s
            · subst g; rw [e18, mset_at]
            · rw [e18, mset_j g]; exact f4 t (by omega)
      exact ⟨(len + 1).toNat + 1, start _ 0 M (by omega) (by omega) (fun k g1 => rfl) (fun t ht => by omega)⟩
    · rw [if_pos ⟨by omega, q2⟩] at hQ
      exact hQ M fr_rf
  · subst q
    rw [if_neg (by omega), show rw' (fun j => sml S (f0 + j)) 0 (gLen S) = 0 by unfold rw'; rw [if_neg (by omega)]] at hQ
    exact hQ M fr_rf
theorem op_ways {K : Int32 → Int32 → Mem → Prop} {R : Int32 → Mem → Prop} (h : ST M S c row r m) (p1 p2 : Int32) (hR : ∀ v M1, fz M M1 → w_X7_ways p1 p2 M1 (K v) → R v M1) (hK : ∀ v M2, INV M2 → ke M M2 → K v v M2) : w_X6_ways m p1 p2 M R := by
  have same : INV M := ⟨S, c, row, r, m, h⟩
  have hv := h.2.1.2.2.2.2.2.2
  have h5 := h.1.2.2.2.2.1
  refine ⟨h5, e_slotOf h.1.2.2.2.2.2.2.2.2.2.2.1 hv (fun b v e1 e2 hb hvv => ?_) (fun no => ?_)⟩
  · have hb3 := hv.2.2.2.2.1 b hb
    have hnb := hv.2.2.1
    rw [lz0, zI_le (by omega) (by omega) (by omega) (by omega)]
    refine ⟨fun _ => ⟨h5, e_countWays h.1 hb hvv (fun M1 f1 => hR _ _ (fz_fs f1) (x_ways (RS_fz h.2.1 (fz_fs f1)) (fun b' v' e1' e2' hb' hvv' M2 f2 => ?_) (fun no => (no b v e1 e2 hb hvv).elim)))⟩, fun q => by omega⟩
    have hb3' := hv.2.2.2.2.1 b' hb'
    have : b' = b := by
      rw [e1, zI_eq (by omega) (by omega) (by omega) (by omega)] at e1'
      omega
    have : v' = v := by
      rw [e2, zI_eq (by omega) (by omega) (by omega) (by omega)] at e2'
      omega
    subst_vars
    exact hK _ _ (inv_of (CS_fs h.1 f1) (fl_fr f2) (RS_fr (RS_fz h.2.1 (fz_fs f1)) f2) h.2.2) (ke_of (fz_fs f1) (fl_fr f2))
  · refine ⟨fun q => absurd q (by decide), fun _ => hR _ _ fz_rf (x_ways h.2.1 (fun b v e1 e2 hb hvv => (no b v e1 e2 hb hvv).elim) (fun _ => hK _ _ same ke_rf))⟩
end Ways2
