section Ref4
variable {M : Mem} {S : Mus} {c : Nat} {row : Nat → Int} {Q : Int32 → Mem → Prop}
/-- a slot that isn't empty lasts as long as its first item at least -/
theorem slotL_first {b v : Nat} (hv : MV S) (hb : b < gNb S) (hvv : v < gVo S b) (hs : 0 < gSz S (3 * b + v)) : lastG S (gFo S (3 * b + v)) ≤ slotL S (3 * b + v) := by
  obtain ⟨r1, -, -⟩ := hv.2.2.2.2.2.2.1 b v hb hvv
  unfold slotL
  have e : gSz S (3 * b + v) = 1 + (gSz S (3 * b + v) - 1) := by omega
  rw [e, sumF_add]
  have := (sumF_le (f := lastG S) (a := gFo S (3 * b + v) + 1) (lo := 0) (hi := 2048) (gSz S (3 * b + v) - 1) (fun j hj => by
    have := lastG_pos hv (i := gFo S (3 * b + v) + 1 + j) (by omega)
    omega)).1
  have e1 : sumF (lastG S) (gFo S (3 * b + v)) 1 = lastG S (gFo S (3 * b + v)) := by simp [sumF]
  rw [e1]
  omega
theorem x_barred {t : Int} (h : RS M S c row) (ht : t = -1 ∨ (1 ≤ t ∧ t ≤ 2048)) (hS : (lastS S < 0 ∨ gLen S < slotL S (lastS S).toNat + (if t < 0 then gLen S else t)) → Q (-3) M) (hF : ¬ lastS S < 0 → slotL S (lastS S).toNat + (if t < 0 then gLen S else t) ≤ gLen S → (gSz S (lastS S).toNat = 40 ∨ gNi S = 600) → Q (-4) M) (h0 : ¬ lastS S < 0 → slotL S (lastS S).toNat + (if t < 0 then gLen S else t) ≤ gLen S → gSz S (lastS S).toNat < 40 → gNi S < 600 → Q 0 M) : w_X7_barred (zI t) M Q := by
  have hM := h.2.2.2.2.1
  have hl := h.2.2.1
  have hv := h.2.2.2.2.2.2
  have hnb := hv.2.2.1
  have hni := hv.2.2.2.1
  have hlen := hv.1
  unfold w_X7_barred
  refine ⟨vi0, fun x2 e2 => ?_⟩
  rw [tc0, hM.1, lz1, zI_sub] at e2
  by_cases g : gNb S = 0
  · subst e2
    refine ⟨fun _ => hS (Or.inl (by unfold lastS; rw [if_pos (Or.inl g)]; omega)), fun q => ?_⟩
    rw [lz0, zI_lt (by omega) (by omega) (by omega) (by omega)] at q
    omega
  · have e2' : x2 = zI ((gNb S - 1 : Nat) : Int) := by rw [e2]; congr 1; omega
    subst e2'
    obtain ⟨b1, b2⟩ := hM.2.2.2.1 (gNb S - 1) (by omega)
    rw [Nat.mul_zero, Nat.zero_add] at b1 b2
    have hb3 := hv.2.2.2.2.1 (gNb S - 1) (by omega)
    refine ⟨fun q => by rw [lz0, zI_lt (by omega) (by omega) (by omega) (by omega)] at q; omega, fun _ => ?_⟩
    rw [zI_in (by omega) (by omega), zI_tn (by omega) (by omega), tn_nat, b2]
    by_cases g2 : gVo S (gNb S - 1) = 0
    · rw [if_pos g2]
      exact ⟨by omega, fun q => absurd (by decide +kernel) q, fun _ => hS (Or.inl (by unfold lastS; rw [if_pos (Or.inr g2)]; omega))⟩
    · rw [if_neg g2]
      refine ⟨by omega, fun _ => ⟨by omega, fun x5 e5 => ?_⟩, fun q => absurd q (by decide +kernel)⟩
      rw [b1, lz1, zI_sub] at e5
      have e5' : x5 = zI ((gVo S (gNb S - 1) - 1 : Nat) : Int) := by rw [e5]; congr 1; omega
      subst e5'
      have hls : ¬ lastS S < 0 := by unfold lastS; rw [if_neg (by omega)]; omega
      obtain ⟨l1, l2, l3⟩ := lastS_sp hls
      have l4 : (lastS S).toNat = 3 * (gNb S - 1) + (gVo S (gNb S - 1) - 1) := by rw [l3]; rfl
      obtain ⟨r1, r2, r3⟩ := hv.2.2.2.2.2.2.1 _ _ l1 l2
      have hsl := slotL_bd hv l1 l2
      have hsf := slotL_first hv l1 l2
      have hss := sel_sum hv l1 l2 (lastG S)
      have hz : gSz S (3 * (gNb S - 1) + (gVo S (gNb S - 1) - 1)) = 0 → slotL S (3 * (gNb S - 1) + (gVo S (gNb S - 1) - 1)) = 0 := fun k => by unfold slotL; rw [k]; rfl
      rw [l4] at hS hF h0
      generalize hsd : 3 * (gNb S - 1) + (gVo S (gNb S - 1) - 1) = sd at *
      have full : slotL S sd + (if t < 0 then gLen S else t) ≤ gLen S → w_X7_barred_96 Q (zI t) (zI ((gNb S - 1 : Nat) : Int)) (zI ((gVo S (gNb S - 1) - 1 : Nat) : Int)) (zI (gSz S sd)) (if gSz S sd = 0 then -1 else zI ((600 * 0 + gFo S sd : Nat) : Int)) M := by
        intro k
        unfold w_X7_barred_96
        have c40 : zI (gSz S sd : Int) = 40 ↔ gSz S sd = 40 := by rw [lz40, zI_eq (by omega) (by omega) (by omega) (by omega)]; omega
        have c600 : zI (gNi S : Int) = 600 ↔ gNi S = 600 := by rw [lz600, zI_eq (by omega) (by omega) (by omega) (by omega)]; omega
        rw [tc0, hM.2.1]
        simp only [c40, c600]
        refine ⟨⟨fun _ => trivial, fun _ => ⟨vi0, fun _ => trivial, fun _ => trivial⟩⟩, fun z hz2 => ?_⟩
        by_cases q1 : gSz S sd = 40
        · rw [if_pos q1] at hz2; subst hz2; exact hF hls k (Or.inl q1)
        · rw [if_neg q1] at hz2
          by_cases q2 : gNi S = 600
          · rw [if_pos q2] at hz2; subst hz2; exact hF hls k (Or.inr q2)
          · rw [if_neg q2] at hz2; subst hz2; exact h0 hls k (by omega) (by omega)
      have rest : ¬ (t < 0 ∧ 0 < gSz S sd) → w_X7_barred_73 Q (zI t) (zI ((gNb S - 1 : Nat) : Int)) (zI ((gVo S (gNb S - 1) - 1 : Nat) : Int)) (zI (gSz S sd)) (if gSz S sd = 0 then -1 else zI ((600 * 0 + gFo S sd : Nat) : Int)) M := by
        intro k
        unfold w_X7_barred_73
        have c0 : zI t < 0 ↔ t < 0 := by rw [lz0, zI_lt (by omega) (by omega) (by omega) (by omega)]
        rw [c0]
        refine ⟨fun q => full ?_, fun q => ?_⟩
        · rw [if_pos q, hz (by omega)]; omega
        · rw [if_neg q] at hS hF h0 full
          rw [lz0]
          refine x_voiceLasts (o := 0) (by omega) hM hl hv (by omega) (by omega) ?_
          rw [hss, hl, zI_add]
          unfold slotL at hsl full hS
          rw [zI_le (by omega) (by omega) (by omega) (by omega)]
          exact ⟨fun k2 => full k2, fun k2 => hS (Or.inr (by omega))⟩
      rw [lz0]
      refine x_voiceSize (o := 0) (by omega) hM hv l1 l2 ?_
      rw [hsd]
      refine x_voiceFirst (o := 0) (by omega) hM hv l1 l2 ?_
      rw [hsd]
      have cz : zI (gSz S sd : Int) ≤ zI 0 ↔ gSz S sd = 0 := by rw [zI_le (by omega) (by omega) (by omega) (by omega)]; omega
      rw [cz]
      refine ⟨fun q => rest (by omega), fun q => ?_⟩
      rw [if_neg q] at rest ⊢
      have hi : gFo S sd < gNi S := by omega
      have e63 : M 63 (600 * 0 + gFo S sd) = zI (gIt S (gFo S sd) 5) := RM_at hM hi (a := 5) (by omega)
      have w5 := (hv.2.2.2.2.2.1 _ hi).2.2.2.2.2.1
      rw [zI_in (by omega) (by omega), zI_tn (by omega) (by omega), tn_nat, e63, lz2, zI_eq (by omega) (by omega) (by omega) (by omega), zI_lt (by omega) (by omega) (by omega) (by omega)]
      have hsf2 := hsf (by omega)
      refine ⟨by omega, fun q1 => hS (Or.inr ?_), fun q1 => ⟨fun q2 => hS (Or.inr ?_), fun q2 => rest (by omega)⟩⟩
      · unfold lastG at hsf2
        rw [if_pos q1] at hsf2
        by_cases k : t < 0
        · rw [if_pos k]; omega
        · rw [if_neg k]; omega
      · have := lastG_pos hv hi
        rw [if_pos q2]; omega
theorem x_note {a2 a3 a4 a5 a6 : Int} (h : RS M S c row) (b2 : -2147483648 ≤ a2 ∧ a2 < 2147483648) (b3 : -2147483648 ≤ a3 ∧ a3 < 2147483648) (b4 : -2147483648 ≤ a4 ∧ a4 < 2147483648) (b5 : -2147483648 ≤ a5 ∧ a5 < 2147483648) (b6 : -2147483648 ≤ a6 ∧ a6 < 2147483648) (hR : ¬ okNote a2 a3 a4 a5 a6 → Q (-2) M) (hS : okNote a2 a3 a4 a5 a6 → (lastS S < 0 ∨ gLen S < slotL S (lastS S).toNat + lenI a4 a5 a6) → Q (-3) M) (hF : okNote a2 a3 a4 a5 a6 → ¬ lastS S < 0 → slotL S (lastS S).toNat + lenI a4 a5 a6 ≤ gLen S → (gSz S (lastS S).toNat = 40 ∨ gNi S = 600) → Q (-4) M) (hQ : okNote a2 a3 a4 a5 a6 → ¬ lastS S < 0 → slotL S (lastS S).toNat + lenI a4 a5 a6 ≤ gLen S → gSz S (lastS S).toNat < 40 → gNi S < 600 → ∀ M' : Mem, RS M' (sItem S a2 a3 a4 a5 a6) c row → fl M M' → Q (zI (gNi S)) M') : w_X7_note (zI a2) (zI a3) (zI a4) (zI a5) (zI a6) M Q := by
  have hR' := hR
  unfold okNote at hR
  unfold w_X7_note
  simp only [lz0, lz1, lz2, lz3, lz7, lz55]
  simp (disch := omega) only [zI_lt, zI_le]
  rw [lz2] at hR
  refine ⟨fun q => hR (by omega), fun q1 => ⟨fun q => hR (by omega), fun q2 => ⟨fun q => hR (by omega), fun q3 => ⟨fun q => hR (by omega), fun q4 => ⟨fun q => hR (by omega), fun q5 => ⟨fun q => hR (by omega), fun q6 => ⟨fun q => hR (by omega), fun q7 => ⟨fun q => hR (by omega), fun q8 => ⟨fun q => hR (by omega), fun q9 => ⟨fun q10 => ?_, fun q => hR (by omega)⟩⟩⟩⟩⟩⟩⟩⟩⟩⟩
  have ok : okNote a2 a3 a4 a5 a6 := ⟨by omega, by omega, by omega, by omega, by omega⟩
  have hln := lenI_pos (k := a4) (s := a5) (d := a6) (by omega) (by omega)
  refine x_lasts (by omega) (by omega) (by omega) ?_
  have ng : ¬ lenI a4 a5 a6 < 0 := by omega
  refine x_barred h (Or.inr (by omega)) (fun k => ?_) (fun k1 k2 k3 => ?_) (fun k1 k2 k3 k4 => ?_)
  · rw [if_neg ng] at k
    exact ⟨fun q => absurd q (by decide +kernel), fun _ => hS ok k⟩
  · rw [if_neg ng] at k2
    exact ⟨fun q => absurd q (by decide +kernel), fun _ => hF ok k1 k2 k3⟩
  · rw [if_neg ng] at k2
    refine ⟨fun _ => ?_, fun q => absurd (by decide +kernel) q⟩
    have := x_put (a2 := a2) (a3 := a3) (a4 := a4) (a5 := a5) (a6 := a6) h k1 k4 k3 (Or.inr (by omega)) (by omega) (by omega) (by omega) (by omega) (fun M' g1 g2 => hQ ok k1 k2 k3 k4 M' g1 g2)
    have e : rp a2 = a2 := if_neg (by omega)
    rw [e] at this
    exact this
theorem x_rest {a4 a5 a6 : Int} (h : RS M S c row) (b4 : -2147483648 ≤ a4 ∧ a4 < 2147483648) (b5 : -2147483648 ≤ a5 ∧ a5 < 2147483648) (b6 : -2147483648 ≤ a6 ∧ a6 < 2147483648) (hR : ¬ okRest a4 a5 a6 → Q (-2) M) (hS : okRest a4 a5 a6 → (lastS S < 0 ∨ gLen S < slotL S (lastS S).toNat + (if a5 = 2 then gLen S else lenI a4 a5 a6)) → Q (-3) M) (hF : okRest a4 a5 a6 → ¬ lastS S < 0 → slotL S (lastS S).toNat + (if a5 = 2 then gLen S else lenI a4 a5 a6) ≤ gLen S → (gSz S (lastS S).toNat = 40 ∨ gNi S = 600) → Q (-4) M) (hQ : okRest a4 a5 a6 → ¬ lastS S < 0 → slotL S (lastS S).toNat + (if a5 = 2 then gLen S else lenI a4 a5 a6) ≤ gLen S → gSz S (lastS S).toNat < 40 → gNi S < 600 → ∀ M' : Mem, RS M' (sItem S 0 0 a4 a5 a6) c row → fl M M' → Q (zI (gNi S)) M') : w_X7_rest (zI a4) (zI a5) (zI a6) M Q := by
  have go : ∀ t : Int, okRest a4 a5 a6 → (t = -1 ∨ (1 ≤ t ∧ t ≤ 2048)) → (if t < 0 then gLen S else t) = (if a5 = 2 then gLen S else lenI a4 a5 a6) → w_X7_rest_59 Q (zI a4) (zI a5) (zI a6) (zI t) M := by
    intro t ok ht he
    unfold w_X7_rest_59
    have ok' := ok
    unfold okRest at ok'
    refine x_barred h ht (fun k => ?_) (fun k1 k2 k3 => ?_) (fun k1 k2 k3 k4 => ?_)
    · rw [he] at k
      exact ⟨fun q => absurd q (by decide), fun _ => hS ok k⟩
    · rw [he] at k2
      exact ⟨fun q => absurd q (by decide), fun _ => hF ok k1 k2 k3⟩
    · rw [he] at k2
      refine ⟨fun _ => ?_, fun q => absurd rfl q⟩
      have := x_put (a2 := 0) (a3 := 0) (a4 := a4) (a5 := a5) (a6 := a6) h k1 k4 k3 (Or.inl rfl) (by omega) ok'.1 ok'.2.1 ok'.2.2.1 (fun M' g1 g2 => hQ ok k1 k2 k3 k4 M' g1 g2)
      have e : rp 0 = -1 := if_pos rfl
      rw [e, ← zI_neg, ← lz1, ← lz0] at this
      exact this
  have go2 : okRest a4 a5 a6 → w_X7_rest_43 Q (zI a4) (zI a5) (zI a6) M := by
    intro ok
    have ok' := ok
    unfold okRest at ok'
    unfold w_X7_rest_43
    have c2 : zI a5 = 2 ↔ a5 = 2 := by rw [lz2, zI_eq (by omega) (by omega) (by omega) (by omega)]
    rw [c2]
    refine ⟨fun q => x_lasts ok'.1 (by omega) ok'.2.2.1 ?_, fun q => ?_⟩
    · have hln := lenI_pos (k := a4) (s := a5) (d := a6) ok'.1 ok'.2.2.1
      exact go _ ok (Or.inr (by omega)) (by rw [if_neg (by omega), if_neg q])
    · rw [lz1, zI_neg]
      exact go (-1) ok (Or.inl rfl) (by rw [if_pos (by omega), if_pos q])
  have hR' : ¬ ((0 ≤ a4 ∧ a4 ≤ 3) ∧ (0 ≤ a5 ∧ a5 ≤ 2) ∧ (0 ≤ a6 ∧ a6 ≤ 2) ∧ (a5 = 2 → a4 = 0 ∧ a6 = 0)) → Q (-2) M := hR
  unfold w_X7_rest
  simp only [lz0, lz2, lz3]
  simp (disch := omega) only [zI_lt, zI_le, zI_eq]
  rw [lz2] at hR'
  refine ⟨fun q => hR' (by omega), fun q1 => ⟨fun q => hR' (by omega), fun q2 => ⟨fun q => hR' (by omega), fun q3 => ⟨fun q => hR' (by omega), fun q4 => ⟨fun q => hR' (by omega), fun q5 => ⟨fun q => hR' (by omega), fun q6 => ⟨fun q => go2 ⟨by omega, by omega, by omega, fun k => absurd k q⟩, fun q => ⟨fun q7 => hR' (by omega), fun q7 => ⟨fun q8 => go2 ⟨by omega, by omega, by omega, fun _ => by omega⟩, fun q8 => hR' (by omega)⟩⟩⟩⟩⟩⟩⟩⟩⟩
end Ref4
