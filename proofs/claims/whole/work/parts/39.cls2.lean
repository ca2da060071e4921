section Cls2
variable {M : Mem} {S : Mus} {c r m : Nat} {row : Nat → Int} {Q : Int32 → Mem → Prop}
theorem MV_hd {x : Int} (h : MV S) (hx : 0 ≤ x ∧ x ≤ 2) : MV (sHd S x) := ⟨h.1, hx, h.2.2⟩
theorem MW_hd {x : Int} (h : MW M m S) : MW (mset M m 1 (zI x)) m (sHd S x) := by
  obtain ⟨q0, q1, q2, q3, q4, q5, q6, q7⟩ := h
  have far : ∀ k : Nat, k ≠ m → mset M m 1 (zI x) k = M k := fun k g => mset_o g
  exact ⟨by rw [mset_j (by omega)]; exact q0, by rw [mset_at]; rfl, by rw [mset_j (by omega)]; exact q2, by rw [mset_j (by omega)]; exact q3, fun b hb => by rw [far _ (by omega)]; exact q4 b hb, fun b v hb hv => by rw [far _ (by omega), far _ (by omega)]; exact q5 b v hb hv, fun i a hi ha => by rw [far _ (by omega)]; exact q6 i a hi ha, fun i k hi hk => by rw [far _ (by omega)]; exact q7 i k hi hk⟩
theorem MV_len {x : Int} (h : MV S) (h0 : gNb S = 0) (hx : 1 ≤ x ∧ x ≤ 2048) : MV (sLen S x) := ⟨hx, h.2⟩
theorem MW_len {x : Int} (h : MW M m S) : MW (mset M m 0 (zI x)) m (sLen S x) := by
  obtain ⟨q0, q1, q2, q3, q4, q5, q6, q7⟩ := h
  have far : ∀ k : Nat, k ≠ m → mset M m 0 (zI x) k = M k := fun k g => mset_o g
  exact ⟨by rw [mset_at]; rfl, by rw [mset_j (by omega)]; exact q1, by rw [mset_j (by omega)]; exact q2, by rw [mset_j (by omega)]; exact q3, fun b hb => by rw [far _ (by omega)]; exact q4 b hb, fun b v hb hv => by rw [far _ (by omega), far _ (by omega)]; exact q5 b v hb hv, fun i a hi ha => by rw [far _ (by omega)]; exact q6 i a hi ha, fun i k hi hk => by rw [far _ (by omega)]; exact q7 i k hi hk⟩
/-- the METER's numbers -/
def okMet (u d : Int) : Prop := 1 ≤ u ∧ u ≤ 16 ∧ (d = 1 ∨ d = 2 ∨ d = 4 ∨ d = 8 ∨ d = 16) ∧ 512 * u / d ≤ 2048
theorem met_pos {u d : Int} (h : okMet u d) : 1 ≤ 512 * u / d := by
  obtain ⟨h1, h2, h3, h4⟩ := h
  rcases h3 with rfl | rfl | rfl | rfl | rfl <;> omega
theorem c_meter (p1 p2 : Int32) (h : CS M S c row r m) (hR : ∀ u d : Int, p1 = zI u → p2 = zI d → -2147483648 ≤ u → u < 2147483648 → -2147483648 ≤ d → d < 2147483648 → ¬ okMet u d → Q (-2) M) (hS : ∀ u d : Int, p1 = zI u → p2 = zI d → okMet u d → 0 < gNb S → Q (-3) M) (hQ : ∀ u d : Int, p1 = zI u → p2 = zI d → okMet u d → gNb S = 0 → ∀ M' : Mem, CS M' (sLen S (512 * u / d)) c row r m → fz M M' → Q (zI (512 * u / d)) M') : w_X6_meter m p1 p2 M Q := by
  obtain ⟨u, rfl, u1, u2⟩ := zI_ex p1
  obtain ⟨d, rfl, d1, d2⟩ := zI_ex p2
  have hW := h.2.2.2.2.2.2.2.2.2.2.1
  have hv := h.2.2.2.2.2.2.2.2.2.2.2
  have h5 := h.2.2.2.2.1
  have hnb := hv.2.2.1
  have hR' := hR u d rfl rfl u1 u2 d1 d2
  rw [lz2, zI_neg] at hR'
  unfold w_X6_meter
  simp only [lz0, lz1, lz2, lz3, lz4, lz8, lz16, lz512, lz2048, zI_neg]
  simp (disch := omega) only [zI_eq, zI_lt]
  intro z hz
  refine ⟨fun q => hR' (fun k => by unfold okMet at k; omega), fun q1 => ⟨fun q => hR' (fun k => by unfold okMet at k; omega), fun q2 => ⟨fun q => ?_, fun q => ?_⟩⟩⟩
  · have hd : d = 1 ∨ d = 2 ∨ d = 4 ∨ d = 8 ∨ d = 16 := by
      by_cases g1 : d = 1
      · exact Or.inl g1
      · by_cases g2 : d = 2
        · exact Or.inr (Or.inl g2)
        · by_cases g3 : d = 4
          · exact Or.inr (Or.inr (Or.inl g3))
          · by_cases g4 : d = 8
            · exact Or.inr (Or.inr (Or.inr (Or.inl g4)))
            · by_cases g5 : d = 16
              · exact Or.inr (Or.inr (Or.inr (Or.inr g5)))
              · rw [if_neg g1, if_neg g2, if_neg g3, if_neg g4, if_neg g5] at hz
                exact absurd hz q
    have hdb : 0 ≤ 512 * u / d ∧ 512 * u / d ≤ 8192 := by rcases hd with rfl | rfl | rfl | rfl | rfl <;> omega
    refine ⟨by omega, fun x3 e3 => ?_⟩
    rw [zI_mul, zI_div (by omega) (by omega) (by omega) (by omega)] at e3
    subst e3
    rw [zI_le (by omega) (by omega) (by omega) (by omega), hW.2.2.1, zI_le (by omega) (by omega) (by omega) (by omega)]
    refine ⟨fun q3 => ⟨h5, fun q4 => ⟨h5, fun M6 e6 => ?_⟩, fun q4 => ?_⟩, fun q3 => hR' (fun k => by unfold okMet at k; omega)⟩
    · have ok : okMet u d := ⟨by omega, by omega, hd, q3⟩
      subst e6
      obtain ⟨k1, k2⟩ := CS_mus h (MW_len (x := 512 * u / d) hW) (MV_len hv (by omega) ⟨met_pos ok, q3⟩) (fun k hk => mset_o (by omega))
      exact hQ u d rfl rfl ok (by omega) _ k1 k2
    · have := hS u d rfl rfl ⟨by omega, by omega, hd, q3⟩ (by omega)
      rw [lz3, zI_neg] at this
      exact this
  · refine hR' (fun k => ?_)
    unfold okMet at k
    rw [hz] at q
    obtain ⟨-, -, k3, -⟩ := k
    rcases k3 with rfl | rfl | rfl | rfl | rfl <;> simp at q <;> exact absurd q (by decide)
theorem c_hand (p : Int32) (h : CS M S c row r m) (hR : ∀ a : Int, p = zI a → (a < 0 ∨ 2 < a) → -2147483648 ≤ a → a < 2147483648 → Q (-2) M) (hS : ∀ a : Int, p = zI a → 0 ≤ a → a ≤ 2 → ¬ okHand S a → Q (-3) M) (hQ : ∀ a : Int, p = zI a → 0 ≤ a → a ≤ 2 → okHand S a → ∀ M' : Mem, CS M' (sHd S a) c row r m → fz M M' → Q (zI (gHd S)) M') : w_X6_hand m p M Q := by
  obtain ⟨a, rfl, a1, a2⟩ := zI_ex p
  have hW := h.2.2.2.2.2.2.2.2.2.2.1
  have hv := h.2.2.2.2.2.2.2.2.2.2.2
  have h5 := h.2.2.2.2.1
  unfold w_X6_hand
  have c0 : zI a < 0 ↔ a < 0 := by rw [lz0, zI_lt (by omega) (by omega) (by omega) (by omega)]
  have c2 : zI a ≤ 2 ↔ a ≤ 2 := by rw [lz2, zI_le (by omega) (by omega) (by omega) (by omega)]
  rw [c0, c2]
  refine ⟨fun q => hR a rfl (Or.inl q) a1 a2, fun q1 => ⟨fun q2 => ⟨h5, ?_⟩, fun q2 => hR a rfl (Or.inr (by omega)) a1 a2⟩⟩
  refine e_suitsHand hW hv (by omega) (fun g => ⟨fun _ => ⟨h5, fun x5 e5 => ⟨h5, fun M7 e7 => ?_⟩⟩, fun q => absurd q (by decide)⟩) (fun g => ⟨fun q => absurd rfl q, fun _ => hS a rfl (by omega) (by omega) g⟩)
  rw [hW.2.1] at e5
  subst e5 e7
  obtain ⟨k1, k2⟩ := CS_mus h (MW_hd (x := a) hW) (MV_hd hv (by omega)) (fun k hk => mset_o (by omega))
  exact hQ a rfl (by omega) (by omega) g _ k1 k2
/-- an item for the last voice -/
theorem c_timed {a2 a3 a4 a5 a6 : Int} (h : CS M S c row r m) (h2 : a2 = 0 ∨ (7 ≤ a2 ∧ a2 ≤ 55)) (h3 : 0 ≤ a3 ∧ a3 ≤ 3) (h4 : 0 ≤ a4 ∧ a4 ≤ 3) (h5 : 0 ≤ a5 ∧ a5 ≤ 2) (h6 : 0 ≤ a6 ∧ a6 ≤ 2) (hS : (lastS S < 0 ∨ gLen S < slotL S (lastS S).toNat + (if a5 = 2 then gLen S else lenI a4 a5 a6)) → Q (-3) M) (hF : ¬ lastS S < 0 → slotL S (lastS S).toNat + (if a5 = 2 then gLen S else lenI a4 a5 a6) ≤ gLen S → (gSz S (lastS S).toNat = 40 ∨ gNi S = 600) → Q (-4) M) (hQ : ¬ lastS S < 0 → slotL S (lastS S).toNat + (if a5 = 2 then gLen S else lenI a4 a5 a6) ≤ gLen S → gSz S (lastS S).toNat < 40 → gNi S < 600 → ∀ M' : Mem, CS M' (sItem S a2 a3 a4 a5 a6) c row r m → fz M M' → Q (zI (gNi S)) M') : w_X6_addTimed m (zI a2) (zI a3) (zI a4) (zI a5) (zI a6) M Q := by
  have hW := h.2.2.2.2.2.2.2.2.2.2.1
  have hv := h.2.2.2.2.2.2.2.2.2.2.2
  have hT := h.2.2.2.2.2.2.1
  have hm := h.2.2.2.2.1
  have hb := lastS_bd hv
  have hl := hv.1
  have hni := hv.2.2.2.1
  have go : ∀ t : Int, t = (if a5 = 2 then gLen S else lenI a4 a5 a6) → ¬ lastS S < 0 → w_X6_addTimed_41 m Q (zI a2) (zI a3) (zI a4) (zI a5) (zI a6) (zI (lastS S)) (zI t) M := by
    intro t ht hls
    obtain ⟨l1, l2, l3⟩ := lastS_sp hls
    have l4 : (lastS S).toNat = 3 * (gNb S - 1) + (gVo S (gNb S - 1) - 1) := by rw [l3]; rfl
    have hsl := slotL_bd hv l1 l2
    have hsz := hv.2.2.2.2.2.2.1 _ _ l1 l2
    have hm3 := (hW.2.2.2.2.2.1 _ _ l1 l2).2
    rw [← l4] at hsl hsz hm3
    have htb : 1 ≤ t ∧ t ≤ 2048 := by
      rw [ht]
      by_cases g : a5 = 2
      · rw [if_pos g]; exact hl
      · rw [if_neg g]; have := lenI_pos (s := a5) h4 h6; omega
    rw [← ht] at hS hF hQ
    unfold w_X6_addTimed_41
    refine ⟨hm, ?_⟩
    have hvl : w_X0_voiceLasts m (zI (lastS S)) M (fun v7 M8 => (M8 0 2 = nI m) ∧ ((((v7 + zI t) ≤ (M8 m 0)) → ((M8 0 2 = nI m) ∧ ((vp_in (zI (lastS S)) 180) ∧ (((40 ≤ (M8 (m + 3) (Int32.toNatClampNeg (zI (lastS S))))) → (Q (-4) M8)) ∧ (¬ (40 ≤ (M8 (m + 3) (Int32.toNatClampNeg (zI (lastS S))))) → ((M8 0 2 = nI m) ∧ ((((M8 m 3) < 600) → ((M8 0 2 = nI m) ∧ (w_X0_addItem m (zI a2) (zI a3) (zI a4) (zI a5) (zI a6) M8 (fun v14 M15 => Q v14 M15)))) ∧ (¬ ((M8 m 3) < 600) → (Q (-4) M8))))))))) ∧ (¬ ((v7 + zI t) ≤ (M8 m 0)) → (Q (-3) M8)))) := by
      rw [l3]
      refine e_voiceLasts hT hW hv l1 l2 ?_
      rw [← l4, show (((lastS S).toNat : Nat) : Int) = lastS S by omega, hW.1, zI_add, zI_le (by omega) (by omega) (by omega) (by omega), zI_in (by omega) (by omega), zI_tn (by omega) (by omega), hm3, hW.2.2.2.1]
      simp only [lz40, lz600]
      rw [zI_le (by omega) (by omega) (by omega) (by omega), zI_lt (by omega) (by omega) (by omega) (by omega)]
      refine ⟨hm, fun q1 => ⟨hm, by omega, fun q2 => hF hls q1 (Or.inl (by omega)), fun q2 => ⟨hm, fun q3 => ⟨hm, ?_⟩, fun q3 => hF hls q1 (Or.inr (by omega))⟩⟩, fun q1 => hS (Or.inr (by omega))⟩
      refine e_addItem hW hv hls (by omega) (fun M' g1 g2 => ?_)
      obtain ⟨k1, k2⟩ := CS_mus h g1 (MV_item hv hls (by omega) (by omega) h2 h3 h4 (by omega) h6) g2
      exact hQ hls q1 (by omega) (by omega) M' k1 k2
    exact hvl
  unfold w_X6_addTimed
  refine ⟨hm, e_lastSlot hW hv ⟨fun q => ?_, fun q => ?_⟩⟩
  · rw [lz0, zI_le (by omega) (by omega) (by omega) (by omega)] at q
    refine ⟨fun q2 => e_len hT h4 (by omega) h6 (go _ ?_ (by omega)), fun q2 => ⟨hm, ?_⟩⟩
    · rw [lz2, zI_eq (by omega) (by omega) (by omega) (by omega)] at q2
      rw [if_neg q2]
    · rw [lz2, zI_eq (by omega) (by omega) (by omega) (by omega)] at q2
      rw [hW.1]
      exact go _ (by rw [if_pos q2]) (by omega)
  · rw [lz0, zI_le (by omega) (by omega) (by omega) (by omega)] at q
    exact hS (Or.inl (by omega))
theorem c_tie (p : Int32) (h : CS M S c row r m) (hS : (gNi S = 0 ∨ gIt S (gNi S - 1) 2 = 0) → Q (-3) M) (hQ : 0 < gNi S → ¬ gIt S (gNi S - 1) 2 = 0 → ∀ M' : Mem, CS M' (sSet S (gNi S - 1) 7 (if p = 0 then 0 else 1)) c row r m → fz M M' → Q (zI (gIt S (gNi S - 1) 7)) M') : w_X6_tie m p M Q := by
  have hW := h.2.2.2.2.2.2.2.2.2.2.1
  have hv := h.2.2.2.2.2.2.2.2.2.2.2
  have h5 := h.2.2.2.2.1
  have hni := hv.2.2.2.1
  unfold w_X6_tie
  refine ⟨h5, fun x hx => ?_⟩
  rw [hW.2.2.2.1, lz1, zI_sub] at hx
  by_cases g : gNi S = 0
  · subst hx
    refine ⟨fun _ => hS (Or.inl g), fun q => ?_⟩
    rw [lz0, zI_lt (by omega) (by omega) (by omega) (by omega)] at q
    omega
  · have hx2 : x = zI ((gNi S - 1 : Nat) : Int) := by rw [hx]; congr 1; omega
    subst hx2
    refine ⟨fun q => by rw [lz0, zI_lt (by omega) (by omega) (by omega) (by omega)] at q; omega, fun _ => ⟨h5, ?_⟩⟩
    have e7 := MW_at hW (i := gNi S - 1) (a := 7) (by omega) (by omega)
    refine e_isNote hW hv (by omega) (fun g2 => ⟨fun _ => ⟨h5, ?_⟩, fun q => absurd q (by decide)⟩) (fun g2 => ⟨fun q => absurd rfl q, fun _ => hS (Or.inr g2)⟩)
    rw [zI_in (by omega) (by omega), zI_tn (by omega) (by omega), tn_nat]
    refine ⟨by omega, fun x8 e8 => ⟨h5, fun z10 e10 => ⟨by omega, fun M12 e12 => ?_⟩⟩⟩
    rw [show m + 11 = m + 4 + 7 by omega, e7] at e8
    have ez : z10 = zI (if p = 0 then 0 else 1) := by rw [e10]; by_cases gp : p = 0 <;> simp [gp] <;> first | exact lz0 | exact lz1
    rw [ez, show m + 11 = m + 4 + 7 by omega] at e12
    subst e8 e12
    obtain ⟨k1, k2⟩ := CS_mus h (MW_set (i := gNi S - 1) (a := 7) (x := if p = 0 then 0 else 1) hW (Or.inl rfl) (by omega)) (MV_set hv (Or.inl rfl) (by by_cases gp : p = 0 <;> simp [gp])) (fun k hk => mset_o (by omega))
    exact hQ (by omega) g2 _ k1 k2
theorem c_slur (p1 p2 : Int32) (h : CS M S c row r m) (hN : ∀ a : Int, p1 = zI a → (a < 0 ∨ (gNi S : Int) ≤ a) → -2147483648 ≤ a → a < 2147483648 → Q (-1) M) (hQ : ∀ i : Nat, p1 = zI i → i < gNi S → ∀ M' : Mem, CS M' (sSet S i 8 (if p2 = 0 then 0 else 1)) c row r m → fz M M' → Q (zI (gIt S i 8)) M') : w_X6_slur m p1 p2 M Q := by
  obtain ⟨a, rfl, a1, a2⟩ := zI_ex p1
  have hW := h.2.2.2.2.2.2.2.2.2.2.1
  have hv := h.2.2.2.2.2.2.2.2.2.2.2
  have h5 := h.2.2.2.2.1
  have hni := hv.2.2.2.1
  unfold w_X6_slur
  have c0 : zI a < 0 ↔ a < 0 := by rw [lz0, zI_lt (by omega) (by omega) (by omega) (by omega)]
  rw [c0, hW.2.2.2.1, zI_lt (by omega) (by omega) (by omega) (by omega)]
  refine ⟨fun q => hN a rfl (Or.inl q) a1 a2, fun q1 => ⟨h5, fun q2 => ⟨h5, ?_⟩, fun q2 => hN a rfl (Or.inr (by omega)) a1 a2⟩⟩
  have e8 := MW_at hW (i := a.toNat) (a := 8) (by omega) (by omega)
  rw [zI_in (by omega) (by omega), zI_tn (by omega) (by omega)]
  refine ⟨by omega, fun x4 e4 => ⟨h5, fun z6 e6 => ⟨by omega, fun M8 e9 => ?_⟩⟩⟩
  rw [show m + 12 = m + 4 + 8 by omega, e8] at e4
  have ez : z6 = zI (if p2 = 0 then 0 else 1) := by rw [e6]; by_cases gp : p2 = 0 <;> simp [gp] <;> first | exact lz0 | exact lz1
  rw [ez, show m + 12 = m + 4 + 8 by omega] at e9
  subst e4 e9
  obtain ⟨k1, k2⟩ := CS_mus h (MW_set (i := a.toNat) (a := 8) (x := if p2 = 0 then 0 else 1) hW (Or.inr rfl) (by omega)) (MV_set hv (Or.inr rfl) (by by_cases gp : p2 = 0 <;> simp [gp])) (fun k hk => mset_o (by omega))
  exact hQ a.toNat (by congr 1; omega) (by omega) _ k1 k2
end Cls2
