/-- the class's state: its music S, its row of c cells -/
def CS (M : Mem) (S : Mus) (c : Nat) (row : Nat → Int) (r m : Nat) : Prop :=
  RW r ∧ MU m ∧ M 0 0 = nI r ∧ M 0 1 = nI (4 - r) ∧ M 0 2 = nI m ∧ M 0 3 = nI (25 - m) ∧ TB M ∧ M r 1 = zI c ∧ c ≤ 4000 ∧ (∀ j : Nat, j < c → M (r + 1) j = zI (row j) ∧ 0 ≤ row j ∧ row j ≤ 64) ∧ MW M m S ∧ MV S
def fz (M M' : Mem) : Prop := ∀ k : Nat, 46 ≤ k → M' k = M k
theorem CS_mus {M M' : Mem} {S S' : Mus} {c r m : Nat} {row : Nat → Int} (h : CS M S c row r m) (hW : MW M' m S') (hV : MV S') (hO : onlyM M M' m) : CS M' S' c row r m ∧ fz M M' := by
  obtain ⟨h1, h2, h3, h4, h5, h6, h7, h8, h9, h10, h11, h12⟩ := h
  have m5 : 5 ≤ m ∧ m ≤ 20 := by rcases h2 with rfl | rfl <;> omega
  have r4 : r ≤ 3 ∧ 1 ≤ r := by rcases h1 with rfl | rfl <;> omega
  have e0 := hO 0 (by omega)
  have er := hO r (by omega)
  have er1 := hO (r + 1) (by omega)
  refine ⟨⟨h1, h2, by rw [e0]; exact h3, by rw [e0]; exact h4, by rw [e0]; exact h5, by rw [e0]; exact h6, TB_of h7 (fun k hk => hO k (by omega)), by rw [er]; exact h8, h9, fun j hj => by rw [er1]; exact h10 j hj, hW, hV⟩, fun k hk => hO k (by omega)⟩
theorem MW_far {M M' : Mem} {m : Nat} {S : Mus} (h : MW M m S) (hO : ∀ k : Nat, m ≤ k → k ≤ m + 14 → M' k = M k) : MW M' m S := by
  obtain ⟨q0, q1, q2, q3, q4, q5, q6, q7⟩ := h
  refine ⟨by rw [hO m (by omega) (by omega)]; exact q0, by rw [hO m (by omega) (by omega)]; exact q1, by rw [hO m (by omega) (by omega)]; exact q2, by rw [hO m (by omega) (by omega)]; exact q3, fun b hb => by rw [hO _ (by omega) (by omega)]; exact q4 b hb, fun b v hb hv => by rw [hO _ (by omega) (by omega), hO _ (by omega) (by omega)]; exact q5 b v hb hv, fun i a hi ha => by rw [hO _ (by omega) (by omega)]; exact q6 i a hi ha, fun i k hi hk => by rw [hO _ (by omega) (by omega)]; exact q7 i k hi hk⟩
abbrev iup (f : Nat → Int) (k : Nat) (x : Int) : Nat → Int := fun j => if j = k then x else f j
section Cls
variable {M : Mem} {S : Mus} {c r m : Nat} {row : Nat → Int} {Q : Int32 → Mem → Prop}
/-- only the row's cells and count change -/
theorem CS_row {M' : Mem} {c' : Nat} {row' : Nat → Int} (h : CS M S c row r m) (hO : ∀ k : Nat, k ≠ r → k ≠ r + 1 → M' k = M k) (h1 : M' r 1 = zI c') (h2 : c' ≤ 4000) (h3 : ∀ j : Nat, j < c' → M' (r + 1) j = zI (row' j) ∧ 0 ≤ row' j ∧ row' j ≤ 64) : CS M' S c' row' r m ∧ fz M M' := by
  obtain ⟨k1, k2, k3, k4, k5, k6, k7, k8, k9, k10, k11, k12⟩ := h
  have m5 : 5 ≤ m ∧ m ≤ 20 := by rcases k2 with rfl | rfl <;> omega
  have r4 : r ≤ 3 ∧ 1 ≤ r := by rcases k1 with rfl | rfl <;> omega
  have e0 := hO 0 (by omega) (by omega)
  exact ⟨⟨k1, k2, by rw [e0]; exact k3, by rw [e0]; exact k4, by rw [e0]; exact k5, by rw [e0]; exact k6, TB_of k7 (fun k hk => hO k (by omega) (by omega)), h1, h2, h3, MW_far k11 (fun k g1 g2 => hO k (by omega) (by omega)), k12⟩, fun k hk => hO k (by omega) (by omega)⟩
theorem e_put {a : Int} (h : CS M S c row r m) (hc : c < 4000) (ha : 0 ≤ a ∧ a ≤ 64) (hQ : ∀ M' : Mem, CS M' S (c + 1) (iup row c a) r m → fz M M' → M' r 1 = zI ((c : Int) + 1) → Q 0 M') : w_X2_put r (zI a) M Q := by
  have h8 := h.2.2.2.2.2.2.2.1
  have h10 := h.2.2.2.2.2.2.2.2.2.1
  unfold w_X2_put
  rw [h8]
  simp only [lz4000]
  rw [zI_le (by omega) (by omega) (by omega) (by omega), zI_in (by omega) (by omega), zI_tn (by omega) (by omega), tn_nat]
  refine ⟨fun q => by omega, fun _ => ⟨by omega, fun M3 e3 M4 e4 => ?_⟩⟩
  have e5 : M3 r 1 = zI c := by rw [e3, mset_o (by omega)]; exact h8
  rw [e5, lz1, zI_add] at e4
  have e6 : M4 r 1 = zI ((c : Int) + 1) := by rw [e4, mset_at]
  obtain ⟨g1, g2⟩ := CS_row (M' := M4) (c' := c + 1) (row' := iup row c a) h (fun k q1 q2 => by rw [e4, mset_o q1, e3, mset_o q2]) (by rw [e6]; rfl) (by omega) (fun j hj => by
    rw [e4, mset_o (by omega), e3]
    show mset M (r + 1) c (zI a) (r + 1) j = zI (if j = c then a else row j) ∧ 0 ≤ (if j = c then a else row j) ∧ (if j = c then a else row j) ≤ 64
    by_cases g : j = c
    · rw [g, mset_at, if_pos rfl]; exact ⟨rfl, ha⟩
    · rw [mset_j g, if_neg g]; exact h10 j (by omega))
  exact hQ M4 g1 g2 e6
theorem c_cell (p : Int32) (h : CS M S c row r m) (hR : ∀ a : Int, p = zI a → (a < 0 ∨ 64 < a) → -2147483648 ≤ a → a < 2147483648 → Q (-2) M) (hF : ∀ a : Int, p = zI a → 0 ≤ a → a ≤ 64 → c = 4000 → Q (-4) M) (hQ : ∀ a : Int, p = zI a → 0 ≤ a → a ≤ 64 → c < 4000 → ∀ M' : Mem, CS M' S (c + 1) (iup row c a) r m → fz M M' → Q (zI ((c : Int) + 1)) M') : w_X6_cell r p M Q := by
  obtain ⟨a, rfl, a1, a2⟩ := zI_ex p
  have h8 := h.2.2.2.2.2.2.2.1
  have h9 := h.2.2.2.2.2.2.2.2.1
  have h3 := h.2.2.1
  unfold w_X6_cell
  simp only [lz0, lz64, lz4000]
  rw [zI_lt (by omega) (by omega) (by omega) (by omega), zI_le (by omega) (by omega) (by omega) (by omega), h8, zI_lt (by omega) (by omega) (by omega) (by omega)]
  refine ⟨fun q => hR a rfl (Or.inl q) a1 a2, fun q1 => ⟨fun q2 => ⟨h3, fun q3 => ⟨h3, ?_⟩, fun q3 => hF a rfl (by omega) (by omega) (by omega)⟩, fun q2 => hR a rfl (Or.inr (by omega)) a1 a2⟩⟩
  refine e_put h (by omega) (by omega) (fun M' g1 g2 g3 => ⟨g1.2.2.1, ?_⟩)
  rw [g3]
  exact hQ a rfl (by omega) (by omega) (by omega) M' g1 g2
theorem c_cut (p : Int32) (h : CS M S c row r m) (hR : ∀ a : Int, p = zI a → (a < 0 ∨ (c : Int) < a) → -2147483648 ≤ a → a < 2147483648 → Q (-2) M) (hQ : ∀ a : Nat, p = zI a → a ≤ c → ∀ M' : Mem, CS M' S a row r m → fz M M' → Q (zI ((c : Int) - a)) M') : w_X6_cut r p M Q := by
  obtain ⟨a, rfl, a1, a2⟩ := zI_ex p
  have h8 := h.2.2.2.2.2.2.2.1
  have h9 := h.2.2.2.2.2.2.2.2.1
  have h3 := h.2.2.1
  unfold w_X6_cut
  simp only [lz0]
  rw [zI_lt (by omega) (by omega) (by omega) (by omega), h8, zI_le (by omega) (by omega) (by omega) (by omega), zI_sub]
  refine ⟨fun q => hR a rfl (Or.inl q) a1 a2, fun q1 => ⟨h3, fun q2 => ⟨h3, fun x3 e3 => ⟨h3, fun M5 e5 => ?_⟩⟩, fun q2 => hR a rfl (Or.inr (by omega)) a1 a2⟩⟩
  subst e3
  have r4 : r ≤ 3 ∧ 1 ≤ r := by rcases h.1 with rfl | rfl <;> omega
  obtain ⟨g1, g2⟩ := CS_row (M' := M5) (c' := a.toNat) (row' := row) h (fun k q1 q2 => by rw [e5, mset_o q1]) (by rw [e5, mset_at]; congr 1; omega) (by omega) (fun j hj => by rw [e5, mset_o (by omega)]; exact h.2.2.2.2.2.2.2.2.2.1 j (by omega))
  have := hQ a.toNat (by congr 1; omega) (by omega) M5 g1 g2
  rw [show ((a.toNat : Nat) : Int) = a by omega] at this
  exact this
theorem e_rget (p : Int32) (h : CS M S c row r m) (hN : ∀ a : Int, p = zI a → (a < 0 ∨ (c : Int) ≤ a) → -2147483648 ≤ a → a < 2147483648 → Q (-1) M) (hQ : ∀ a : Nat, p = zI a → a < c → Q (zI (row a)) M) : w_X2_get r p M Q := by
  obtain ⟨a, rfl, a1, a2⟩ := zI_ex p
  have h8 := h.2.2.2.2.2.2.2.1
  have h9 := h.2.2.2.2.2.2.2.2.1
  have h10 := h.2.2.2.2.2.2.2.2.2.1
  unfold w_X2_get
  rw [h8]
  simp (disch := omega) only [lz0, lz1, lz2, lz3, lz4, lz5, lz6, lz7, lz8, lz9, lz10, lz11, lz12, lz13, lz14, lz15, lz16, lz17, lz18, lz19, lz20, lz21, lz22, lz23, lz24, lz25, lz26, lz27, lz28, lz29, lz30, lz31, lz32, lz33, lz34, lz35, lz36, lz37, lz38, lz39, lz40, lz41, lz42, lz43, lz44, lz45, lz46, lz47, lz48, lz49, lz50, lz51, lz52, lz53, lz54, lz55, lz56, lz57, lz58, lz59, lz60, lz61, lz62, lz63, lz64, lz65, lz66, lz67, lz68, lz69, lz100, lz120, lz128, lz137, lz180, lz200, lz255, lz256, lz512, lz600, lz1000, lz1000000, lz1200, lz2048, lz2049, lz2400, lz4000, lz4800, zI_nI, zI_add, zI_sub, zI_mul, zI_neg, zI_lt, zI_le, zI_eq, zI_tn, zI_in]
  refine ⟨⟨fun _ => trivial, fun _ => ⟨fun _ => trivial, fun _ => ⟨fun _ => trivial, fun _ => ⟨by omega, trivial⟩⟩⟩⟩, fun z hz => ?_⟩
  have hN' := hN
  rw [lz1, zI_neg] at hN'
  by_cases g : a < 0
  · rw [if_pos g] at hz; subst hz; exact hN' a rfl (Or.inl g) a1 a2
  · rw [if_neg g] at hz
    by_cases g2 : (c : Int) ≤ a
    · rw [if_pos g2] at hz; subst hz; exact hN' a rfl (Or.inr g2) a1 a2
    · rw [if_neg g2, if_neg (by omega), (h10 a.toNat (by omega)).1] at hz
      subst hz
      exact hQ a.toNat (by congr 1; omega) (by omega)
theorem c_at (p : Int32) (h : CS M S c row r m) (hN : ∀ a : Int, p = zI a → (a < 0 ∨ (c : Int) ≤ a) → -2147483648 ≤ a → a < 2147483648 → Q (-1) M) (hQ : ∀ a : Nat, p = zI a → a < c → Q (zI (row a)) M) : w_X6_at r p M Q := ⟨h.2.2.1, e_rget p h hN hQ⟩
/-- nothing, with length x -/
def sNil (S : Mus) (x : Int) : Mus := (x, 0, 0, 0, gVo S, gIt S, gFo S, gSz S)
theorem MV_nil {x : Int} (hx : 1 ≤ x ∧ x ≤ 2048) : MV (sNil S x) := ⟨hx, ⟨Int.le_refl 0, (by show (0 : Int) ≤ 2; omega)⟩, Nat.zero_le _, Nat.zero_le _, fun b hb => absurd hb (Nat.not_lt_zero b), fun i hi => absurd hi (Nat.not_lt_zero i), fun b v hb => absurd hb (Nat.not_lt_zero b), fun h => absurd h (Nat.lt_irrefl 0)⟩
theorem e_empty {x : Int} (hQ : ∀ M' : Mem, MW M' m (sNil S x) → (∀ k : Nat, k ≠ m → M' k = M k) → Q 0 M') : w_X0_empty m (zI x) M Q := by
  unfold w_X0_empty
  intro M1 e1 M2 e2 M3 e3 M4 e4
  refine hQ M4 ⟨?_, ?_, ?_, ?_, fun b hb => absurd hb (Nat.not_lt_zero b), fun b v hb => absurd hb (Nat.not_lt_zero b), fun i a hi => absurd hi (Nat.not_lt_zero i), fun i k hi => absurd hi (Nat.not_lt_zero i)⟩ (fun k hk => by rw [e4, mset_o hk, e3, mset_o hk, e2, mset_o hk, e1, mset_o hk])
  · rw [e4, mset_j (by omega), e3, mset_j (by omega), e2, mset_j (by omega), e1, mset_at]; rfl
  · rw [e4, mset_j (by omega), e3, mset_j (by omega), e2, mset_at]; exact lz0
  · rw [e4, mset_j (by omega), e3, mset_at]; exact lz0
  · rw [e4, mset_at]; exact lz0
theorem c_clear (h : CS M S c row r m) (hQ : ∀ M' : Mem, CS M' (sNil S 512) 0 row r m → fz M M' → Q 0 M') : w_X6_clear r m M Q := by
  unfold w_X6_clear
  refine ⟨h.2.2.1, fun M2 e2 => ?_⟩
  have r4 : r ≤ 3 ∧ 1 ≤ r := by rcases h.1 with rfl | rfl <;> omega
  obtain ⟨g1, g2⟩ := CS_row (M' := M2) (c' := 0) (row' := row) h (fun k q1 q2 => by rw [e2, mset_o q1]) (by rw [e2, mset_at]; exact lz0) (by omega) (fun j hj => absurd hj (Nat.not_lt_zero j))
  refine ⟨g1.2.2.2.2.1, ?_⟩
  rw [lz512]
  refine e_empty (S := S) (fun M' q1 q2 => ?_)
  obtain ⟨g3, g4⟩ := CS_mus g1 q1 (MV_nil (by omega)) (fun k hk => q2 k (by omega))
  exact hQ M' g3 (fun k hk => (g4 k hk).trans (g2 k hk))
theorem c_bar (p : Int32) (h : CS M S c row r m) (hS : (¬ endsW S ∨ (¬ p = 0 ∧ gNb S = 0)) → Q (-3) M) (hF : endsW S → (p = 0 ∨ ¬ gNb S = 0) → gNb S = 60 → Q (-4) M) (hR : endsW S → ¬ p = 0 → ¬ gNb S = 0 → gNb S < 60 → ∀ M' : Mem, CS M' (sBar S) c row r m → fz M M' → Q (zI (gNb S)) M') (hV : endsW S → p = 0 → gNb S < 60 → ∀ M' : Mem, CS M' (sVoice (sBar S)) c row r m → fz M M' → Q (zI (gNb S)) M') : w_X6_bar m p M Q := by
  have hW := h.2.2.2.2.2.2.2.2.2.2.1
  have hv := h.2.2.2.2.2.2.2.2.2.2.2
  have hT := h.2.2.2.2.2.2.1
  have h5 := h.2.2.2.2.1
  have hnb := hv.2.2.1
  have go : endsW S → (p = 0 ∨ ¬ gNb S = 0) → w_X6_bar_27 m Q p M := by
    intro g1 g2
    refine ⟨h5, ?_⟩
    refine e_startBar hW hv (fun q1 q2 M' q3 q4 => ?_) (fun q1 q2 M' q3 q4 => ?_) (fun q => ?_)
    · obtain ⟨k1, k2⟩ := CS_mus h q3 (MV_bar hv q1) q4
      refine ⟨⟨fun q => absurd q (by decide), fun _ => ⟨k1.2.2.2.2.1, trivial⟩⟩, fun z hz => ?_⟩
      rw [if_neg (by decide), k1.2.2.2.2.2.2.2.2.2.2.1.2.2.1, lz1, zI_sub] at hz
      have : z = zI (gNb S) := by rw [hz]; congr 1; show ((gNb S + 1 : Nat) : Int) - 1 = _; omega
      rw [this]
      exact hR g1 q2 (g2.resolve_left q2) q1 M' k1 k2
    · obtain ⟨k1, k2⟩ := CS_mus h q3 (MV_voice (MV_bar hv q1) (Nat.succ_pos _) (by show (if gNb S + 1 - 1 = gNb S then 0 else gVo S (gNb S + 1 - 1)) < 3; rw [if_pos (by omega)]; omega)) q4
      refine ⟨⟨fun q => absurd q (by decide), fun _ => ⟨k1.2.2.2.2.1, trivial⟩⟩, fun z hz => ?_⟩
      rw [if_neg (by decide), k1.2.2.2.2.2.2.2.2.2.2.1.2.2.1, lz1, zI_sub] at hz
      have : z = zI (gNb S) := by rw [hz]; congr 1; show ((gNb S + 1 : Nat) : Int) - 1 = _; omega
      rw [this]
      exact hV g1 q2 q1 M' k1 k2
    · refine ⟨⟨fun _ => trivial, fun q => absurd rfl q⟩, fun z hz => ?_⟩
      rw [if_pos rfl] at hz
      subst hz
      exact hF g1 g2 (by omega)
  unfold w_X6_bar
  refine ⟨h5, e_endsWhole hT hW hv (fun g => ⟨fun q => absurd q (by decide), fun _ => ⟨fun q => go g (Or.inl q), fun q => ⟨h5, fun q2 => ?_, fun q2 => ?_⟩⟩⟩) (fun g => ⟨fun _ => hS (Or.inl g), fun q => absurd rfl q⟩)⟩
  · rw [hW.2.2.1, lz0, zI_eq (by omega) (by omega) (by omega) (by omega)] at q2
    exact go g (Or.inr (by omega))
  · rw [hW.2.2.1, lz0, zI_eq (by omega) (by omega) (by omega) (by omega)] at q2
    exact hS (Or.inr ⟨q, by omega⟩)
theorem c_voice (h : CS M S c row r m) (hS : (lastS S < 0 ∨ ¬ endsW S) → Q (-3) M) (hF : ¬ lastS S < 0 → endsW S → gVo S (gNb S - 1) = 3 → Q (-4) M) (hV : ¬ lastS S < 0 → endsW S → gVo S (gNb S - 1) < 3 → ∀ M' : Mem, CS M' (sVoice S) c row r m → fz M M' → Q (zI (gVo S (gNb S - 1))) M') : w_X6_voice m M Q := by
  have hW := h.2.2.2.2.2.2.2.2.2.2.1
  have hv := h.2.2.2.2.2.2.2.2.2.2.2
  have hT := h.2.2.2.2.2.2.1
  have h5 := h.2.2.2.2.1
  have hnb := hv.2.2.1
  have hb := lastS_bd hv
  unfold w_X6_voice
  refine ⟨h5, e_lastSlot hW hv ⟨fun q => ?_, fun q => ⟨h5, ?_⟩⟩⟩
  · rw [lz0, zI_lt (by omega) (by omega) (by omega) (by omega)] at q
    exact hS (Or.inl q)
  · rw [lz0, zI_lt (by omega) (by omega) (by omega) (by omega)] at q
    obtain ⟨l1, l2, l3⟩ := lastS_sp q
    have hb3 := hv.2.2.2.2.1 _ l1
    rw [l3]
    refine e_isWhole hT hW hv l1 l2 ?_
    by_cases g : slotL S (3 * (gNb S - 1) + (gVo S (gNb S - 1) - 1)) = gLen S
    · have ge : endsW S := Or.inr (by rw [l3]; exact g)
      rw [if_pos g]
      refine ⟨fun _ => ⟨h5, ?_⟩, fun q => absurd q (by decide)⟩
      refine e_startVoice hW hnb hv.2.2.2.1 hv.2.2.2.2.1 (fun q1 q2 M' q3 q4 => ?_) (fun q1 => ?_)
      · obtain ⟨k1, k2⟩ := CS_mus h q3 (MV_voice hv q1 q2) q4
        have kW := k1.2.2.2.2.2.2.2.2.2.2.1
        have kn : M' m 2 = zI (gNb S) := kW.2.2.1
        have kv : M' (m + 1) (gNb S - 1) = zI ((gVo S (gNb S - 1) : Int) + 1) := by
          have := kW.2.2.2.2.1 (gNb S - 1) l1
          rw [this]
          show zI ((if gNb S - 1 = gNb S - 1 then gVo S (gNb S - 1) + 1 else gVo S (gNb S - 1) : Nat) : Int) = _
          rw [if_pos rfl]
          rfl
        rw [kn, lz1, zI_sub, zI_in (by omega) (by omega), zI_tn (by omega) (by omega), show ((gNb S : Int) - 1).toNat = gNb S - 1 by omega, kv, zI_sub]
        refine ⟨⟨fun q => absurd q (by decide), fun _ => ⟨k1.2.2.2.2.1, k1.2.2.2.2.1, by omega, trivial⟩⟩, fun z hz => ?_⟩
        rw [if_neg (by decide)] at hz
        have : z = zI (gVo S (gNb S - 1)) := by rw [hz]; congr 1; omega
        rw [this]
        exact hV q ge q2 M' k1 k2
      · refine ⟨⟨fun _ => trivial, fun q => absurd rfl q⟩, fun z hz => ?_⟩
        rw [if_pos rfl] at hz
        subst hz
        exact hF q ge (by omega)
    · rw [if_neg g]
      refine ⟨fun q => absurd rfl q, fun _ => hS (Or.inr (fun q2 => ?_))⟩
      rcases q2 with q2 | q2
      · omega
      · rw [l3] at q2; exact g q2
end Cls
