section XItem4
variable {Mv M M' : Mem} {S S' : Mus} {c p q : Nat} {row : Nat → Int} {len : Int} {o : Bool} {t : Int} {w : Option Int} {y y' : Nat → Int32} {xs : List Int} {Q : Int32 → Mem → Prop}
theorem x_223J {e : Nat} {l1 l2 l3 l4 : Int32} (h : JS Mv M e) (hQ : ∀ M' : Mem, JS Mv M' e → Q 0 M') : w_X7_readItem_223 Q l1 l2 l3 l4 M := by
  refine ⟨vi1, vi1, fun M31 e31 => ?_⟩
  rw [tc1] at e31
  exact hQ M31 (JS_set h (by unfold kp; omega) (by omega) e31)
theorem x_211J {e : Nat} {l1 l2 l3 l4 : Int32} (h : JS Mv M e) (hQ : ∀ M' : Mem, JS Mv M' e → Q 0 M') : w_X7_readItem_211 Q l1 l2 l3 l4 M := ⟨fun _ => x_223J h hQ, fun z => absurd (JS_nn h) z⟩
theorem x_159J {e : Nat} {l1 l2 l3 l4 : Int32} (h : JS Mv M e) (hQ : ∀ M' : Mem, JS Mv M' e → Q 0 M') : w_X7_readItem_159 Q l1 l2 l3 l4 M := ⟨fun _ => x_211J h hQ, fun z => absurd (JS_nn h) z⟩
theorem rat_done {d : Dat} (y0 : y 0 = zI ((gNb S : Int) - 1)) (y1 : y 1 = zI ((gVo S (gNb S - 1) : Int) - 1)) (y2 : y 2 = zI (rp d.1)) (y3 : y 3 = zI d.2.1) (y4 : y 4 = zI d.2.2.1) (y5 : y 5 = zI d.2.2.2.1) (y6 : y 6 = zI d.2.2.2.2.1) (y7 : y 7 = zI d.2.2.2.2.2.1) (y8 : y 8 = zI d.2.2.2.2.2.2.1) (y9 : y 9 = zI (d.2.2.2.2.2.2.2.length : Int)) : ∀ a : Nat, a < 10 → y a = zI (rat (gIt (sAdd S d) (gNi S)) a) := by
  intro a ha
  unfold rat
  match a, ha with
  | 0, _ => rw [if_neg (by omega), add_0]; exact y0
  | 1, _ => rw [if_neg (by omega), add_1]; exact y1
  | 2, _ => rw [if_pos rfl, add_a (by omega)]; exact y2
  | 3, _ => rw [if_neg (by omega), add_a (by omega)]; exact y3
  | 4, _ => rw [if_neg (by omega), add_a (by omega)]; exact y4
  | 5, _ => rw [if_neg (by omega), add_a (by omega)]; exact y5
  | 6, _ => rw [if_neg (by omega), add_a (by omega)]; exact y6
  | 7, _ => rw [if_neg (by omega), add_a (by omega)]; exact y7
  | 8, _ => rw [if_neg (by omega), add_a (by omega)]; exact y8
  | 9, _ => rw [if_neg (by omega), add_a (by omega)]; exact y9
theorem yu_at {a : Nat} {v : Int32} : yu y a v a = v := if_pos rfl
theorem yu_ne {a b : Nat} {v : Int32} (h : b ≠ a) : yu y a v b = y b := if_neg h
/-- the slur behind an item, and its end -/
theorem x_211 {d : Dat} {l1 l2 l4 : Int32} (hB : XB Mv c row len) (hv : MV S) (hn : gNi S < 600) (h : XI Mv M S p o w t y xs) (h8 : y 8 = 0) (hp : p ≤ c) (hd : d.2.2.2.2.2.2.1 = (slP (pkF c row) p o).2.2) (hx : d.2.2.2.2.2.2.2 = xs) (y0 : y 0 = zI ((gNb S : Int) - 1)) (y1 : y 1 = zI ((gVo S (gNb S - 1) : Int) - 1)) (y2 : y 2 = zI (rp d.1)) (y3 : y 3 = zI d.2.1) (y4 : y 4 = zI d.2.2.1) (y5 : y 5 = zI d.2.2.2.1) (y6 : y 6 = zI d.2.2.2.2.1) (y7 : y 7 = zI d.2.2.2.2.2.1) (y9 : y 9 = zI (d.2.2.2.2.2.2.2.length : Int)) (hX : (slP (pkF c row) p o).2.1 = true → pkF c row (slP (pkF c row) p o).1 = 9 → ∀ M' : Mem, JS Mv M' (slP (pkF c row) p o).1 → Q 0 M') (hO : ¬ ((slP (pkF c row) p o).2.1 = true ∧ pkF c row (slP (pkF c row) p o).1 = 9) → ∀ M' : Mem, XR Mv M' (sAdd S d) (slP (pkF c row) p o).1 (slP (pkF c row) p o).2.1 w t → Q 0 M') : w_X7_readItem_211 Q l1 l2 (zI ((600 + gNi S : Nat) : Int)) l4 M := by
  unfold w_X7_readItem_211
  rw [h.1.2.2.2.1]
  refine ⟨fun z => absurd z (by decide), fun _ => x_readSlur hB hv hn h h8 hp (fun ho g M' j => ?_) (fun g M33 h33 => ?_)⟩
  · have es : slP (pkF c row) p o = (p, true, 1) := by
      unfold slP
      rw [if_pos ho, if_neg (by omega)]
    rw [es] at hX
    exact x_223J j (hX rfl g)
  · have hne : ¬ ((slP (pkF c row) p o).2.1 = true ∧ pkF c row (slP (pkF c row) p o).1 = 9) := by
      intro z
      unfold slP at z
      split at z
      · next ho =>
        split at z
        · exact absurd z.1 (by simp)
        · exact g ⟨ho, z.2⟩
      · split at z
        · exact absurd z.1 (by simp)
        · exact absurd z.1 (by simp)
    refine ⟨vi1, vi1, fun M31 e31 => ?_⟩
    rw [tc1] at e31
    have e54 : M33 54 1 = zI (gNi S : Int) := h33.1.2.1.1
    refine hO hne M31 (XR_done hv hn h33 (rat_done (by rw [yu_ne (by omega)]; exact y0) (by rw [yu_ne (by omega)]; exact y1) (by rw [yu_ne (by omega)]; exact y2) (by rw [yu_ne (by omega)]; exact y3) (by rw [yu_ne (by omega)]; exact y4) (by rw [yu_ne (by omega)]; exact y5) (by rw [yu_ne (by omega)]; exact y6) (by rw [yu_ne (by omega)]; exact y7) (by rw [yu_at, hd]) (by rw [yu_ne (by omega)]; exact y9)) hx ?_ e31)
    rw [e54, lz1, zI_add]
theorem x_readItem (hB : XB Mv c row len) (hv : MV S) (hn : gNi S < 600) (ht : -1 ≤ t ∧ t ≤ 1) (h : XR Mv M S p o w t) (hw : okW w) (hp : p ≤ c) (hz : (pkF c row p = 24 ∨ pkF c row p = 32) ∧ pkF c row (p + 1) = 35 → pkF c row (p + 2) = 2) (hE : ∀ e : Nat, itemP (pkF c row) (gHd S) p o t w = .error e → ∀ M' : Mem, JS Mv M' e → Q 0 M') (hX : ∀ (p' : Nat) (o' : Bool) (t' : Int) (w' : Option Int) (d : Dat), itemP (pkF c row) (gHd S) p o t w = .ok (p', o', t', w', d) → o' = true → pkF c row p' = 9 → ∀ M' : Mem, JS Mv M' p' → Q 0 M') (hO : ∀ (p' : Nat) (o' : Bool) (t' : Int) (w' : Option Int) (d : Dat), itemP (pkF c row) (gHd S) p o t w = .ok (p', o', t', w', d) → ¬ (o' = true ∧ pkF c row p' = 9) → ∀ M' : Mem, XR Mv M' (sAdd S d) p' o' w' t' → Q 0 M') : w_X7_readItem (zI ((gNb S : Int) - 1)) (zI ((gVo S (gNb S - 1) : Int) - 1)) M Q := by
  have hP := PK_x hB
  have hc := hB.2.1
  have vin1 : vp_in (zI ((600 + gNi S : Nat) : Int)) 1200 := by rw [zI_in (by omega) (by omega)]; omega
  have etn : Int32.toNatClampNeg (zI ((600 + gNi S : Nat) : Int)) = 600 + gNi S := by rw [zI_tn (by omega) (by omega), tn_nat]
  unfold w_X7_readItem
  refine ⟨vi1, fun x2 e2 => ?_⟩
  have e54 : M 54 1 = zI (gNi S : Int) := h.2.1.1
  have e2' : x2 = zI ((600 + gNi S : Nat) : Int) := by rw [e2, tc1, e54, lz600, zI_add]; rfl
  subst e2'
  rw [etn]
  refine ⟨vin1, fun M4 e4 => ⟨vin1, fun M6 e6 => ⟨vin1, fun M8 e8 => ⟨vin1, fun M10 e10 => ⟨vin1, fun M12 e12 => ⟨vin1, fun M14 e14 => ⟨vin1, fun M16 e16 => ⟨vin1, fun M18 e18 => ?_⟩⟩⟩⟩⟩⟩⟩⟩
  have hI : XI Mv M S p o w t (fun a => M (58 + a) (600 + gNi S)) [] := ⟨h, fun a _ => rfl, fun k hk => absurd hk (Nat.not_lt_zero k)⟩
  have h4 := XI_f (a := 0) hv hI (by omega) e4
  have h6 := XI_f (a := 1) hv h4 (by omega) e6
  have h8 := XI_f (a := 2) hv h6 (by omega) e8
  have h10 := XI_f (a := 3) hv h8 (by omega) e10
  have h12 := XI_f (a := 6) hv h10 (by omega) e12
  have h14 := XI_f (a := 7) hv h12 (by omega) e14
  have h16 := XI_f (a := 8) hv h14 (by omega) e16
  have h18 := XI_f (a := 9) hv h16 (by omega) e18
  obtain ⟨Y, hY⟩ : ∃ Y : Nat → Int32, Y = yu (yu (yu (yu (yu (yu (yu (yu (fun a => M (58 + a) (600 + gNi S)) 0 (zI ((gNb S : Int) - 1))) 1 (zI ((gVo S (gNb S - 1) : Int) - 1))) 2 (-1)) 3 0) 6 0) 7 0) 8 0) 9 0 := ⟨_, rfl⟩
  rw [← hY] at h18
  have Y0 : Y 0 = zI ((gNb S : Int) - 1) := by rw [hY]; rfl
  have Y1 : Y 1 = zI ((gVo S (gNb S - 1) : Int) - 1) := by rw [hY]; rfl
  have Y2 : Y 2 = -1 := by rw [hY]; rfl
  have Y3 : Y 3 = 0 := by rw [hY]; rfl
  have Y6 : Y 6 = 0 := by rw [hY]; rfl
  have Y7 : Y 7 = 0 := by rw [hY]; rfl
  have Y8 : Y 8 = 0 := by rw [hY]; rfl
  have Y9 : Y 9 = 0 := by rw [hY]; rfl
  clear hY
  have hs1 : ∃ (q0 : Nat) (t1 : Int), sizeP (pkF c row) p t = .ok (q0, t1) := by
    unfold sizeP
    by_cases g : (pkF c row p = 24 ∨ pkF c row p = 32) ∧ pkF c row (p + 1) = 35
    · rw [if_pos g, if_pos (hz g)]
      exact ⟨_, _, rfl⟩
    · rw [if_neg g]
      exact ⟨_, _, rfl⟩
  obtain ⟨q0, t1, hs⟩ := hs1
  have s1 := size_sp hP hp ht hs
  refine x_ahead hB hv h18 hp ht hs (fun e he M' j => ⟨fun z => ?_, fun _ => hE e (by unfold itemP; rw [hs]; simp only; rw [he]) M' j⟩) (fun q o1 ho M20 h20 => ?_)
  · have := JS_nn j
    rw [j.2.1, lz0] at z
    rw [zI_lt (by have := j.2.2.1; omega) (by have := j.2.2.1; omega) (by omega) (by omega)] at z
    omega
  have s2 := open_sp hP s1.2.1 ho
  have bq := (hP q).2
  have rb := ixF_bd lRs (pkF c row q)
  have rl : lRs.length = 4 := rfl
  rw [h20.1.2.2.2.1]
  refine ⟨fun _ => ⟨vin1, fun M22 e22 => ?_⟩, fun z => absurd (by decide) z⟩
  rw [h20.1.2.2.2.2.2.2] at e22
  have h22 := XI_f (a := 5) hv h20 (by omega) e22
  have ei : itemP (pkF c row) (gHd S) p o t w = if 0 ≤ ixF lRs (pkF c row q) then .ok ((slP (pkF c row) (q + 1 + dotN (pkF c row) (q + 1)) o1).1, (slP (pkF c row) (q + 1 + dotN (pkF c row) (q + 1)) o1).2.1, t1, w, (0, 0, ixF lRs (pkF c row q), t1, (dotN (pkF c row) (q + 1) : Int), 0, (slP (pkF c row) (q + 1 + dotN (pkF c row) (q + 1)) o1).2.2, []))
      else if ptP (pkF c row) q w < 0 then .error (p2P (pkF c row) q)
      else match ivR (pkF c row) (gHd S) (ptP (pkF c row) q w) 4 (p2P (pkF c row) q + 1 + dotN (pkF c row) (p2P (pkF c row) q + 1)) [] with
        | .error e => .error e
        | .ok (q3, xs) => .ok ((slP (pkF c row) (q3 + 2 * tieN (pkF c row) q3) o1).1, (slP (pkF c row) (q3 + 2 * tieN (pkF c row) q3) o1).2.1, t1, some (ptP (pkF c row) q w), (ptP (pkF c row) q w, sgI (pkF c row q), kdI (pkF c row (p2P (pkF c row) q)), t1, (dotN (pkF c row) (p2P (pkF c row) q + 1) : Int), (tieN (pkF c row) q3 : Int), (slP (pkF c row) (q3 + 2 * tieN (pkF c row) q3) o1).2.2, xs)) := by
    unfold itemP
    rw [hs]
    simp only
    rw [ho]
    rfl
  rw [h22.1.2.2.1]
  refine x_peek hB h22.1.1 (by omega) (x_fRs hB h22.1.1 (by omega) ?_)
  rw [lz0, zI_lt (by omega) (by omega) (by omega) (by omega), ← lz0]
  refine ⟨fun g => ?_, fun g => ⟨vin1, fun M46 e46 M47 e47 => ?_⟩⟩
  · rw [if_neg (by omega)] at ei
    refine x_readNote hB hv hn h22 s2.2 (fun gp M' j => ⟨fun _ => x_159J j (hE _ (by rw [ei, if_pos gp])), fun z => absurd (JS_nn j) z⟩) (fun gp M28 h28 => ?_)
    have s3 := pt_sp (p := q) (w := w) hP gp
    have s4 := dot_sp (p := p2P (pkF c row) q + 1) hP (by omega)
    rw [if_neg (by omega)] at ei
    rw [h28.1.2.2.2.1]
    refine ⟨fun z => absurd z (by decide), fun _ => x_dotted hB hv hn h28 (by rw [yu_ne (by omega), yu_ne (by omega), yu_ne (by omega), yu_ne (by omega)]; exact Y6) (by omega) (fun M42 h42 => ?_)⟩
    refine x_intervals (pt := ptP (pkF c row) q w) hB hv hn ⟨s3.1, s3.2.1⟩ h42 (by rw [yu_ne (by omega), yu_at]) (by rw [yu_ne (by omega), yu_ne (by omega), yu_ne (by omega), yu_ne (by omega), yu_ne (by omega)]; exact Y9) s4.2 (fun e he M' j => x_159J j (hE e (by rw [ei, he]))) (fun q3 ys hx M44 h44 => ?_)
    have s5 := iv_sp hP 4 _ [] q3 ys s4.2 (by show 0 + 4 ≤ 4; omega) (fun k hk => absurd hk (Nat.not_lt_zero k)) hx
    rw [hx] at ei
    simp only at ei
    have b3 := (hP q3).2
    have b4 := (hP (q3 + 1)).2
    have npt : rp (ptP (pkF c row) q w) = ptP (pkF c row) q w := by unfold rp; rw [if_neg (by omega)]
    -- the item behind its tie
    have fin : ∀ (q4 : Nat) (tn : Nat) (M5 : Mem), q4 = q3 + 2 * tieN (pkF c row) q3 → tn = tieN (pkF c row) q3 → q4 ≤ c → XI Mv M5 S q4 o1 (some (ptP (pkF c row) q w)) t1 (yu (yu (yu (yu (yu (yu (yu Y 5 (zI t1)) 3 (zI (sgI (pkF c row q)))) 4 (zI (kdI (pkF c row (p2P (pkF c row) q))))) 2 (zI (ptP (pkF c row) q w))) 6 (zI (dotN (pkF c row) (p2P (pkF c row) q + 1) : Int))) 9 (zI (ys.length : Int))) 7 (zI (tn : Int))) ys → w_X7_readItem_211 Q (zI ((gNb S : Int) - 1)) (zI ((gVo S (gNb S - 1) : Int) - 1)) (zI ((600 + gNi S : Nat) : Int)) (zI (ixF lRs (pkF c row q))) M5 := by
      intro q4 tn M5 e1 e2 hq4 h5
      subst e1 e2
      exact x_211 (d := (ptP (pkF c row) q w, sgI (pkF c row q), kdI (pkF c row (p2P (pkF c row) q)), t1, (dotN (pkF c row) (p2P (pkF c row) q + 1) : Int), (tieN (pkF c row) q3 : Int), (slP (pkF c row) (q3 + 2 * tieN (pkF c row) q3) o1).2.2, ys)) hB hv hn h5 (by rw [yu_ne (by omega), yu_ne (by omega), yu_ne (by omega), yu_ne (by omega), yu_ne (by omega), yu_ne (by omega), yu_ne (by omega)]; exact Y8) hq4 rfl rfl (by rw [yu_ne (by omega), yu_ne (by omega), yu_ne (by omega), yu_ne (by omega), yu_ne (by omega), yu_ne (by omega), yu_ne (by omega)]; exact Y0) (by rw [yu_ne (by omega), yu_ne (by omega), yu_ne (by omega), yu_ne (by omega), yu_ne (by omega), yu_ne (by omega), yu_ne (by omega)]; exact Y1) (by rw [yu_ne (by omega), yu_ne (by omega), yu_ne (by omega), yu_at]; show _ = zI (rp (ptP (pkF c row) q w)); rw [npt]) (by rw [yu_ne (by omega), yu_ne (by omega), yu_ne (by omega), yu_ne (by omega), yu_ne (by omega), yu_at]) (by rw [yu_ne (by omega), yu_ne (by omega), yu_ne (by omega), yu_ne (by omega), yu_at]) (by rw [yu_ne (by omega), yu_ne (by omega), yu_ne (by omega), yu_ne (by omega), yu_ne (by omega), yu_ne (by omega), yu_at]) (by rw [yu_ne (by omega), yu_ne (by omega), yu_at]) (by rw [yu_at]) (by rw [yu_ne (by omega), yu_at]) (fun g1 g2 => hX _ _ _ _ _ ei g1 g2) (fun g1 => hO _ _ _ _ _ ei g1)
    have notie : ¬ (pkF c row q3 = 8 ∧ pkF c row (q3 + 1) = 9) → w_X7_readItem_211 Q (zI ((gNb S : Int) - 1)) (zI ((gVo S (gNb S - 1) : Int) - 1)) (zI ((600 + gNi S : Nat) : Int)) (zI (ixF lRs (pkF c row q))) M44 := by
      intro gt
      have et : tieN (pkF c row) q3 = 0 := by unfold tieN; rw [if_neg gt]
      refine fin q3 0 M44 (by omega) et.symm s5.2.1 (XI_y h44 (fun a _ => ?_))
      by_cases ga : a = 7
      · subst ga
        rw [yu_at, yu_ne (by omega), yu_ne (by omega), yu_ne (by omega), yu_ne (by omega), yu_ne (by omega), yu_ne (by omega), Y7]
        rfl
      · rw [yu_ne ga]
    unfold w_X7_readItem_159
    rw [h44.1.2.2.2.1, h44.1.2.2.1]
    refine ⟨fun z => absurd z (by decide), fun _ => x_peek hB h44.1.1 (by omega) ?_⟩
    rw [lz8, zI_eq (by omega) (by omega) (by omega) (by omega), h44.1.2.2.1, lz1, zI_add]
    refine ⟨fun g3 => notie (fun z => g3 z.1), fun g3 => x_peek (q := q3 + 1) hB h44.1.1 (by omega) ?_⟩
    rw [lz9, zI_eq (by omega) (by omega) (by omega) (by omega), etn]
    refine ⟨fun g4 => notie (fun z => g4 z.2), fun g4 => ⟨vin1, fun M39 e39 M40 e40 => ?_⟩⟩
    have h39 := XI_f (a := 7) hv h44 (by omega) e39
    rw [h39.1.2.2.1, lz2, zI_add] at e40
    have h40 := XI_at (q := q3 + 2) hv h39 e40
    have et : tieN (pkF c row) q3 = 1 := by unfold tieN; rw [if_pos ⟨g3, g4⟩]
    have hin := (hP (q3 + 1)).1 (by omega)
    exact fin (q3 + 2) 1 M40 (by rw [et]) et.symm (by omega) h40
  · rw [if_pos (by omega)] at ei
    have h46 := XI_f (a := 4) hv h22 (by omega) e46
    rw [h46.1.2.2.1, lz1, zI_add] at e47
    have h47 := XI_at (q := q + 1) hv h46 e47
    have hin := (hP q).1 (fun z => by rw [z, m1_Rs] at g; omega)
    have s3 := dot_sp (p := q + 1) hP (by omega)
    refine x_dotted hB hv hn h47 (by rw [yu_ne (by omega), yu_ne (by omega)]; exact Y6) (by omega) (fun M49 h49 => ?_)
    exact x_211 (d := (0, 0, ixF lRs (pkF c row q), t1, (dotN (pkF c row) (q + 1) : Int), 0, (slP (pkF c row) (q + 1 + dotN (pkF c row) (q + 1)) o1).2.2, [])) hB hv hn h49 (by rw [yu_ne (by omega), yu_ne (by omega), yu_ne (by omega)]; exact Y8) s3.2 rfl rfl (by rw [yu_ne (by omega), yu_ne (by omega), yu_ne (by omega)]; exact Y0) (by rw [yu_ne (by omega), yu_ne (by omega), yu_ne (by omega)]; exact Y1) (by rw [yu_ne (by omega), yu_ne (by omega), yu_ne (by omega), Y2, ln1]; rfl) (by rw [yu_ne (by omega), yu_ne (by omega), yu_ne (by omega), Y3]; rfl) (by rw [yu_ne (by omega), yu_at]) (by rw [yu_ne (by omega), yu_ne (by omega), yu_at]) (by rw [yu_at]) (by rw [yu_ne (by omega), yu_ne (by omega), yu_ne (by omega), Y7]; rfl) (by rw [yu_ne (by omega), yu_ne (by omega), yu_ne (by omega), Y9]; rfl) (fun g1 g2 => hX _ _ _ _ _ ei g1 g2) (fun g1 => hO _ _ _ _ _ ei g1)
end XItem4
