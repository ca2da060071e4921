theorem ex_bud {ph : Bool} {y : Mt} {nR n kc ks pc : Nat} {L st : List Value} {M : Mem} {Q : Int32 → Mem → Prop} (a b : Nat) (h : Ex ph y nR n kc ks pc L st M Q) : Ex ph y nR n (kc + a) (ks + b) pc L st M Q := by
  intro p l e R s m args below meth c D cI cB ad A H locs cells slots KC KS Z ls C Wd hl h1 h2 h3 h4 hZ
  exact h p l e R s m args below meth c D cI cB ad A H locs cells slots KC KS Z ls C Wd hl (by omega) (by omega) h3 h4 hZ
/-- from the constructors' picture to the running one -/
theorem ex_phase {y : Mt} {kc ks pc : Nat} {L st : List Value} {M : Mem} {Q : Int32 → Mem → Prop} (hM : ∀ k j : Nat, k < 78 → ¬ FR k j = 0 → M k j = nI (FR k j)) (h : Ex true y 78 78 kc ks pc L st M Q) : Ex false y 0 78 kc ks pc L st M Q := by
  intro p l e R s m args below meth c D cI cB ad A H locs cells slots KC KS Z ls C Wd hl h1 h2 h3 h4 hZ
  obtain ⟨k1, k2, k3, k4, k5, k6, k7, k8, k9⟩ := Wd
  have he : wsO true cI cB ad 78 M = wsO false cI cB ad 78 M := by
    apply List.map_congr_left
    intro k hk
    have hk : k < 78 := List.mem_range.mp hk
    congr 1
    unfold cellE
    split
    · rfl
    · rfl
    · rename_i ci hci
      congr 2
      apply List.map_congr_left
      intro j hj
      unfold encF
      by_cases hr : rfq ci j = true
      · rw [if_pos hr, if_pos hr]
        by_cases hz : FR k j = 0
        · simp [hz]
        · have := hM k j hk hz
          have hlt := FR_lt k j
          have h2 : ¬ (nI (FR k j) < 0) := nI_pos (by omega)
          rw [this]
          simp [hz, h2, nI_clamp (show FR k j < 2 ^ 31 by omega)]
      · rw [if_neg hr, if_neg hr]
  refine h p l e R s m args below meth c D cI cB ad A H locs cells slots KC KS Z ls C ⟨k1, by rw [he]; exact k2, by rw [he]; exact k3, k4, k5, ?_, k7, fun _ => Nat.le_refl _, k9⟩ hl h1 h2 h3 h4 ?_
  · intro k j ci q1 q2 q3 q4 q5
    have := k6 k j ci q1 q2 q3 q4 q5
    simpa using this
  · intro ad' M' H' locs' v pc' ls' g1 g2 g3 g4 g5
    refine hZ ad' M' H' locs' v pc' ls' g1 g2 ⟨g3.1, fun k q hq => ?_, ⟨fun i j p q hp => ?_, fun k q hq => ?_⟩, g3.2.2.2.1, g3.2.2.2.2.1, fun k j ci q1 => absurd q1 (Nat.not_lt_zero _), by omega, fun h => (by cases h), g3.2.2.2.2.2.2.2.2⟩ g4 g5
    · simp [wsO] at hq
    · simp [wsO] at hp
    · simp [wsO] at hq
def wb_law (Q : Int32 → Mem → Prop) (B18 : Int32 → Mem → Prop) (l3 : Int32) (M : Mem) : Prop := ((((nI (M 110 8).toNatClampNeg) - 6) < l3) → (Q 1 M)) ∧ (¬ (((nI (M 110 8).toNatClampNeg) - 6) < l3) → ((vp_in l3 (M 110 8).toNatClampNeg) ∧ (((M (100 + 8) (Int32.toNatClampNeg l3)) &&& 31 = 0 → (∃ r2 : Nat, RW r2 ∧ (∃ m3 : Nat, MU m3 ∧ (w_X6_clear r2 m3 M (fun v4 M5 => w_X7_clear M5 (fun v6 M7 => ∀ x8 : Int32, x8 = l3 + 6 → B18 x8 M7)))))) ∧ (((M (100 + 8) (Int32.toNatClampNeg l3)) &&& 31 = 1 → ((vp_in (l3 + 1) (M 110 8).toNatClampNeg) ∧ (∃ r10 : Nat, RW r10 ∧ (w_X6_cell r10 (M (100 + 8) (Int32.toNatClampNeg (l3 + 1))) M (fun v11 M12 => (vp_in (l3 + 1) (M12 110 8).toNatClampNeg) ∧ (w_X7_cell (M12 (100 + 8) (Int32.toNatClampNeg (l3 + 1))) M12 (fun v14 M15 => ((v11 = v14) → (∀ x16 : Int32, x16 = l3 + 6 → B18 x16 M15)) ∧ (¬ (v11 = v14) → (Q 0 M15))))))))) ∧ (((M (100 + 8) (Int32.toNatClampNeg l3)) &&& 31 = 2 → ((vp_in (l3 + 1) (M 110 8).toNatClampNeg) ∧ ((vp_in (l3 + 2) (M 110 8).toNatClampNeg) ∧ (∃ r19 : Nat, RW r19 ∧ (w_X6_more r19 (((Int32.toInt64 (M (100 + 8) (Int32.toNatClampNeg (l3 + 1)))) <<< (Int32.toInt64 32 &&& 63)) ||| ((Int32.toInt64 (M (100 + 8) (Int32.toNatClampNeg (l3 + 2)))) &&& 4294967295)) M (fun v20 M21 => (vp_in (l3 + 1) (M21 110 8).toNatClampNeg) ∧ ((vp_in (l3 + 2) (M21 110 8).toNatClampNeg) ∧ (w_X7_more (((Int32.toInt64 (M21 (100 + 8) (Int32.toNatClampNeg (l3 + 1)))) <<< (Int32.toInt64 32 &&& 63)) ||| ((Int32.toInt64 (M21 (100 + 8) (Int32.toNatClampNeg (l3 + 2)))) &&& 4294967295)) M21 (fun v24 M25 => ((v20 = v24) → (∀ x26 : Int32, x26 = l3 + 6 → B18 x26 M25)) ∧ (¬ (v20 = v24) → (Q 0 M25))))))))))) ∧ (((M (100 + 8) (Int32.toNatClampNeg l3)) &&& 31 = 3 → ((vp_in (l3 + 1) (M 110 8).toNatClampNeg) ∧ (∃ r28 : Nat, RW r28 ∧ (w_X6_cut r28 (M (100 + 8) (Int32.toNatClampNeg (l3 + 1))) M (fun v29 M30 => (vp_in (l3 + 1) (M30 110 8).toNatClampNeg) ∧ (w_X7_cut (M30 (100 + 8) (Int32.toNatClampNeg (l3 + 1))) M30 (fun v32 M33 => ((v29 = v32) → (∀ x34 : Int32, x34 = l3 + 6 → B18 x34 M33)) ∧ (¬ (v29 = v32) → (Q 0 M33))))))))) ∧ (((M (100 + 8) (Int32.toNatClampNeg l3)) &&& 31 = 4 → ((vp_in (l3 + 1) (M 110 8).toNatClampNeg) ∧ (∃ r36 : Nat, RW r36 ∧ (w_X6_at r36 (M (100 + 8) (Int32.toNatClampNeg (l3 + 1))) M (fun v37 M38 => (vp_in (l3 + 1) (M38 110 8).toNatClampNeg) ∧ (w_X7_at (M38 (100 + 8) (Int32.toNatClampNeg (l3 + 1))) M38 (fun v40 M41 => ((v37 = v40) → (∀ x42 : Int32, x42 = l3 + 6 → B18 x42 M41)) ∧ (¬ (v37 = v40) → (Q 0 M41))))))))) ∧ (((M (100 + 8) (Int32.toNatClampNeg l3)) &&& 31 = 5 → (∃ r43 : Nat, RW r43 ∧ (∃ m44 : Nat, MU m44 ∧ (∃ m245 : Nat, MU m245 ∧ (w_X6_read r43 m44 m245 M (fun v46 M47 => w_X7_read M47 (fun v48 M49 => ((v46 = v48) → (∀ x50 : Int32, x50 = l3 + 6 → B18 x50 M49)) ∧ (¬ (v46 = v48) → (Q 0 M49))))))))) ∧ (((M (100 + 8) (Int32.toNatClampNeg l3)) &&& 31 = 6 → ((vp_in (l3 + 1) (M 110 8).toNatClampNeg) ∧ ((vp_in (l3 + 2) (M 110 8).toNatClampNeg) ∧ (∃ m53 : Nat, MU m53 ∧ (w_X6_meter m53 (M (100 + 8) (Int32.toNatClampNeg (l3 + 1))) (M (100 + 8) (Int32.toNatClampNeg (l3 + 2))) M (fun v54 M55 => (vp_in (l3 + 1) (M55 110 8).toNatClampNeg) ∧ ((vp_in (l3 + 2) (M55 110 8).toNatClampNeg) ∧ (w_X7_meter (M55 (100 + 8) (Int32.toNatClampNeg (l3 + 1))) (M55 (100 + 8) (Int32.toNatClampNeg (l3 + 2))) M55 (fun v58 M59 => ((v54 = v58) → (∀ x60 : Int32, x60 = l3 + 6 → B18 x60 M59)) ∧ (¬ (v54 = v58) → (Q 0 M59))))))))))) ∧ (((M (100 + 8) (Int32.toNatClampNeg l3)) &&& 31 = 7 → ((vp_in (l3 + 1) (M 110 8).toNatClampNeg) ∧ (∃ m62 : Nat, MU m62 ∧ (w_X6_hand m62 (M (100 + 8) (Int32.toNatClampNeg (l3 + 1))) M (fun v63 M64 => (vp_in (l3 + 1) (M64 110 8).toNatClampNeg) ∧ (w_X7_hand (M64 (100 + 8) (Int32.toNatClampNeg (l3 + 1))) M64 (fun v66 M67 => ((v63 = v66) → (∀ x68 : Int32, x68 = l3 + 6 → B18 x68 M67)) ∧ (¬ (v63 = v66) → (Q 0 M67))))))))) ∧ (((M (100 + 8) (Int32.toNatClampNeg l3)) &&& 31 = 8 → ((vp_in (l3 + 1) (M 110 8).toNatClampNeg) ∧ (∀ z70 : Int32, z70 = (if (M (100 + 8) (Int32.toNatClampNeg (l3 + 1))) = 0 then 0 else 1) → ∃ m71 : Nat, MU m71 ∧ (w_X6_bar m71 z70 M (fun v72 M73 => (vp_in (l3 + 1) (M73 110 8).toNatClampNeg) ∧ (∀ z75 : Int32, z75 = (if (M73 (100 + 8) (Int32.toNatClampNeg (l3 + 1))) = 0 then 0 else 1) → w_X7_bar z75 M73 (fun v76 M77 => ((v72 = v76) → (∀ x78 : Int32, x78 = l3 + 6 → B18 x78 M77)) ∧ (¬ (v72 = v76) → (Q 0 M77))))))))) ∧ (((M (100 + 8) (Int32.toNatClampNeg l3)) &&& 31 = 9 → (∃ m81 : Nat, MU m81 ∧ (w_X6_voice m81 M (fun v82 M83 => w_X7_voice M83 (fun v84 M85 => ((v82 = v84) → (∀ x86 : Int32, x86 = l3 + 6 → B18 x86 M85)) ∧ (¬ (v82 = v84) → (Q 0 M85))))))) ∧ (((M (100 + 8) (Int32.toNatClampNeg l3)) &&& 31 = 10 → ((vp_in (l3 + 1) (M 110 8).toNatClampNeg) ∧ ((vp_in (l3 + 2) (M 110 8).toNatClampNeg) ∧ ((vp_in (l3 + 3) (M 110 8).toNatClampNeg) ∧ ((vp_in (l3 + 4) (M 110 8).toNatClampNeg) ∧ ((vp_in (l3 + 5) (M 110 8).toNatClampNeg) ∧ (∃ m92 : Nat, MU m92 ∧ (w_X6_note m92 (M (100 + 8) (Int32.toNatClampNeg (l3 + 1))) (M (100 + 8) (Int32.toNatClampNeg (l3 + 2))) (M (100 + 8) (Int32.toNatClampNeg (l3 + 3))) (M (100 + 8) (Int32.toNatClampNeg (l3 + 4))) (M (100 + 8) (Int32.toNatClampNeg (l3 + 5))) M (fun v93 M94 => (vp_in (l3 + 1) (M94 110 8).toNatClampNeg) ∧ ((vp_in (l3 + 2) (M94 110 8).toNatClampNeg) ∧ ((vp_in (l3 + 3) (M94 110 8).toNatClampNeg) ∧ ((vp_in (l3 + 4) (M94 110 8).toNatClampNeg) ∧ ((vp_in (l3 + 5) (M94 110 8).toNatClampNeg) ∧ (w_X7_note (M94 (100 + 8) (Int32.toNatClampNeg (l3 + 1))) (M94 (100 + 8) (Int32.toNatClampNeg (l3 + 2))) (M94 (100 + 8) (Int32.toNatClampNeg (l3 + 3))) (M94 (100 + 8) (Int32.toNatClampNeg (l3 + 4))) (M94 (100 + 8) (Int32.toNatClampNeg (l3 + 5))) M94 (fun v100 M101 => ((v93 = v100) → (∀ x102 : Int32, x102 = l3 + 6 → B18 x102 M101)) ∧ (¬ (v93 = v100) → (Q 0 M101))))))))))))))))) ∧ (((M (100 + 8) (Int32.toNatClampNeg l3)) &&& 31 = 11 → ((vp_in (l3 + 1) (M 110 8).toNatClampNeg) ∧ ((vp_in (l3 + 2) (M 110 8).toNatClampNeg) ∧ ((vp_in (l3 + 3) (M 110 8).toNatClampNeg) ∧ (∃ m106 : Nat, MU m106 ∧ (w_X6_rest m106 (M (100 + 8) (Int32.toNatClampNeg (l3 + 1))) (M (100 + 8) (Int32.toNatClampNeg (l3 + 2))) (M (100 + 8) (Int32.toNatClampNeg (l3 + 3))) M (fun v107 M108 => (vp_in (l3 + 1) (M108 110 8).toNatClampNeg) ∧ ((vp_in (l3 + 2) (M108 110 8).toNatClampNeg) ∧ ((vp_in (l3 + 3) (M108 110 8).toNatClampNeg) ∧ (w_X7_rest (M108 (100 + 8) (Int32.toNatClampNeg (l3 + 1))) (M108 (100 + 8) (Int32.toNatClampNeg (l3 + 2))) (M108 (100 + 8) (Int32.toNatClampNeg (l3 + 3))) M108 (fun v112 M113 => ((v107 = v112) → (∀ x114 : Int32, x114 = l3 + 6 → B18 x114 M113)) ∧ (¬ (v107 = v112) → (Q 0 M113))))))))))))) ∧ (((M (100 + 8) (Int32.toNatClampNeg l3)) &&& 31 = 12 → ((vp_in (l3 + 1) (M 110 8).toNatClampNeg) ∧ ((vp_in (l3 + 2) (M 110 8).toNatClampNeg) ∧ (∃ m117 : Nat, MU m117 ∧ (w_X6_interval m117 (M (100 + 8) (Int32.toNatClampNeg (l3 + 1))) (M (100 + 8) (Int32.toNatClampNeg (l3 + 2))) M (fun v118 M119 => (vp_in (l3 + 1) (M119 110 8).toNatClampNeg) ∧ ((vp_in (l3 + 2) (M119 110 8).toNatClampNeg) ∧ (w_X7_interval (M119 (100 + 8) (Int32.toNatClampNeg (l3 + 1))) (M119 (100 + 8) (Int32.toNatClampNeg (l3 + 2))) M119 (fun v122 M123 => ((v118 = v122) → (∀ x124 : Int32, x124 = l3 + 6 → B18 x124 M123)) ∧ (¬ (v118 = v122) → (Q 0 M123))))))))))) ∧ (((M (100 + 8) (Int32.toNatClampNeg l3)) &&& 31 = 13 → ((vp_in (l3 + 1) (M 110 8).toNatClampNeg) ∧ (∀ z126 : Int32, z126 = (if (M (100 + 8) (Int32.toNatClampNeg (l3 + 1))) = 0 then 0 else 1) → ∃ m127 : Nat, MU m127 ∧ (w_X6_tie m127 z126 M (fun v128 M129 => (vp_in (l3 + 1) (M129 110 8).toNatClampNeg) ∧ (∀ z131 : Int32, z131 = (if (M129 (100 + 8) (Int32.toNatClampNeg (l3 + 1))) = 0 then 0 else 1) → w_X7_tie z131 M129 (fun v132 M133 => ((v128 = v132) → (∀ x134 : Int32, x134 = l3 + 6 → B18 x134 M133)) ∧ (¬ (v128 = v132) → (Q 0 M133))))))))) ∧ (((M (100 + 8) (Int32.toNatClampNeg l3)) &&& 31 = 14 → ((vp_in (l3 + 1) (M 110 8).toNatClampNeg) ∧ ((vp_in (l3 + 2) (M 110 8).toNatClampNeg) ∧ (∀ z139 : Int32, z139 = (if (M (100 + 8) (Int32.toNatClampNeg (l3 + 2))) = 0 then 0 else 1) → ∃ m140 : Nat, MU m140 ∧ (w_X6_slur m140 (M (100 + 8) (Int32.toNatClampNeg (l3 + 1))) z139 M (fun v141 M142 => (vp_in (l3 + 1) (M142 110 8).toNatClampNeg) ∧ ((vp_in (l3 + 2) (M142 110 8).toNatClampNeg) ∧ (∀ z145 : Int32, z145 = (if (M142 (100 + 8) (Int32.toNatClampNeg (l3 + 2))) = 0 then 0 else 1) → w_X7_slur (M142 (100 + 8) (Int32.toNatClampNeg (l3 + 1))) z145 M142 (fun v146 M147 => ((v141 = v146) → (∀ x148 : Int32, x148 = l3 + 6 → B18 x148 M147)) ∧ (¬ (v141 = v146) → (Q 0 M147))))))))))) ∧ (((M (100 + 8) (Int32.toNatClampNeg l3)) &&& 31 = 15 → ((vp_in (l3 + 1) (M 110 8).toNatClampNeg) ∧ (∃ r152 : Nat, RW r152 ∧ (∃ r2153 : Nat, RW r2153 ∧ (∃ m154 : Nat, MU m154 ∧ (w_X6_write r152 r2153 m154 (M (100 + 8) (Int32.toNatClampNeg (l3 + 1))) M (fun v155 M156 => (vp_in (l3 + 1) (M156 110 8).toNatClampNeg) ∧ (w_X7_write (M156 (100 + 8) (Int32.toNatClampNeg (l3 + 1))) M156 (fun v158 M159 => ((v155 = v158) → (∀ x160 : Int32, x160 = l3 + 6 → B18 x160 M159)) ∧ (¬ (v155 = v158) → (Q 0 M159))))))))))) ∧ (((M (100 + 8) (Int32.toNatClampNeg l3)) &&& 31 = 16 → ((vp_in (l3 + 1) (M 110 8).toNatClampNeg) ∧ ((vp_in (l3 + 2) (M 110 8).toNatClampNeg) ∧ (w_X6_wants (M (100 + 8) (Int32.toNatClampNeg (l3 + 1))) (M (100 + 8) (Int32.toNatClampNeg (l3 + 2))) M (fun v163 M164 => (vp_in (l3 + 1) (M164 110 8).toNatClampNeg) ∧ ((vp_in (l3 + 2) (M164 110 8).toNatClampNeg) ∧ (w_X7_wants (M164 (100 + 8) (Int32.toNatClampNeg (l3 + 1))) (M164 (100 + 8) (Int32.toNatClampNeg (l3 + 2))) M164 (fun v167 M168 => ((v163 = v167) → (∀ x169 : Int32, x169 = l3 + 6 → B18 x169 M168)) ∧ (¬ (v163 = v167) → (Q 0 M168)))))))))) ∧ (((M (100 + 8) (Int32.toNatClampNeg l3)) &&& 31 = 17 → ((vp_in (l3 + 1) (M 110 8).toNatClampNeg) ∧ ((vp_in (l3 + 2) (M 110 8).toNatClampNeg) ∧ (∃ m172 : Nat, MU m172 ∧ (w_X6_ways m172 (M (100 + 8) (Int32.toNatClampNeg (l3 + 1))) (M (100 + 8) (Int32.toNatClampNeg (l3 + 2))) M (fun v173 M174 => (vp_in (l3 + 1) (M174 110 8).toNatClampNeg) ∧ ((vp_in (l3 + 2) (M174 110 8).toNatClampNeg) ∧ (w_X7_ways (M174 (100 + 8) (Int32.toNatClampNeg (l3 + 1))) (M174 (100 + 8) (Int32.toNatClampNeg (l3 + 2))) M174 (fun v177 M178 => ((v173 = v177) → (∀ x179 : Int32, x179 = l3 + 6 → B18 x179 M178)) ∧ (¬ (v173 = v177) → (Q 0 M178))))))))))) ∧ (((M (100 + 8) (Int32.toNatClampNeg l3)) &&& 31 = 18 → ((vp_in (l3 + 1) (M 110 8).toNatClampNeg) ∧ ((vp_in (l3 + 2) (M 110 8).toNatClampNeg) ∧ (∃ m182 : Nat, MU m182 ∧ (w_X6_signed m182 (M (100 + 8) (Int32.toNatClampNeg (l3 + 1))) (M (100 + 8) (Int32.toNatClampNeg (l3 + 2))) M (fun v183 M184 => (vp_in (l3 + 1) (M184 110 8).toNatClampNeg) ∧ ((vp_in (l3 + 2) (M184 110 8).toNatClampNeg) ∧ (w_X7_signed (M184 (100 + 8) (Int32.toNatClampNeg (l3 + 1))) (M184 (100 + 8) (Int32.toNatClampNeg (l3 + 2))) M184 (fun v187 M188 => ((v183 = v187) → (∀ x189 : Int32, x189 = l3 + 6 → B18 x189 M188)) ∧ (¬ (v183 = v187) → (Q 0 M188))))))))))) ∧ (((M (100 + 8) (Int32.toNatClampNeg l3)) &&& 31 = 19 → ((vp_in (l3 + 1) (M 110 8).toNatClampNeg) ∧ ((vp_in (l3 + 2) (M 110 8).toNatClampNeg) ∧ (∃ m192 : Nat, MU m192 ∧ (w_X6_barOf m192 (M (100 + 8) (Int32.toNatClampNeg (l3 + 1))) (M (100 + 8) (Int32.toNatClampNeg (l3 + 2))) M (fun v193 M194 => (vp_in (l3 + 1) (M194 110 8).toNatClampNeg) ∧ ((vp_in (l3 + 2) (M194 110 8).toNatClampNeg) ∧ (w_X7_barOf (M194 (100 + 8) (Int32.toNatClampNeg (l3 + 1))) (M194 (100 + 8) (Int32.toNatClampNeg (l3 + 2))) M194 (fun v197 M198 => ((v193 = v197) → (∀ x199 : Int32, x199 = l3 + 6 → B18 x199 M198)) ∧ (¬ (v193 = v197) → (Q 0 M198))))))))))) ∧ (((M (100 + 8) (Int32.toNatClampNeg l3)) &&& 31 = 20 → ((vp_in (l3 + 1) (M 110 8).toNatClampNeg) ∧ ((vp_in (l3 + 2) (M 110 8).toNatClampNeg) ∧ (∃ m202 : Nat, MU m202 ∧ (w_X6_item m202 (M (100 + 8) (Int32.toNatClampNeg (l3 + 1))) (M (100 + 8) (Int32.toNatClampNeg (l3 + 2))) M (fun v203 M204 => (vp_in (l3 + 1) (M204 110 8).toNatClampNeg) ∧ ((vp_in (l3 + 2) (M204 110 8).toNatClampNeg) ∧ (w_X7_item (M204 (100 + 8) (Int32.toNatClampNeg (l3 + 1))) (M204 (100 + 8) (Int32.toNatClampNeg (l3 + 2))) M204 (fun v207 M208 => ((v203 = v207) → (∀ x209 : Int32, x209 = l3 + 6 → B18 x209 M208)) ∧ (¬ (v203 = v207) → (Q 0 M208))))))))))) ∧ (((M (100 + 8) (Int32.toNatClampNeg l3)) &&& 31 = 21 → (∃ m210 : Nat, MU m210 ∧ (w_X6_loose m210 M (fun v211 M212 => w_X7_loose M212 (fun v213 M214 => ((v211 = v213) → (∀ x215 : Int32, x215 = l3 + 6 → B18 x215 M214)) ∧ (¬ (v211 = v213) → (Q 0 M214))))))) ∧ (((M (100 + 8) (Int32.toNatClampNeg l3)) &&& 31 = 22 → ((vp_in (l3 + 1) (M 110 8).toNatClampNeg) ∧ (∃ r217 : Nat, RW r217 ∧ (∃ m218 : Nat, MU m218 ∧ (w_X6_told r217 m218 (M (100 + 8) (Int32.toNatClampNeg (l3 + 1))) M (fun v219 M220 => (vp_in (l3 + 1) (M220 110 8).toNatClampNeg) ∧ (w_X7_told (M220 (100 + 8) (Int32.toNatClampNeg (l3 + 1))) M220 (fun v222 M223 => ((v219 = v222) → (∀ x224 : Int32, x224 = l3 + 6 → B18 x224 M223)) ∧ (¬ (v219 = v222) → (Q 0 M223)))))))))) ∧ ((¬ (M (100 + 8) (Int32.toNatClampNeg l3)) &&& 31 = 0 → ¬ (M (100 + 8) (Int32.toNatClampNeg l3)) &&& 31 = 1 → ¬ (M (100 + 8) (Int32.toNatClampNeg l3)) &&& 31 = 2 → ¬ (M (100 + 8) (Int32.toNatClampNeg l3)) &&& 31 = 3 → ¬ (M (100 + 8) (Int32.toNatClampNeg l3)) &&& 31 = 4 → ¬ (M (100 + 8) (Int32.toNatClampNeg l3)) &&& 31 = 5 → ¬ (M (100 + 8) (Int32.toNatClampNeg l3)) &&& 31 = 6 → ¬ (M (100 + 8) (Int32.toNatClampNeg l3)) &&& 31 = 7 → ¬ (M (100 + 8) (Int32.toNatClampNeg l3)) &&& 31 = 8 → ¬ (M (100 + 8) (Int32.toNatClampNeg l3)) &&& 31 = 9 → ¬ (M (100 + 8) (Int32.toNatClampNeg l3)) &&& 31 = 10 → ¬ (M (100 + 8) (Int32.toNatClampNeg l3)) &&& 31 = 11 → ¬ (M (100 + 8) (Int32.toNatClampNeg l3)) &&& 31 = 12 → ¬ (M (100 + 8) (Int32.toNatClampNeg l3)) &&& 31 = 13 → ¬ (M (100 + 8) (Int32.toNatClampNeg l3)) &&& 31 = 14 → ¬ (M (100 + 8) (Int32.toNatClampNeg l3)) &&& 31 = 15 → ¬ (M (100 + 8) (Int32.toNatClampNeg l3)) &&& 31 = 16 → ¬ (M (100 + 8) (Int32.toNatClampNeg l3)) &&& 31 = 17 → ¬ (M (100 + 8) (Int32.toNatClampNeg l3)) &&& 31 = 18 → ¬ (M (100 + 8) (Int32.toNatClampNeg l3)) &&& 31 = 19 → ¬ (M (100 + 8) (Int32.toNatClampNeg l3)) &&& 31 = 20 → ¬ (M (100 + 8) (Int32.toNatClampNeg l3)) &&& 31 = 21 → ¬ (M (100 + 8) (Int32.toNatClampNeg l3)) &&& 31 = 22 → (∀ x225 : Int32, x225 = l3 + 6 → B18 x225 M))))))))))))))))))))))))))))
def w_law (Q : Int32 → Mem → Prop) : Nat → Int32 → Mem → Prop
  | 0 => fun _ _ => False
  | k + 1 => wb_law Q (w_law Q k)
theorem t_law (Q : Int32 → Mem → Prop) : ∀ (k : Nat) (l3 : Int32) (M : Mem), w_law Q k l3 M → Ex true mL_law 78 78 k (11 * k) 18 [.ref (100 + 8), .ref 0, .ref 46, .int l3] [] M Q := by
  intro k
  induction k with
  | zero => intro l3 M h; exact False.elim h
  | succ k hB18 =>
    intro l3 M h
    replace h : wb_law Q (w_law Q k) l3 M := h
    generalize w_law Q k = B18 at hB18 h
    unfold wb_law at h
    show Ex true mL_law 78 78 (k + 1) (11 * k + 11) 18 [.ref (100 + 8), .ref 0, .ref 46, .int l3] [] M Q
    refine ex_iload_n dL_law_18 rfl ?_
    refine ex_aload_n dL_law_19 rfl ?_
    refine ex_tlen (i := 8) dL_law_20 (by decide) ?_
    refine ex_bipush (v := 6) dL_law_21 (by decide) ?_
    refine ex_isub dL_law_23 ?_
    refine ex_icmp_gt (tgt := 851) dL_law_24 (by decide) (fun c_24 => ?_) (fun c_24 => ?_)
    · replace h := h.1 c_24
      refine ex_iconst (v := 1) dL_law_851 (by decide) ?_
      exact ex_iret dL_law_852 rfl rfl rfl h
    · replace h := h.2 c_24
      refine ex_aload_n dL_law_27 rfl ?_
      refine ex_iload_n dL_law_28 rfl ?_
      obtain ⟨b1, h⟩ := h
      refine ex_tald (i := 8) dL_law_29 (by decide) b1 ?_
      refine ex_bipush (v := 31) dL_law_30 (by decide) ?_
      refine ex_iand dL_law_32 ?_
      by_cases e_0 : (M (100 + 8) (Int32.toNatClampNeg l3)) &&& 31 = 0
      · replace h := h.1 e_0
        refine ex_tableIn (tgt := 140) dL_law_33 (by rw [e_0]; decide) (by rw [e_0]; decide) (by rw [e_0]; rfl) (by decide) ?_
        refine ex_aload_n dL_law_140 rfl ?_
        obtain ⟨r2, hr2, h⟩ := h
        obtain ⟨m3, hm3, h⟩ := h
        refine ex_invV (kc := (k + 1)) (ks := (11 * k + 11)) (k := 0) (ci := 6) (as := []) (L2 := [.ref 0]) (st := []) 0 0 dL_law_141 lk_L_13 sl_X6_clear (rmK_of rfl) (by decide) rfl ⟨by decide, rfl⟩ rfl (Nat.le_of_ble_eq_true rfl) (Nat.le_of_ble_eq_true rfl) (t_X6_clear r2 m3 hr2 hm3 M _ h) (fun v4 M5 h => ?_)
        show Ex true mL_law 78 78 (k + 1) (11 * k + 11) 144 [.ref (100 + 8), .ref 0, .ref 46, .int l3] [] M5 Q
        refine ex_aload_n dL_law_144 rfl ?_
        refine ex_invV (kc := (k + 1)) (ks := (11 * k + 11)) (k := 46) (ci := 7) (as := []) (L2 := [.ref 46]) (st := []) 0 0 dL_law_145 lk_L_16 sl_X7_clear (rmK_of rfl) (by decide) rfl ⟨by decide, rfl⟩ rfl (Nat.le_of_ble_eq_true rfl) (Nat.le_of_ble_eq_true rfl) (t_X7_clear   M5 _ h) (fun v6 M7 h => ?_)
        show Ex true mL_law 78 78 (k + 1) (11 * k + 11) 148 [.ref (100 + 8), .ref 0, .ref 46, .int l3] [] M7 Q
        refine ex_goto (tgt := 845) dL_law_148 (by decide) ?_
        refine ex_iinc (v := l3 + 6) (L2 := [.ref (100 + 8), .ref 0, .ref 46, .int (l3 + 6)]) dL_law_845 rfl rfl (by decide) rfl rfl ?_
        obtain ⟨x8, ex8⟩ : ∃ x8 : Int32, x8 = l3 + 6 := ⟨_, rfl⟩
        rw [← ex8]
        replace h := h x8 ex8
        refine ex_goto (tgt := 18) dL_law_848 (by decide) ?_
        refine ex_bud 1 11 ?_
        exact hB18 x8 M7 h
      · replace h := h.2
        by_cases e_1 : (M (100 + 8) (Int32.toNatClampNeg l3)) &&& 31 = 1
        · replace h := h.1 e_1
          refine ex_tableIn (tgt := 151) dL_law_33 (by rw [e_1]; decide) (by rw [e_1]; decide) (by rw [e_1]; rfl) (by decide) ?_
          refine ex_aload_n dL_law_151 rfl ?_
          refine ex_aload_n dL_law_152 rfl ?_
          refine ex_iload_n dL_law_153 rfl ?_
          refine ex_iconst (v := 1) dL_law_154 (by decide) ?_
          refine ex_iadd dL_law_155 ?_
          obtain ⟨b9, h⟩ := h
          refine ex_tald (i := 8) dL_law_156 (by decide) b9 ?_
          obtain ⟨r10, hr10, h⟩ := h
          refine ex_invV (kc := (k + 1)) (ks := (11 * k + 11)) (k := 0) (ci := 6) (as := [.int (M (100 + 8) (Int32.toNatClampNeg (l3 + 1)))]) (L2 := [.ref 0, .int (M (100 + 8) (Int32.toNatClampNeg (l3 + 1)))]) (st := []) 0 0 dL_law_157 lk_L_17 sl_X6_cell (rmK_of rfl) (by decide) rfl ⟨by decide, rfl⟩ rfl (Nat.le_of_ble_eq_true rfl) (Nat.le_of_ble_eq_true rfl) (t_X6_cell r10 hr10 (M (100 + 8) (Int32.toNatClampNeg (l3 + 1))) M _ h) (fun v11 M12 h => ?_)
          show Ex true mL_law 78 78 (k + 1) (11 * k + 11) 160 [.ref (100 + 8), .ref 0, .ref 46, .int l3] [.int v11] M12 Q
          refine ex_aload_n dL_law_160 rfl ?_
          refine ex_aload_n dL_law_161 rfl ?_
          refine ex_iload_n dL_law_162 rfl ?_
          refine ex_iconst (v := 1) dL_law_163 (by decide) ?_
          refine ex_iadd dL_law_164 ?_
          obtain ⟨b13, h⟩ := h
          refine ex_tald (i := 8) dL_law_165 (by decide) b13 ?_
          refine ex_invV (kc := (k + 1)) (ks := (11 * k + 11)) (k := 46) (ci := 7) (as := [.int (M12 (100 + 8) (Int32.toNatClampNeg (l3 + 1)))]) (L2 := [.ref 46, .int (M12 (100 + 8) (Int32.toNatClampNeg (l3 + 1)))]) (st := [.int v11]) 0 0 dL_law_166 lk_L_21 sl_X7_cell (rmK_of rfl) (by decide) rfl ⟨by decide, rfl⟩ rfl (Nat.le_of_ble_eq_true rfl) (Nat.le_of_ble_eq_true rfl) (t_X7_cell   (M12 (100 + 8) (Int32.toNatClampNeg (l3 + 1))) M12 _ h) (fun v14 M15 h => ?_)
          show Ex true mL_law 78 78 (k + 1) (11 * k + 11) 169 [.ref (100 + 8), .ref 0, .ref 46, .int l3] [.int v14, .int v11] M15 Q
          refine ex_icmp_eq (tgt := 845) dL_law_169 (by decide) (fun c_169 => ?_) (fun c_169 => ?_)
          · replace h := h.1 c_169
            refine ex_iinc (v := l3 + 6) (L2 := [.ref (100 + 8), .ref 0, .ref 46, .int (l3 + 6)]) dL_law_845 rfl rfl (by decide) rfl rfl ?_
            obtain ⟨x16, ex16⟩ : ∃ x16 : Int32, x16 = l3 + 6 := ⟨_, rfl⟩
            rw [← ex16]
            replace h := h x16 ex16
            refine ex_goto (tgt := 18) dL_law_848 (by decide) ?_
            refine ex_bud 1 11 ?_
            exact hB18 x16 M15 h
          · replace h := h.2 c_169
            refine ex_iconst (v := 0) dL_law_172 (by decide) ?_
            exact ex_iret dL_law_173 rfl rfl rfl h
        · replace h := h.2
          by_cases e_2 : (M (100 + 8) (Int32.toNatClampNeg l3)) &&& 31 = 2
          · replace h := h.1 e_2
            refine ex_tableIn (tgt := 174) dL_law_33 (by rw [e_2]; decide) (by rw [e_2]; decide) (by rw [e_2]; rfl) (by decide) ?_
            refine ex_aload_n dL_law_174 rfl ?_
            refine ex_aload_n dL_law_175 rfl ?_
            refine ex_iload_n dL_law_176 rfl ?_
            refine ex_iconst (v := 1) dL_law_177 (by decide) ?_
            refine ex_iadd dL_law_178 ?_
            obtain ⟨b17, h⟩ := h
            refine ex_tald (i := 8) dL_law_179 (by decide) b17 ?_
            refine ex_i2l dL_law_180 ?_
            refine ex_bipush (v := 32) dL_law_181 (by decide) ?_
            refine ex_lshl dL_law_183 ?_
            refine ex_aload_n dL_law_184 rfl ?_
            refine ex_iload_n dL_law_185 rfl ?_
            refine ex_iconst (v := 2) dL_law_186 (by decide) ?_
            refine ex_iadd dL_law_187 ?_
            obtain ⟨b18, h⟩ := h
            refine ex_tald (i := 8) dL_law_188 (by decide) b18 ?_
            refine ex_i2l dL_law_189 ?_
            refine ex_ldc2 (v := 4294967295) dL_law_190 lk_L_22 ?_
            refine ex_land dL_law_193 ?_
            refine ex_lor dL_law_194 ?_
            obtain ⟨r19, hr19, h⟩ := h
            refine ex_invV (kc := (k + 1)) (ks := (11 * k + 11)) (k := 0) (ci := 6) (as := [.long (((Int32.toInt64 (M (100 + 8) (Int32.toNatClampNeg (l3 + 1)))) <<< (Int32.toInt64 32 &&& 63)) ||| ((Int32.toInt64 (M (100 + 8) (Int32.toNatClampNeg (l3 + 2)))) &&& 4294967295))]) (L2 := [.ref 0, .long (((Int32.toInt64 (M (100 + 8) (Int32.toNatClampNeg (l3 + 1)))) <<< (Int32.toInt64 32 &&& 63)) ||| ((Int32.toInt64 (M (100 + 8) (Int32.toNatClampNeg (l3 + 2)))) &&& 4294967295)), .null, .null, .null, .null]) (st := []) 0 0 dL_law_195 lk_L_24 sl_X6_more (rmK_of rfl) (by decide) rfl ⟨by decide, rfl⟩ rfl (Nat.le_of_ble_eq_true rfl) (Nat.le_of_ble_eq_true rfl) (t_X6_more r19 hr19 (((Int32.toInt64 (M (100 + 8) (Int32.toNatClampNeg (l3 + 1)))) <<< (Int32.toInt64 32 &&& 63)) ||| ((Int32.toInt64 (M (100 + 8) (Int32.toNatClampNeg (l3 + 2)))) &&& 4294967295)) M _ h) (fun v20 M21 h => ?_)
            show Ex true mL_law 78 78 (k + 1) (11 * k + 11) 198 [.ref (100 + 8), .ref 0, .ref 46, .int l3] [.int v20] M21 Q
            refine ex_aload_n dL_law_198 rfl ?_
            refine ex_aload_n dL_law_199 rfl ?_
            refine ex_iload_n dL_law_200 rfl ?_
            refine ex_iconst (v := 1) dL_law_201 (by decide) ?_
            refine ex_iadd dL_law_202 ?_
            obtain ⟨b22, h⟩ := h
            refine ex_tald (i := 8) dL_law_203 (by decide) b22 ?_
            refine ex_i2l dL_law_204 ?_
            refine ex_bipush (v := 32) dL_law_205 (by decide) ?_
            refine ex_lshl dL_law_207 ?_
            refine ex_aload_n dL_law_208 rfl ?_
            refine ex_iload_n dL_law_209 rfl ?_
            refine ex_iconst (v := 2) dL_law_210 (by decide) ?_
            refine ex_iadd dL_law_211 ?_
            obtain ⟨b23, h⟩ := h
            refine ex_tald (i := 8) dL_law_212 (by decide) b23 ?_
            refine ex_i2l dL_law_213 ?_
            refine ex_ldc2 (v := 4294967295) dL_law_214 lk_L_22 ?_
            refine ex_land dL_law_217 ?_
            refine ex_lor dL_law_218 ?_
            refine ex_invV (kc := (k + 1)) (ks := (11 * k + 11)) (k := 46) (ci := 7) (as := [.long (((Int32.toInt64 (M21 (100 + 8) (Int32.toNatClampNeg (l3 + 1)))) <<< (Int32.toInt64 32 &&& 63)) ||| ((Int32.toInt64 (M21 (100 + 8) (Int32.toNatClampNeg (l3 + 2)))) &&& 4294967295))]) (L2 := [.ref 46, .long (((Int32.toInt64 (M21 (100 + 8) (Int32.toNatClampNeg (l3 + 1)))) <<< (Int32.toInt64 32 &&& 63)) ||| ((Int32.toInt64 (M21 (100 + 8) (Int32.toNatClampNeg (l3 + 2)))) &&& 4294967295)), .null, .null, .null, .null]) (st := [.int v20]) 0 0 dL_law_219 lk_L_28 sl_X7_more (rmK_of rfl) (by decide) rfl ⟨by decide, rfl⟩ rfl (Nat.le_of_ble_eq_true rfl) (Nat.le_of_ble_eq_true rfl) (t_X7_more   (((Int32.toInt64 (M21 (100 + 8) (Int32.toNatClampNeg (l3 + 1)))) <<< (Int32.toInt64 32 &&& 63)) ||| ((Int32.toInt64 (M21 (100 + 8) (Int32.toNatClampNeg (l3 + 2)))) &&& 4294967295)) M21 _ h) (fun v24 M25 h => ?_)
            show Ex true mL_law 78 78 (k + 1) (11 * k + 11) 222 [.ref (100 + 8), .ref 0, .ref 46, .int l3] [.int v24, .int v20] M25 Q
            refine ex_icmp_eq (tgt := 845) dL_law_222 (by decide) (fun c_222 => ?_) (fun c_222 => ?_)
            · replace h := h.1 c_222
              refine ex_iinc (v := l3 + 6) (L2 := [.ref (100 + 8), .ref 0, .ref 46, .int (l3 + 6)]) dL_law_845 rfl rfl (by decide) rfl rfl ?_
              obtain ⟨x26, ex26⟩ : ∃ x26 : Int32, x26 = l3 + 6 := ⟨_, rfl⟩
              rw [← ex26]
              replace h := h x26 ex26
              refine ex_goto (tgt := 18) dL_law_848 (by decide) ?_
              refine ex_bud 1 11 ?_
              exact hB18 x26 M25 h
            · replace h := h.2 c_222
              refine ex_iconst (v := 0) dL_law_225 (by decide) ?_
              exact ex_iret dL_law_226 rfl rfl rfl h
          · replace h := h.2
            by_cases e_3 : (M (100 + 8) (Int32.toNatClampNeg l3)) &&& 31 = 3
            · replace h := h.1 e_3
              refine ex_tableIn (tgt := 227) dL_law_33 (by rw [e_3]; decide) (by rw [e_3]; decide) (by rw [e_3]; rfl) (by decide) ?_
              refine ex_aload_n dL_law_227 rfl ?_
              refine ex_aload_n dL_law_228 rfl ?_
              refine ex_iload_n dL_law_229 rfl ?_
              refine ex_iconst (v := 1) dL_law_230 (by decide) ?_
              refine ex_iadd dL_law_231 ?_
              obtain ⟨b27, h⟩ := h
              refine ex_tald (i := 8) dL_law_232 (by decide) b27 ?_
              obtain ⟨r28, hr28, h⟩ := h
              refine ex_invV (kc := (k + 1)) (ks := (11 * k + 11)) (k := 0) (ci := 6) (as := [.int (M (100 + 8) (Int32.toNatClampNeg (l3 + 1)))]) (L2 := [.ref 0, .int (M (100 + 8) (Int32.toNatClampNeg (l3 + 1))), .null]) (st := []) 0 0 dL_law_233 lk_L_29 sl_X6_cut (rmK_of rfl) (by decide) rfl ⟨by decide, rfl⟩ rfl (Nat.le_of_ble_eq_true rfl) (Nat.le_of_ble_eq_true rfl) (t_X6_cut r28 hr28 (M (100 + 8) (Int32.toNatClampNeg (l3 + 1))) M _ h) (fun v29 M30 h => ?_)
              show Ex true mL_law 78 78 (k + 1) (11 * k + 11) 236 [.ref (100 + 8), .ref 0, .ref 46, .int l3] [.int v29] M30 Q
              refine ex_aload_n dL_law_236 rfl ?_
              refine ex_aload_n dL_law_237 rfl ?_
              refine ex_iload_n dL_law_238 rfl ?_
              refine ex_iconst (v := 1) dL_law_239 (by decide) ?_
              refine ex_iadd dL_law_240 ?_
              obtain ⟨b31, h⟩ := h
              refine ex_tald (i := 8) dL_law_241 (by decide) b31 ?_
              refine ex_invV (kc := (k + 1)) (ks := (11 * k + 11)) (k := 46) (ci := 7) (as := [.int (M30 (100 + 8) (Int32.toNatClampNeg (l3 + 1)))]) (L2 := [.ref 46, .int (M30 (100 + 8) (Int32.toNatClampNeg (l3 + 1))), .null]) (st := [.int v29]) 0 0 dL_law_242 lk_L_32 sl_X7_cut (rmK_of rfl) (by decide) rfl ⟨by decide, rfl⟩ rfl (Nat.le_of_ble_eq_true rfl) (Nat.le_of_ble_eq_true rfl) (t_X7_cut   (M30 (100 + 8) (Int32.toNatClampNeg (l3 + 1))) M30 _ h) (fun v32 M33 h => ?_)
              show Ex true mL_law 78 78 (k + 1) (11 * k + 11) 245 [.ref (100 + 8), .ref 0, .ref 46, .int l3] [.int v32, .int v29] M33 Q
              refine ex_icmp_eq (tgt := 845) dL_law_245 (by decide) (fun c_245 => ?_) (fun c_245 => ?_)
              · replace h := h.1 c_245
                refine ex_iinc (v := l3 + 6) (L2 := [.ref (100 + 8), .ref 0, .ref 46, .int (l3 + 6)]) dL_law_845 rfl rfl (by decide) rfl rfl ?_
                obtain ⟨x34, ex34⟩ : ∃ x34 : Int32, x34 = l3 + 6 := ⟨_, rfl⟩
                rw [← ex34]
                replace h := h x34 ex34
                refine ex_goto (tgt := 18) dL_law_848 (by decide) ?_
                refine ex_bud 1 11 ?_
                exact hB18 x34 M33 h
              · replace h := h.2 c_245
                refine ex_iconst (v := 0) dL_law_248 (by decide) ?_
                exact ex_iret dL_law_249 rfl rfl rfl h
            · replace h := h.2
              by_cases e_4 : (M (100 + 8) (Int32.toNatClampNeg l3)) &&& 31 = 4
              · replace h := h.1 e_4
                refine ex_tableIn (tgt := 250) dL_law_33 (by rw [e_4]; decide) (by rw [e_4]; decide) (by rw [e_4]; rfl) (by decide) ?_
                refine ex_aload_n dL_law_250 rfl ?_
                refine ex_aload_n dL_law_251 rfl ?_
                refine ex_iload_n dL_law_252 rfl ?_
                refine ex_iconst (v := 1) dL_law_253 (by decide) ?_
                refine ex_iadd dL_law_254 ?_
                obtain ⟨b35, h⟩ := h
                refine ex_tald (i := 8) dL_law_255 (by decide) b35 ?_
                obtain ⟨r36, hr36, h⟩ := h
                refine ex_invV (kc := (k + 1)) (ks := (11 * k + 11)) (k := 0) (ci := 6) (as := [.int (M (100 + 8) (Int32.toNatClampNeg (l3 + 1)))]) (L2 := [.ref 0, .int (M (100 + 8) (Int32.toNatClampNeg (l3 + 1)))]) (st := []) 0 0 dL_law_256 lk_L_33 sl_X6_at (rmK_of rfl) (by decide) rfl ⟨by decide, rfl⟩ rfl (Nat.le_of_ble_eq_true rfl) (Nat.le_of_ble_eq_true rfl) (t_X6_at r36 hr36 (M (100 + 8) (Int32.toNatClampNeg (l3 + 1))) M _ h) (fun v37 M38 h => ?_)
                show Ex true mL_law 78 78 (k + 1) (11 * k + 11) 259 [.ref (100 + 8), .ref 0, .ref 46, .int l3] [.int v37] M38 Q
                refine ex_aload_n dL_law_259 rfl ?_
                refine ex_aload_n dL_law_260 rfl ?_
                refine ex_iload_n dL_law_261 rfl ?_
                refine ex_iconst (v := 1) dL_law_262 (by decide) ?_
                refine ex_iadd dL_law_263 ?_
                obtain ⟨b39, h⟩ := h
                refine ex_tald (i := 8) dL_law_264 (by decide) b39 ?_
                refine ex_invV (kc := (k + 1)) (ks := (11 * k + 11)) (k := 46) (ci := 7) (as := [.int (M38 (100 + 8) (Int32.toNatClampNeg (l3 + 1)))]) (L2 := [.ref 46, .int (M38 (100 + 8) (Int32.toNatClampNeg (l3 + 1)))]) (st := [.int v37]) 0 0 dL_law_265 lk_L_36 sl_X7_at (rmK_of rfl) (by decide) rfl ⟨by decide, rfl⟩ rfl (Nat.le_of_ble_eq_true rfl) (Nat.le_of_ble_eq_true rfl) (t_X7_at   (M38 (100 + 8) (Int32.toNatClampNeg (l3 + 1))) M38 _ h) (fun v40 M41 h => ?_)
                show Ex true mL_law 78 78 (k + 1) (11 * k + 11) 268 [.ref (100 + 8), .ref 0, .ref 46, .int l3] [.int v40, .int v37] M41 Q
                refine ex_icmp_eq (tgt := 845) dL_law_268 (by decide) (fun c_268 => ?_) (fun c_268 => ?_)
                · replace h := h.1 c_268
                  refine ex_iinc (v := l3 + 6) (L2 := [.ref (100 + 8), .ref 0, .ref 46, .int (l3 + 6)]) dL_law_845 rfl rfl (by decide) rfl rfl ?_
                  obtain ⟨x42, ex42⟩ : ∃ x42 : Int32, x42 = l3 + 6 := ⟨_, rfl⟩
                  rw [← ex42]
                  replace h := h x42 ex42
                  refine ex_goto (tgt := 18) dL_law_848 (by decide) ?_
                  refine ex_bud 1 11 ?_
                  exact hB18 x42 M41 h
                · replace h := h.2 c_268
                  refine ex_iconst (v := 0) dL_law_271 (by decide) ?_
                  exact ex_iret dL_law_272 rfl rfl rfl h
              · replace h := h.2
                by_cases e_5 : (M (100 + 8) (Int32.toNatClampNeg l3)) &&& 31 = 5
                · replace h := h.1 e_5
                  refine ex_tableIn (tgt := 273) dL_law_33 (by rw [e_5]; decide) (by rw [e_5]; decide) (by rw [e_5]; rfl) (by decide) ?_
                  refine ex_aload_n dL_law_273 rfl ?_
                  obtain ⟨r43, hr43, h⟩ := h
                  obtain ⟨m44, hm44, h⟩ := h
                  obtain ⟨m245, hm245, h⟩ := h
                  refine ex_invV (kc := (k + 1)) (ks := (11 * k + 11)) (k := 0) (ci := 6) (as := []) (L2 := [.ref 0, .null, .null]) (st := []) 0 0 dL_law_274 lk_L_37 sl_X6_read (rmK_of rfl) (by decide) rfl ⟨by decide, rfl⟩ rfl (Nat.le_of_ble_eq_true rfl) (Nat.le_of_ble_eq_true rfl) (t_X6_read r43 m44 m245 hr43 hm44 hm245 M _ h) (fun v46 M47 h => ?_)
                  show Ex true mL_law 78 78 (k + 1) (11 * k + 11) 277 [.ref (100 + 8), .ref 0, .ref 46, .int l3] [.int v46] M47 Q
                  refine ex_aload_n dL_law_277 rfl ?_
                  refine ex_invV (kc := (k + 1)) (ks := (11 * k + 11)) (k := 46) (ci := 7) (as := []) (L2 := [.ref 46, .null, .null]) (st := [.int v46]) 0 0 dL_law_278 lk_L_41 sl_X7_read (rmK_of rfl) (by decide) rfl ⟨by decide, rfl⟩ rfl (Nat.le_of_ble_eq_true rfl) (Nat.le_of_ble_eq_true rfl) (t_X7_read   M47 _ h) (fun v48 M49 h => ?_)
                  show Ex true mL_law 78 78 (k + 1) (11 * k + 11) 281 [.ref (100 + 8), .ref 0, .ref 46, .int l3] [.int v48, .int v46] M49 Q
                  refine ex_icmp_eq (tgt := 845) dL_law_281 (by decide) (fun c_281 => ?_) (fun c_281 => ?_)
                  · replace h := h.1 c_281
                    refine ex_iinc (v := l3 + 6) (L2 := [.ref (100 + 8), .ref 0, .ref 46, .int (l3 + 6)]) dL_law_845 rfl rfl (by decide) rfl rfl ?_
                    obtain ⟨x50, ex50⟩ : ∃ x50 : Int32, x50 = l3 + 6 := ⟨_, rfl⟩
                    rw [← ex50]
                    replace h := h x50 ex50
                    refine ex_goto (tgt := 18) dL_law_848 (by decide) ?_
                    refine ex_bud 1 11 ?_
                    exact hB18 x50 M49 h
                  · replace h := h.2 c_281
                    refine ex_iconst (v := 0) dL_law_284 (by decide) ?_
                    exact ex_iret dL_law_285 rfl rfl rfl h
                · replace h := h.2
                  by_cases e_6 : (M (100 + 8) (Int32.toNatClampNeg l3)) &&& 31 = 6
                  · replace h := h.1 e_6
                    refine ex_tableIn (tgt := 286) dL_law_33 (by rw [e_6]; decide) (by rw [e_6]; decide) (by rw [e_6]; rfl) (by decide) ?_
                    refine ex_aload_n dL_law_286 rfl ?_
                    refine ex_aload_n dL_law_287 rfl ?_
                    refine ex_iload_n dL_law_288 rfl ?_
                    refine ex_iconst (v := 1) dL_law_289 (by decide) ?_
                    refine ex_iadd dL_law_290 ?_
                    obtain ⟨b51, h⟩ := h
                    refine ex_tald (i := 8) dL_law_291 (by decide) b51 ?_
                    refine ex_aload_n dL_law_292 rfl ?_
                    refine ex_iload_n dL_law_293 rfl ?_
                    refine ex_iconst (v := 2) dL_law_294 (by decide) ?_
                    refine ex_iadd dL_law_295 ?_
                    obtain ⟨b52, h⟩ := h
                    refine ex_tald (i := 8) dL_law_296 (by decide) b52 ?_
                    obtain ⟨m53, hm53, h⟩ := h
                    refine ex_invV (kc := (k + 1)) (ks := (11 * k + 11)) (k := 0) (ci := 6) (as := [.int (M (100 + 8) (Int32.toNatClampNeg (l3 + 1))), .int (M (100 + 8) (Int32.toNatClampNeg (l3 + 2)))]) (L2 := [.ref 0, .int (M (100 + 8) (Int32.toNatClampNeg (l3 + 1))), .int (M (100 + 8) (Int32.toNatClampNeg (l3 + 2))), .null, .null]) (st := []) 0 0 dL_law_297 lk_L_42 sl_X6_meter (rmK_of rfl) (by decide) rfl ⟨by decide, rfl⟩ rfl (Nat.le_of_ble_eq_true rfl) (Nat.le_of_ble_eq_true rfl) (t_X6_meter m53 hm53 (M (100 + 8) (Int32.toNatClampNeg (l3 + 1))) (M (100 + 8) (Int32.toNatClampNeg (l3 + 2))) M _ h) (fun v54 M55 h => ?_)
                    show Ex true mL_law 78 78 (k + 1) (11 * k + 11) 300 [.ref (100 + 8), .ref 0, .ref 46, .int l3] [.int v54] M55 Q
                    refine ex_aload_n dL_law_300 rfl ?_
                    refine ex_aload_n dL_law_301 rfl ?_
                    refine ex_iload_n dL_law_302 rfl ?_
                    refine ex_iconst (v := 1) dL_law_303 (by decide) ?_
                    refine ex_iadd dL_law_304 ?_
                    obtain ⟨b56, h⟩ := h
                    refine ex_tald (i := 8) dL_law_305 (by decide) b56 ?_
                    refine ex_aload_n dL_law_306 rfl ?_
                    refine ex_iload_n dL_law_307 rfl ?_
                    refine ex_iconst (v := 2) dL_law_308 (by decide) ?_
                    refine ex_iadd dL_law_309 ?_
                    obtain ⟨b57, h⟩ := h
                    refine ex_tald (i := 8) dL_law_310 (by decide) b57 ?_
                    refine ex_invV (kc := (k + 1)) (ks := (11 * k + 11)) (k := 46) (ci := 7) (as := [.int (M55 (100 + 8) (Int32.toNatClampNeg (l3 + 1))), .int (M55 (100 + 8) (Int32.toNatClampNeg (l3 + 2)))]) (L2 := [.ref 46, .int (M55 (100 + 8) (Int32.toNatClampNeg (l3 + 1))), .int (M55 (100 + 8) (Int32.toNatClampNeg (l3 + 2))), .null]) (st := [.int v54]) 0 0 dL_law_311 lk_L_46 sl_X7_meter (rmK_of rfl) (by decide) rfl ⟨by decide, rfl⟩ rfl (Nat.le_of_ble_eq_true rfl) (Nat.le_of_ble_eq_true rfl) (t_X7_meter   (M55 (100 + 8) (Int32.toNatClampNeg (l3 + 1))) (M55 (100 + 8) (Int32.toNatClampNeg (l3 + 2))) M55 _ h) (fun v58 M59 h => ?_)
                    show Ex true mL_law 78 78 (k + 1) (11 * k + 11) 314 [.ref (100 + 8), .ref 0, .ref 46, .int l3] [.int v58, .int v54] M59 Q
                    refine ex_icmp_eq (tgt := 845) dL_law_314 (by decide) (fun c_314 => ?_) (fun c_314 => ?_)
                    · replace h := h.1 c_314
                      refine ex_iinc (v := l3 + 6) (L2 := [.ref (100 + 8), .ref 0, .ref 46, .int (l3 + 6)]) dL_law_845 rfl rfl (by decide) rfl rfl ?_
                      obtain ⟨x60, ex60⟩ : ∃ x60 : Int32, x60 = l3 + 6 := ⟨_, rfl⟩
                      rw [← ex60]
                      replace h := h x60 ex60
                      refine ex_goto (tgt := 18) dL_law_848 (by decide) ?_
                      refine ex_bud 1 11 ?_
                      exact hB18 x60 M59 h
                    · replace h := h.2 c_314
                      refine ex_iconst (v := 0) dL_law_317 (by decide) ?_
                      exact ex_iret dL_law_318 rfl rfl rfl h
                  · replace h := h.2
                    by_cases e_7 : (M (100 + 8) (Int32.toNatClampNeg l3)) &&& 31 = 7
                    · replace h := h.1 e_7
                      refine ex_tableIn (tgt := 319) dL_law_33 (by rw [e_7]; decide) (by rw [e_7]; decide) (by rw [e_7]; rfl) (by decide) ?_
                      refine ex_aload_n dL_law_319 rfl ?_
                      refine ex_aload_n dL_law_320 rfl ?_
                      refine ex_iload_n dL_law_321 rfl ?_
                      refine ex_iconst (v := 1) dL_law_322 (by decide) ?_
                      refine ex_iadd dL_law_323 ?_
                      obtain ⟨b61, h⟩ := h
                      refine ex_tald (i := 8) dL_law_324 (by decide) b61 ?_
                      obtain ⟨m62, hm62, h⟩ := h
                      refine ex_invV (kc := (k + 1)) (ks := (11 * k + 11)) (k := 0) (ci := 6) (as := [.int (M (100 + 8) (Int32.toNatClampNeg (l3 + 1)))]) (L2 := [.ref 0, .int (M (100 + 8) (Int32.toNatClampNeg (l3 + 1))), .null]) (st := []) 0 0 dL_law_325 lk_L_47 sl_X6_hand (rmK_of rfl) (by decide) rfl ⟨by decide, rfl⟩ rfl (Nat.le_of_ble_eq_true rfl) (Nat.le_of_ble_eq_true rfl) (t_X6_hand m62 hm62 (M (100 + 8) (Int32.toNatClampNeg (l3 + 1))) M _ h) (fun v63 M64 h => ?_)
                      show Ex true mL_law 78 78 (k + 1) (11 * k + 11) 328 [.ref (100 + 8), .ref 0, .ref 46, .int l3] [.int v63] M64 Q
                      refine ex_aload_n dL_law_328 rfl ?_
                      refine ex_aload_n dL_law_329 rfl ?_
                      refine ex_iload_n dL_law_330 rfl ?_
                      refine ex_iconst (v := 1) dL_law_331 (by decide) ?_
                      refine ex_iadd dL_law_332 ?_
                      obtain ⟨b65, h⟩ := h
                      refine ex_tald (i := 8) dL_law_333 (by decide) b65 ?_
                      refine ex_invV (kc := (k + 1)) (ks := (11 * k + 11)) (k := 46) (ci := 7) (as := [.int (M64 (100 + 8) (Int32.toNatClampNeg (l3 + 1)))]) (L2 := [.ref 46, .int (M64 (100 + 8) (Int32.toNatClampNeg (l3 + 1))), .null, .null, .null, .null]) (st := [.int v63]) 0 0 dL_law_334 lk_L_50 sl_X7_hand (rmK_of rfl) (by decide) rfl ⟨by decide, rfl⟩ rfl (Nat.le_of_ble_eq_true rfl) (Nat.le_of_ble_eq_true rfl) (t_X7_hand   (M64 (100 + 8) (Int32.toNatClampNeg (l3 + 1))) M64 _ h) (fun v66 M67 h => ?_)
                      show Ex true mL_law 78 78 (k + 1) (11 * k + 11) 337 [.ref (100 + 8), .ref 0, .ref 46, .int l3] [.int v66, .int v63] M67 Q
                      refine ex_icmp_eq (tgt := 845) dL_law_337 (by decide) (fun c_337 => ?_) (fun c_337 => ?_)
                      · replace h := h.1 c_337
                        refine ex_iinc (v := l3 + 6) (L2 := [.ref (100 + 8), .ref 0, .ref 46, .int (l3 + 6)]) dL_law_845 rfl rfl (by decide) rfl rfl ?_
                        obtain ⟨x68, ex68⟩ : ∃ x68 : Int32, x68 = l3 + 6 := ⟨_, rfl⟩
                        rw [← ex68]
                        replace h := h x68 ex68
                        refine ex_goto (tgt := 18) dL_law_848 (by decide) ?_
                        refine ex_bud 1 11 ?_
                        exact hB18 x68 M67 h
                      · replace h := h.2 c_337
                        refine ex_iconst (v := 0) dL_law_340 (by decide) ?_
                        exact ex_iret dL_law_341 rfl rfl rfl h
                    · replace h := h.2
                      by_cases e_8 : (M (100 + 8) (Int32.toNatClampNeg l3)) &&& 31 = 8
                      · replace h := h.1 e_8
                        refine ex_tableIn (tgt := 342) dL_law_33 (by rw [e_8]; decide) (by rw [e_8]; decide) (by rw [e_8]; rfl) (by decide) ?_
                        refine ex_aload_n dL_law_342 rfl ?_
                        refine ex_aload_n dL_law_343 rfl ?_
                        refine ex_iload_n dL_law_344 rfl ?_
                        refine ex_iconst (v := 1) dL_law_345 (by decide) ?_
                        refine ex_iadd dL_law_346 ?_
                        obtain ⟨b69, h⟩ := h
                        refine ex_tald (i := 8) dL_law_347 (by decide) b69 ?_
                        have hJ80 : ∀ z70 : Int32, z70 = (if (M (100 + 8) (Int32.toNatClampNeg (l3 + 1))) = 0 then 0 else 1) → Ex true mL_law 78 78 (k + 1) (11 * k + 11) 356 [.ref (100 + 8), .ref 0, .ref 46, .int l3] [.int z70, .ref 0] M Q := by
                          intro z70 ez70
                          replace h := h z70 ez70
                          obtain ⟨m71, hm71, h⟩ := h
                          refine ex_invV (kc := (k + 1)) (ks := (11 * k + 11)) (k := 0) (ci := 6) (as := [.int z70]) (L2 := [.ref 0, .int z70]) (st := []) 0 0 dL_law_356 lk_L_51 sl_X6_bar (rmK_of rfl) (by decide) rfl ⟨by decide, rfl⟩ rfl (Nat.le_of_ble_eq_true rfl) (Nat.le_of_ble_eq_true rfl) (t_X6_bar m71 hm71 z70 M _ h) (fun v72 M73 h => ?_)
                          show Ex true mL_law 78 78 (k + 1) (11 * k + 11) 359 [.ref (100 + 8), .ref 0, .ref 46, .int l3] [.int v72] M73 Q
                          refine ex_aload_n dL_law_359 rfl ?_
                          refine ex_aload_n dL_law_360 rfl ?_
                          refine ex_iload_n dL_law_361 rfl ?_
                          refine ex_iconst (v := 1) dL_law_362 (by decide) ?_
                          refine ex_iadd dL_law_363 ?_
                          obtain ⟨b74, h⟩ := h
                          refine ex_tald (i := 8) dL_law_364 (by decide) b74 ?_
                          have hJ79 : ∀ z75 : Int32, z75 = (if (M73 (100 + 8) (Int32.toNatClampNeg (l3 + 1))) = 0 then 0 else 1) → Ex true mL_law 78 78 (k + 1) (11 * k + 11) 373 [.ref (100 + 8), .ref 0, .ref 46, .int l3] [.int z75, .ref 46, .int v72] M73 Q := by
                            intro z75 ez75
                            replace h := h z75 ez75
                            refine ex_invV (kc := (k + 1)) (ks := (11 * k + 11)) (k := 46) (ci := 7) (as := [.int z75]) (L2 := [.ref 46, .int z75]) (st := [.int v72]) 0 0 dL_law_373 lk_L_55 sl_X7_bar (rmK_of rfl) (by decide) rfl ⟨by decide, rfl⟩ rfl (Nat.le_of_ble_eq_true rfl) (Nat.le_of_ble_eq_true rfl) (t_X7_bar   z75 M73 _ h) (fun v76 M77 h => ?_)
                            show Ex true mL_law 78 78 (k + 1) (11 * k + 11) 376 [.ref (100 + 8), .ref 0, .ref 46, .int l3] [.int v76, .int v72] M77 Q
                            refine ex_icmp_eq (tgt := 845) dL_law_376 (by decide) (fun c_376 => ?_) (fun c_376 => ?_)
                            · replace h := h.1 c_376
                              refine ex_iinc (v := l3 + 6) (L2 := [.ref (100 + 8), .ref 0, .ref 46, .int (l3 + 6)]) dL_law_845 rfl rfl (by decide) rfl rfl ?_
                              obtain ⟨x78, ex78⟩ : ∃ x78 : Int32, x78 = l3 + 6 := ⟨_, rfl⟩
                              rw [← ex78]
                              replace h := h x78 ex78
                              refine ex_goto (tgt := 18) dL_law_848 (by decide) ?_
                              refine ex_bud 1 11 ?_
                              exact hB18 x78 M77 h
                            · replace h := h.2 c_376
                              refine ex_iconst (v := 0) dL_law_379 (by decide) ?_
                              exact ex_iret dL_law_380 rfl rfl rfl h
                          refine ex_if_eq (tgt := 372) dL_law_365 (by decide) (fun c_365 => ?_) (fun c_365 => ?_)
                          ·
                            refine ex_iconst (v := 0) dL_law_372 (by decide) ?_
                            exact hJ79 _ (by rw [if_pos c_365])
                          ·
                            refine ex_iconst (v := 1) dL_law_368 (by decide) ?_
                            refine ex_goto (tgt := 373) dL_law_369 (by decide) ?_
                            exact hJ79 _ (by rw [if_neg c_365])
                        refine ex_if_eq (tgt := 355) dL_law_348 (by decide) (fun c_348 => ?_) (fun c_348 => ?_)
                        ·
                          refine ex_iconst (v := 0) dL_law_355 (by decide) ?_
                          exact hJ80 _ (by rw [if_pos c_348])
                        ·
                          refine ex_iconst (v := 1) dL_law_351 (by decide) ?_
                          refine ex_goto (tgt := 356) dL_law_352 (by decide) ?_
                          exact hJ80 _ (by rw [if_neg c_348])
                      · replace h := h.2
                        by_cases e_9 : (M (100 + 8) (Int32.toNatClampNeg l3)) &&& 31 = 9
                        · replace h := h.1 e_9
                          refine ex_tableIn (tgt := 381) dL_law_33 (by rw [e_9]; decide) (by rw [e_9]; decide) (by rw [e_9]; rfl) (by decide) ?_
                          refine ex_aload_n dL_law_381 rfl ?_
                          obtain ⟨m81, hm81, h⟩ := h
                          refine ex_invV (kc := (k + 1)) (ks := (11 * k + 11)) (k := 0) (ci := 6) (as := []) (L2 := [.ref 0, .null]) (st := []) 0 0 dL_law_382 lk_L_56 sl_X6_voice (rmK_of rfl) (by decide) rfl ⟨by decide, rfl⟩ rfl (Nat.le_of_ble_eq_true rfl) (Nat.le_of_ble_eq_true rfl) (t_X6_voice m81 hm81 M _ h) (fun v82 M83 h => ?_)
                          show Ex true mL_law 78 78 (k + 1) (11 * k + 11) 385 [.ref (100 + 8), .ref 0, .ref 46, .int l3] [.int v82] M83 Q
                          refine ex_aload_n dL_law_385 rfl ?_
                          refine ex_invV (kc := (k + 1)) (ks := (11 * k + 11)) (k := 46) (ci := 7) (as := []) (L2 := [.ref 46, .null]) (st := [.int v82]) 0 0 dL_law_386 lk_L_59 sl_X7_voice (rmK_of rfl) (by decide) rfl ⟨by decide, rfl⟩ rfl (Nat.le_of_ble_eq_true rfl) (Nat.le_of_ble_eq_true rfl) (t_X7_voice   M83 _ h) (fun v84 M85 h => ?_)
                          show Ex true mL_law 78 78 (k + 1) (11 * k + 11) 389 [.ref (100 + 8), .ref 0, .ref 46, .int l3] [.int v84, .int v82] M85 Q
                          refine ex_icmp_eq (tgt := 845) dL_law_389 (by decide) (fun c_389 => ?_) (fun c_389 => ?_)
                          · replace h := h.1 c_389
                            refine ex_iinc (v := l3 + 6) (L2 := [.ref (100 + 8), .ref 0, .ref 46, .int (l3 + 6)]) dL_law_845 rfl rfl (by decide) rfl rfl ?_
                            obtain ⟨x86, ex86⟩ : ∃ x86 : Int32, x86 = l3 + 6 := ⟨_, rfl⟩
                            rw [← ex86]
                            replace h := h x86 ex86
                            refine ex_goto (tgt := 18) dL_law_848 (by decide) ?_
                            refine ex_bud 1 11 ?_
                            exact hB18 x86 M85 h
                          · replace h := h.2 c_389
                            refine ex_iconst (v := 0) dL_law_392 (by decide) ?_
                            exact ex_iret dL_law_393 rfl rfl rfl h
                        · replace h := h.2
                          by_cases e_10 : (M (100 + 8) (Int32.toNatClampNeg l3)) &&& 31 = 10
                          · replace h := h.1 e_10
                            refine ex_tableIn (tgt := 394) dL_law_33 (by rw [e_10]; decide) (by rw [e_10]; decide) (by rw [e_10]; rfl) (by decide) ?_
                            refine ex_aload_n dL_law_394 rfl ?_
                            refine ex_aload_n dL_law_395 rfl ?_
                            refine ex_iload_n dL_law_396 rfl ?_
                            refine ex_iconst (v := 1) dL_law_397 (by decide) ?_
                            refine ex_iadd dL_law_398 ?_
                            obtain ⟨b87, h⟩ := h
                            refine ex_tald (i := 8) dL_law_399 (by decide) b87 ?_
                            refine ex_aload_n dL_law_400 rfl ?_
                            refine ex_iload_n dL_law_401 rfl ?_
                            refine ex_iconst (v := 2) dL_law_402 (by decide) ?_
                            refine ex_iadd dL_law_403 ?_
                            obtain ⟨b88, h⟩ := h
                            refine ex_tald (i := 8) dL_law_404 (by decide) b88 ?_
                            refine ex_aload_n dL_law_405 rfl ?_
                            refine ex_iload_n dL_law_406 rfl ?_
                            refine ex_iconst (v := 3) dL_law_407 (by decide) ?_
                            refine ex_iadd dL_law_408 ?_
                            obtain ⟨b89, h⟩ := h
                            refine ex_tald (i := 8) dL_law_409 (by decide) b89 ?_
                            refine ex_aload_n dL_law_410 rfl ?_
                            refine ex_iload_n dL_law_411 rfl ?_
                            refine ex_iconst (v := 4) dL_law_412 (by decide) ?_
                            refine ex_iadd dL_law_413 ?_
                            obtain ⟨b90, h⟩ := h
                            refine ex_tald (i := 8) dL_law_414 (by decide) b90 ?_
                            refine ex_aload_n dL_law_415 rfl ?_
                            refine ex_iload_n dL_law_416 rfl ?_
                            refine ex_iconst (v := 5) dL_law_417 (by decide) ?_
                            refine ex_iadd dL_law_418 ?_
                            obtain ⟨b91, h⟩ := h
                            refine ex_tald (i := 8) dL_law_419 (by decide) b91 ?_
                            obtain ⟨m92, hm92, h⟩ := h
                            refine ex_invV (kc := (k + 1)) (ks := (11 * k + 11)) (k := 0) (ci := 6) (as := [.int (M (100 + 8) (Int32.toNatClampNeg (l3 + 1))), .int (M (100 + 8) (Int32.toNatClampNeg (l3 + 2))), .int (M (100 + 8) (Int32.toNatClampNeg (l3 + 3))), .int (M (100 + 8) (Int32.toNatClampNeg (l3 + 4))), .int (M (100 + 8) (Int32.toNatClampNeg (l3 + 5)))]) (L2 := [.ref 0, .int (M (100 + 8) (Int32.toNatClampNeg (l3 + 1))), .int (M (100 + 8) (Int32.toNatClampNeg (l3 + 2))), .int (M (100 + 8) (Int32.toNatClampNeg (l3 + 3))), .int (M (100 + 8) (Int32.toNatClampNeg (l3 + 4))), .int (M (100 + 8) (Int32.toNatClampNeg (l3 + 5)))]) (st := []) 0 0 dL_law_420 lk_L_60 sl_X6_note (rmK_of rfl) (by decide) rfl ⟨by decide, rfl⟩ rfl (Nat.le_of_ble_eq_true rfl) (Nat.le_of_ble_eq_true rfl) (t_X6_note m92 hm92 (M (100 + 8) (Int32.toNatClampNeg (l3 + 1))) (M (100 + 8) (Int32.toNatClampNeg (l3 + 2))) (M (100 + 8) (Int32.toNatClampNeg (l3 + 3))) (M (100 + 8) (Int32.toNatClampNeg (l3 + 4))) (M (100 + 8) (Int32.toNatClampNeg (l3 + 5))) M _ h) (fun v93 M94 h => ?_)
                            show Ex true mL_law 78 78 (k + 1) (11 * k + 11) 423 [.ref (100 + 8), .ref 0, .ref 46, .int l3] [.int v93] M94 Q
                            refine ex_aload_n dL_law_423 rfl ?_
                            refine ex_aload_n dL_law_424 rfl ?_
                            refine ex_iload_n dL_law_425 rfl ?_
                            refine ex_iconst (v := 1) dL_law_426 (by decide) ?_
                            refine ex_iadd dL_law_427 ?_
                            obtain ⟨b95, h⟩ := h
                            refine ex_tald (i := 8) dL_law_428 (by decide) b95 ?_
                            refine ex_aload_n dL_law_429 rfl ?_
                            refine ex_iload_n dL_law_430 rfl ?_
                            refine ex_iconst (v := 2) dL_law_431 (by decide) ?_
                            refine ex_iadd dL_law_432 ?_
                            obtain ⟨b96, h⟩ := h
                            refine ex_tald (i := 8) dL_law_433 (by decide) b96 ?_
                            refine ex_aload_n dL_law_434 rfl ?_
                            refine ex_iload_n dL_law_435 rfl ?_
                            refine ex_iconst (v := 3) dL_law_436 (by decide) ?_
                            refine ex_iadd dL_law_437 ?_
                            obtain ⟨b97, h⟩ := h
                            refine ex_tald (i := 8) dL_law_438 (by decide) b97 ?_
                            refine ex_aload_n dL_law_439 rfl ?_
                            refine ex_iload_n dL_law_440 rfl ?_
                            refine ex_iconst (v := 4) dL_law_441 (by decide) ?_
                            refine ex_iadd dL_law_442 ?_
                            obtain ⟨b98, h⟩ := h
                            refine ex_tald (i := 8) dL_law_443 (by decide) b98 ?_
                            refine ex_aload_n dL_law_444 rfl ?_
                            refine ex_iload_n dL_law_445 rfl ?_
                            refine ex_iconst (v := 5) dL_law_446 (by decide) ?_
                            refine ex_iadd dL_law_447 ?_
                            obtain ⟨b99, h⟩ := h
                            refine ex_tald (i := 8) dL_law_448 (by decide) b99 ?_
                            refine ex_invV (kc := (k + 1)) (ks := (11 * k + 11)) (k := 46) (ci := 7) (as := [.int (M94 (100 + 8) (Int32.toNatClampNeg (l3 + 1))), .int (M94 (100 + 8) (Int32.toNatClampNeg (l3 + 2))), .int (M94 (100 + 8) (Int32.toNatClampNeg (l3 + 3))), .int (M94 (100 + 8) (Int32.toNatClampNeg (l3 + 4))), .int (M94 (100 + 8) (Int32.toNatClampNeg (l3 + 5)))]) (L2 := [.ref 46, .int (M94 (100 + 8) (Int32.toNatClampNeg (l3 + 1))), .int (M94 (100 + 8) (Int32.toNatClampNeg (l3 + 2))), .int (M94 (100 + 8) (Int32.toNatClampNeg (l3 + 3))), .int (M94 (100 + 8) (Int32.toNatClampNeg (l3 + 4))), .int (M94 (100 + 8) (Int32.toNatClampNeg (l3 + 5))), .null]) (st := [.int v93]) 0 0 dL_law_449 lk_L_64 sl_X7_note (rmK_of rfl) (by decide) rfl ⟨by decide, rfl⟩ rfl (Nat.le_of_ble_eq_true rfl) (Nat.le_of_ble_eq_true rfl) (t_X7_note   (M94 (100 + 8) (Int32.toNatClampNeg (l3 + 1))) (M94 (100 + 8) (Int32.toNatClampNeg (l3 + 2))) (M94 (100 + 8) (Int32.toNatClampNeg (l3 + 3))) (M94 (100 + 8) (Int32.toNatClampNeg (l3 + 4))) (M94 (100 + 8) (Int32.toNatClampNeg (l3 + 5))) M94 _ h) (fun v100 M101 h => ?_)
                            show Ex true mL_law 78 78 (k + 1) (11 * k + 11) 452 [.ref (100 + 8), .ref 0, .ref 46, .int l3] [.int v100, .int v93] M101 Q
                            refine ex_icmp_eq (tgt := 845) dL_law_452 (by decide) (fun c_452 => ?_) (fun c_452 => ?_)
                            · replace h := h.1 c_452
                              refine ex_iinc (v := l3 + 6) (L2 := [.ref (100 + 8), .ref 0, .ref 46, .int (l3 + 6)]) dL_law_845 rfl rfl (by decide) rfl rfl ?_
                              obtain ⟨x102, ex102⟩ : ∃ x102 : Int32, x102 = l3 + 6 := ⟨_, rfl⟩
                              rw [← ex102]
                              replace h := h x102 ex102
                              refine ex_goto (tgt := 18) dL_law_848 (by decide) ?_
                              refine ex_bud 1 11 ?_
                              exact hB18 x102 M101 h
                            · replace h := h.2 c_452
                              refine ex_iconst (v := 0) dL_law_455 (by decide) ?_
                              exact ex_iret dL_law_456 rfl rfl rfl h
                          · replace h := h.2
                            by_cases e_11 : (M (100 + 8) (Int32.toNatClampNeg l3)) &&& 31 = 11
                            · replace h := h.1 e_11
                              refine ex_tableIn (tgt := 457) dL_law_33 (by rw [e_11]; decide) (by rw [e_11]; decide) (by rw [e_11]; rfl) (by decide) ?_
                              refine ex_aload_n dL_law_457 rfl ?_
                              refine ex_aload_n dL_law_458 rfl ?_
                              refine ex_iload_n dL_law_459 rfl ?_
                              refine ex_iconst (v := 1) dL_law_460 (by decide) ?_
                              refine ex_iadd dL_law_461 ?_
                              obtain ⟨b103, h⟩ := h
                              refine ex_tald (i := 8) dL_law_462 (by decide) b103 ?_
                              refine ex_aload_n dL_law_463 rfl ?_
                              refine ex_iload_n dL_law_464 rfl ?_
                              refine ex_iconst (v := 2) dL_law_465 (by decide) ?_
                              refine ex_iadd dL_law_466 ?_
                              obtain ⟨b104, h⟩ := h
                              refine ex_tald (i := 8) dL_law_467 (by decide) b104 ?_
                              refine ex_aload_n dL_law_468 rfl ?_
                              refine ex_iload_n dL_law_469 rfl ?_
                              refine ex_iconst (v := 3) dL_law_470 (by decide) ?_
                              refine ex_iadd dL_law_471 ?_
                              obtain ⟨b105, h⟩ := h
                              refine ex_tald (i := 8) dL_law_472 (by decide) b105 ?_
                              obtain ⟨m106, hm106, h⟩ := h
                              refine ex_invV (kc := (k + 1)) (ks := (11 * k + 11)) (k := 0) (ci := 6) (as := [.int (M (100 + 8) (Int32.toNatClampNeg (l3 + 1))), .int (M (100 + 8) (Int32.toNatClampNeg (l3 + 2))), .int (M (100 + 8) (Int32.toNatClampNeg (l3 + 3)))]) (L2 := [.ref 0, .int (M (100 + 8) (Int32.toNatClampNeg (l3 + 1))), .int (M (100 + 8) (Int32.toNatClampNeg (l3 + 2))), .int (M (100 + 8) (Int32.toNatClampNeg (l3 + 3)))]) (st := []) 0 0 dL_law_473 lk_L_65 sl_X6_rest (rmK_of rfl) (by decide) rfl ⟨by decide, rfl⟩ rfl (Nat.le_of_ble_eq_true rfl) (Nat.le_of_ble_eq_true rfl) (t_X6_rest m106 hm106 (M (100 + 8) (Int32.toNatClampNeg (l3 + 1))) (M (100 + 8) (Int32.toNatClampNeg (l3 + 2))) (M (100 + 8) (Int32.toNatClampNeg (l3 + 3))) M _ h) (fun v107 M108 h => ?_)
                              show Ex true mL_law 78 78 (k + 1) (11 * k + 11) 476 [.ref (100 + 8), .ref 0, .ref 46, .int l3] [.int v107] M108 Q
                              refine ex_aload_n dL_law_476 rfl ?_
                              refine ex_aload_n dL_law_477 rfl ?_
                              refine ex_iload_n dL_law_478 rfl ?_
                              refine ex_iconst (v := 1) dL_law_479 (by decide) ?_
                              refine ex_iadd dL_law_480 ?_
                              obtain ⟨b109, h⟩ := h
                              refine ex_tald (i := 8) dL_law_481 (by decide) b109 ?_
                              refine ex_aload_n dL_law_482 rfl ?_
                              refine ex_iload_n dL_law_483 rfl ?_
                              refine ex_iconst (v := 2) dL_law_484 (by decide) ?_
                              refine ex_iadd dL_law_485 ?_
                              obtain ⟨b110, h⟩ := h
                              refine ex_tald (i := 8) dL_law_486 (by decide) b110 ?_
                              refine ex_aload_n dL_law_487 rfl ?_
                              refine ex_iload_n dL_law_488 rfl ?_
                              refine ex_iconst (v := 3) dL_law_489 (by decide) ?_
                              refine ex_iadd dL_law_490 ?_
                              obtain ⟨b111, h⟩ := h
                              refine ex_tald (i := 8) dL_law_491 (by decide) b111 ?_
                              refine ex_invV (kc := (k + 1)) (ks := (11 * k + 11)) (k := 46) (ci := 7) (as := [.int (M108 (100 + 8) (Int32.toNatClampNeg (l3 + 1))), .int (M108 (100 + 8) (Int32.toNatClampNeg (l3 + 2))), .int (M108 (100 + 8) (Int32.toNatClampNeg (l3 + 3)))]) (L2 := [.ref 46, .int (M108 (100 + 8) (Int32.toNatClampNeg (l3 + 1))), .int (M108 (100 + 8) (Int32.toNatClampNeg (l3 + 2))), .int (M108 (100 + 8) (Int32.toNatClampNeg (l3 + 3))), .null]) (st := [.int v107]) 0 0 dL_law_492 lk_L_69 sl_X7_rest (rmK_of rfl) (by decide) rfl ⟨by decide, rfl⟩ rfl (Nat.le_of_ble_eq_true rfl) (Nat.le_of_ble_eq_true rfl) (t_X7_rest   (M108 (100 + 8) (Int32.toNatClampNeg (l3 + 1))) (M108 (100 + 8) (Int32.toNatClampNeg (l3 + 2))) (M108 (100 + 8) (Int32.toNatClampNeg (l3 + 3))) M108 _ h) (fun v112 M113 h => ?_)
                              show Ex true mL_law 78 78 (k + 1) (11 * k + 11) 495 [.ref (100 + 8), .ref 0, .ref 46, .int l3] [.int v112, .int v107] M113 Q
                              refine ex_icmp_eq (tgt := 845) dL_law_495 (by decide) (fun c_495 => ?_) (fun c_495 => ?_)
                              · replace h := h.1 c_495
                                refine ex_iinc (v := l3 + 6) (L2 := [.ref (100 + 8), .ref 0, .ref 46, .int (l3 + 6)]) dL_law_845 rfl rfl (by decide) rfl rfl ?_
                                obtain ⟨x114, ex114⟩ : ∃ x114 : Int32, x114 = l3 + 6 := ⟨_, rfl⟩
                                rw [← ex114]
                                replace h := h x114 ex114
                                refine ex_goto (tgt := 18) dL_law_848 (by decide) ?_
                                refine ex_bud 1 11 ?_
                                exact hB18 x114 M113 h
                              · replace h := h.2 c_495
                                refine ex_iconst (v := 0) dL_law_498 (by decide) ?_
                                exact ex_iret dL_law_499 rfl rfl rfl h
                            · replace h := h.2
                              by_cases e_12 : (M (100 + 8) (Int32.toNatClampNeg l3)) &&& 31 = 12
                              · replace h := h.1 e_12
                                refine ex_tableIn (tgt := 500) dL_law_33 (by rw [e_12]; decide) (by rw [e_12]; decide) (by rw [e_12]; rfl) (by decide) ?_
                                refine ex_aload_n dL_law_500 rfl ?_
                                refine ex_aload_n dL_law_501 rfl ?_
                                refine ex_iload_n dL_law_502 rfl ?_
                                refine ex_iconst (v := 1) dL_law_503 (by decide) ?_
                                refine ex_iadd dL_law_504 ?_
                                obtain ⟨b115, h⟩ := h
                                refine ex_tald (i := 8) dL_law_505 (by decide) b115 ?_
                                refine ex_aload_n dL_law_506 rfl ?_
                                refine ex_iload_n dL_law_507 rfl ?_
                                refine ex_iconst (v := 2) dL_law_508 (by decide) ?_
                                refine ex_iadd dL_law_509 ?_
                                obtain ⟨b116, h⟩ := h
                                refine ex_tald (i := 8) dL_law_510 (by decide) b116 ?_
                                obtain ⟨m117, hm117, h⟩ := h
                                refine ex_invV (kc := (k + 1)) (ks := (11 * k + 11)) (k := 0) (ci := 6) (as := [.int (M (100 + 8) (Int32.toNatClampNeg (l3 + 1))), .int (M (100 + 8) (Int32.toNatClampNeg (l3 + 2)))]) (L2 := [.ref 0, .int (M (100 + 8) (Int32.toNatClampNeg (l3 + 1))), .int (M (100 + 8) (Int32.toNatClampNeg (l3 + 2))), .null]) (st := []) 0 0 dL_law_511 lk_L_70 sl_X6_interval (rmK_of rfl) (by decide) rfl ⟨by decide, rfl⟩ rfl (Nat.le_of_ble_eq_true rfl) (Nat.le_of_ble_eq_true rfl) (t_X6_interval m117 hm117 (M (100 + 8) (Int32.toNatClampNeg (l3 + 1))) (M (100 + 8) (Int32.toNatClampNeg (l3 + 2))) M _ h) (fun v118 M119 h => ?_)
                                show Ex true mL_law 78 78 (k + 1) (11 * k + 11) 514 [.ref (100 + 8), .ref 0, .ref 46, .int l3] [.int v118] M119 Q
                                refine ex_aload_n dL_law_514 rfl ?_
                                refine ex_aload_n dL_law_515 rfl ?_
                                refine ex_iload_n dL_law_516 rfl ?_
                                refine ex_iconst (v := 1) dL_law_517 (by decide) ?_
                                refine ex_iadd dL_law_518 ?_
                                obtain ⟨b120, h⟩ := h
                                refine ex_tald (i := 8) dL_law_519 (by decide) b120 ?_
                                refine ex_aload_n dL_law_520 rfl ?_
                                refine ex_iload_n dL_law_521 rfl ?_
                                refine ex_iconst (v := 2) dL_law_522 (by decide) ?_
                                refine ex_iadd dL_law_523 ?_
                                obtain ⟨b121, h⟩ := h
                                refine ex_tald (i := 8) dL_law_524 (by decide) b121 ?_
                                refine ex_invV (kc := (k + 1)) (ks := (11 * k + 11)) (k := 46) (ci := 7) (as := [.int (M119 (100 + 8) (Int32.toNatClampNeg (l3 + 1))), .int (M119 (100 + 8) (Int32.toNatClampNeg (l3 + 2)))]) (L2 := [.ref 46, .int (M119 (100 + 8) (Int32.toNatClampNeg (l3 + 1))), .int (M119 (100 + 8) (Int32.toNatClampNeg (l3 + 2))), .null, .null]) (st := [.int v118]) 0 0 dL_law_525 lk_L_73 sl_X7_interval (rmK_of rfl) (by decide) rfl ⟨by decide, rfl⟩ rfl (Nat.le_of_ble_eq_true rfl) (Nat.le_of_ble_eq_true rfl) (t_X7_interval   (M119 (100 + 8) (Int32.toNatClampNeg (l3 + 1))) (M119 (100 + 8) (Int32.toNatClampNeg (l3 + 2))) M119 _ h) (fun v122 M123 h => ?_)
                                show Ex true mL_law 78 78 (k + 1) (11 * k + 11) 528 [.ref (100 + 8), .ref 0, .ref 46, .int l3] [.int v122, .int v118] M123 Q
                                refine ex_icmp_eq (tgt := 845) dL_law_528 (by decide) (fun c_528 => ?_) (fun c_528 => ?_)
                                · replace h := h.1 c_528
                                  refine ex_iinc (v := l3 + 6) (L2 := [.ref (100 + 8), .ref 0, .ref 46, .int (l3 + 6)]) dL_law_845 rfl rfl (by decide) rfl rfl ?_
                                  obtain ⟨x124, ex124⟩ : ∃ x124 : Int32, x124 = l3 + 6 := ⟨_, rfl⟩
                                  rw [← ex124]
                                  replace h := h x124 ex124
                                  refine ex_goto (tgt := 18) dL_law_848 (by decide) ?_
                                  refine ex_bud 1 11 ?_
                                  exact hB18 x124 M123 h
                                · replace h := h.2 c_528
                                  refine ex_iconst (v := 0) dL_law_531 (by decide) ?_
                                  exact ex_iret dL_law_532 rfl rfl rfl h
                              · replace h := h.2
                                by_cases e_13 : (M (100 + 8) (Int32.toNatClampNeg l3)) &&& 31 = 13
                                · replace h := h.1 e_13
                                  refine ex_tableIn (tgt := 533) dL_law_33 (by rw [e_13]; decide) (by rw [e_13]; decide) (by rw [e_13]; rfl) (by decide) ?_
                                  refine ex_aload_n dL_law_533 rfl ?_
                                  refine ex_aload_n dL_law_534 rfl ?_
                                  refine ex_iload_n dL_law_535 rfl ?_
                                  refine ex_iconst (v := 1) dL_law_536 (by decide) ?_
                                  refine ex_iadd dL_law_537 ?_
                                  obtain ⟨b125, h⟩ := h
                                  refine ex_tald (i := 8) dL_law_538 (by decide) b125 ?_
                                  have hJ136 : ∀ z126 : Int32, z126 = (if (M (100 + 8) (Int32.toNatClampNeg (l3 + 1))) = 0 then 0 else 1) → Ex true mL_law 78 78 (k + 1) (11 * k + 11) 547 [.ref (100 + 8), .ref 0, .ref 46, .int l3] [.int z126, .ref 0] M Q := by
                                    intro z126 ez126
                                    replace h := h z126 ez126
                                    obtain ⟨m127, hm127, h⟩ := h
                                    refine ex_invV (kc := (k + 1)) (ks := (11 * k + 11)) (k := 0) (ci := 6) (as := [.int z126]) (L2 := [.ref 0, .int z126, .null, .null]) (st := []) 0 0 dL_law_547 lk_L_74 sl_X6_tie (rmK_of rfl) (by decide) rfl ⟨by decide, rfl⟩ rfl (Nat.le_of_ble_eq_true rfl) (Nat.le_of_ble_eq_true rfl) (t_X6_tie m127 hm127 z126 M _ h) (fun v128 M129 h => ?_)
                                    show Ex true mL_law 78 78 (k + 1) (11 * k + 11) 550 [.ref (100 + 8), .ref 0, .ref 46, .int l3] [.int v128] M129 Q
                                    refine ex_aload_n dL_law_550 rfl ?_
                                    refine ex_aload_n dL_law_551 rfl ?_
                                    refine ex_iload_n dL_law_552 rfl ?_
                                    refine ex_iconst (v := 1) dL_law_553 (by decide) ?_
                                    refine ex_iadd dL_law_554 ?_
                                    obtain ⟨b130, h⟩ := h
                                    refine ex_tald (i := 8) dL_law_555 (by decide) b130 ?_
                                    have hJ135 : ∀ z131 : Int32, z131 = (if (M129 (100 + 8) (Int32.toNatClampNeg (l3 + 1))) = 0 then 0 else 1) → Ex true mL_law 78 78 (k + 1) (11 * k + 11) 564 [.ref (100 + 8), .ref 0, .ref 46, .int l3] [.int z131, .ref 46, .int v128] M129 Q := by
                                      intro z131 ez131
                                      replace h := h z131 ez131
                                      refine ex_invV (kc := (k + 1)) (ks := (11 * k + 11)) (k := 46) (ci := 7) (as := [.int z131]) (L2 := [.ref 46, .int z131, .null, .null]) (st := [.int v128]) 0 0 dL_law_564 lk_L_77 sl_X7_tie (rmK_of rfl) (by decide) rfl ⟨by decide, rfl⟩ rfl (Nat.le_of_ble_eq_true rfl) (Nat.le_of_ble_eq_true rfl) (t_X7_tie   z131 M129 _ h) (fun v132 M133 h => ?_)
                                      show Ex true mL_law 78 78 (k + 1) (11 * k + 11) 567 [.ref (100 + 8), .ref 0, .ref 46, .int l3] [.int v132, .int v128] M133 Q
                                      refine ex_icmp_eq (tgt := 845) dL_law_567 (by decide) (fun c_567 => ?_) (fun c_567 => ?_)
                                      · replace h := h.1 c_567
                                        refine ex_iinc (v := l3 + 6) (L2 := [.ref (100 + 8), .ref 0, .ref 46, .int (l3 + 6)]) dL_law_845 rfl rfl (by decide) rfl rfl ?_
                                        obtain ⟨x134, ex134⟩ : ∃ x134 : Int32, x134 = l3 + 6 := ⟨_, rfl⟩
                                        rw [← ex134]
                                        replace h := h x134 ex134
                                        refine ex_goto (tgt := 18) dL_law_848 (by decide) ?_
                                        refine ex_bud 1 11 ?_
                                        exact hB18 x134 M133 h
                                      · replace h := h.2 c_567
                                        refine ex_iconst (v := 0) dL_law_570 (by decide) ?_
                                        exact ex_iret dL_law_571 rfl rfl rfl h
                                    refine ex_if_eq (tgt := 563) dL_law_556 (by decide) (fun c_556 => ?_) (fun c_556 => ?_)
                                    ·
                                      refine ex_iconst (v := 0) dL_law_563 (by decide) ?_
                                      exact hJ135 _ (by rw [if_pos c_556])
                                    ·
                                      refine ex_iconst (v := 1) dL_law_559 (by decide) ?_
                                      refine ex_goto (tgt := 564) dL_law_560 (by decide) ?_
                                      exact hJ135 _ (by rw [if_neg c_556])
                                  refine ex_if_eq (tgt := 546) dL_law_539 (by decide) (fun c_539 => ?_) (fun c_539 => ?_)
                                  ·
                                    refine ex_iconst (v := 0) dL_law_546 (by decide) ?_
                                    exact hJ136 _ (by rw [if_pos c_539])
                                  ·
                                    refine ex_iconst (v := 1) dL_law_542 (by decide) ?_
                                    refine ex_goto (tgt := 547) dL_law_543 (by decide) ?_
                                    exact hJ136 _ (by rw [if_neg c_539])
                                · replace h := h.2
                                  by_cases e_14 : (M (100 + 8) (Int32.toNatClampNeg l3)) &&& 31 = 14
                                  · replace h := h.1 e_14
                                    refine ex_tableIn (tgt := 572) dL_law_33 (by rw [e_14]; decide) (by rw [e_14]; decide) (by rw [e_14]; rfl) (by decide) ?_
                                    refine ex_aload_n dL_law_572 rfl ?_
                                    refine ex_aload_n dL_law_573 rfl ?_
                                    refine ex_iload_n dL_law_574 rfl ?_
                                    refine ex_iconst (v := 1) dL_law_575 (by decide) ?_
                                    refine ex_iadd dL_law_576 ?_
                                    obtain ⟨b137, h⟩ := h
                                    refine ex_tald (i := 8) dL_law_577 (by decide) b137 ?_
                                    refine ex_aload_n dL_law_578 rfl ?_
                                    refine ex_iload_n dL_law_579 rfl ?_
                                    refine ex_iconst (v := 2) dL_law_580 (by decide) ?_
                                    refine ex_iadd dL_law_581 ?_
                                    obtain ⟨b138, h⟩ := h
                                    refine ex_tald (i := 8) dL_law_582 (by decide) b138 ?_
                                    have hJ150 : ∀ z139 : Int32, z139 = (if (M (100 + 8) (Int32.toNatClampNeg (l3 + 2))) = 0 then 0 else 1) → Ex true mL_law 78 78 (k + 1) (11 * k + 11) 591 [.ref (100 + 8), .ref 0, .ref 46, .int l3] [.int z139, .int (M (100 + 8) (Int32.toNatClampNeg (l3 + 1))), .ref 0] M Q := by
                                      intro z139 ez139
                                      replace h := h z139 ez139
                                      obtain ⟨m140, hm140, h⟩ := h
                                      refine ex_invV (kc := (k + 1)) (ks := (11 * k + 11)) (k := 0) (ci := 6) (as := [.int (M (100 + 8) (Int32.toNatClampNeg (l3 + 1))), .int z139]) (L2 := [.ref 0, .int (M (100 + 8) (Int32.toNatClampNeg (l3 + 1))), .int z139, .null]) (st := []) 0 0 dL_law_591 lk_L_78 sl_X6_slur (rmK_of rfl) (by decide) rfl ⟨by decide, rfl⟩ rfl (Nat.le_of_ble_eq_true rfl) (Nat.le_of_ble_eq_true rfl) (t_X6_slur m140 hm140 (M (100 + 8) (Int32.toNatClampNeg (l3 + 1))) z139 M _ h) (fun v141 M142 h => ?_)
                                      show Ex true mL_law 78 78 (k + 1) (11 * k + 11) 594 [.ref (100 + 8), .ref 0, .ref 46, .int l3] [.int v141] M142 Q
                                      refine ex_aload_n dL_law_594 rfl ?_
                                      refine ex_aload_n dL_law_595 rfl ?_
                                      refine ex_iload_n dL_law_596 rfl ?_
                                      refine ex_iconst (v := 1) dL_law_597 (by decide) ?_
                                      refine ex_iadd dL_law_598 ?_
                                      obtain ⟨b143, h⟩ := h
                                      refine ex_tald (i := 8) dL_law_599 (by decide) b143 ?_
                                      refine ex_aload_n dL_law_600 rfl ?_
                                      refine ex_iload_n dL_law_601 rfl ?_
                                      refine ex_iconst (v := 2) dL_law_602 (by decide) ?_
                                      refine ex_iadd dL_law_603 ?_
                                      obtain ⟨b144, h⟩ := h
                                      refine ex_tald (i := 8) dL_law_604 (by decide) b144 ?_
                                      have hJ149 : ∀ z145 : Int32, z145 = (if (M142 (100 + 8) (Int32.toNatClampNeg (l3 + 2))) = 0 then 0 else 1) → Ex true mL_law 78 78 (k + 1) (11 * k + 11) 613 [.ref (100 + 8), .ref 0, .ref 46, .int l3] [.int z145, .int (M142 (100 + 8) (Int32.toNatClampNeg (l3 + 1))), .ref 46, .int v141] M142 Q := by
                                        intro z145 ez145
                                        replace h := h z145 ez145
                                        refine ex_invV (kc := (k + 1)) (ks := (11 * k + 11)) (k := 46) (ci := 7) (as := [.int (M142 (100 + 8) (Int32.toNatClampNeg (l3 + 1))), .int z145]) (L2 := [.ref 46, .int (M142 (100 + 8) (Int32.toNatClampNeg (l3 + 1))), .int z145, .null]) (st := [.int v141]) 0 0 dL_law_613 lk_L_82 sl_X7_slur (rmK_of rfl) (by decide) rfl ⟨by decide, rfl⟩ rfl (Nat.le_of_ble_eq_true rfl) (Nat.le_of_ble_eq_true rfl) (t_X7_slur   (M142 (100 + 8) (Int32.toNatClampNeg (l3 + 1))) z145 M142 _ h) (fun v146 M147 h => ?_)
                                        show Ex true mL_law 78 78 (k + 1) (11 * k + 11) 616 [.ref (100 + 8), .ref 0, .ref 46, .int l3] [.int v146, .int v141] M147 Q
                                        refine ex_icmp_eq (tgt := 845) dL_law_616 (by decide) (fun c_616 => ?_) (fun c_616 => ?_)
                                        · replace h := h.1 c_616
                                          refine ex_iinc (v := l3 + 6) (L2 := [.ref (100 + 8), .ref 0, .ref 46, .int (l3 + 6)]) dL_law_845 rfl rfl (by decide) rfl rfl ?_
                                          obtain ⟨x148, ex148⟩ : ∃ x148 : Int32, x148 = l3 + 6 := ⟨_, rfl⟩
                                          rw [← ex148]
                                          replace h := h x148 ex148
                                          refine ex_goto (tgt := 18) dL_law_848 (by decide) ?_
                                          refine ex_bud 1 11 ?_
                                          exact hB18 x148 M147 h
                                        · replace h := h.2 c_616
                                          refine ex_iconst (v := 0) dL_law_619 (by decide) ?_
                                          exact ex_iret dL_law_620 rfl rfl rfl h
                                      refine ex_if_eq (tgt := 612) dL_law_605 (by decide) (fun c_605 => ?_) (fun c_605 => ?_)
                                      ·
                                        refine ex_iconst (v := 0) dL_law_612 (by decide) ?_
                                        exact hJ149 _ (by rw [if_pos c_605])
                                      ·
                                        refine ex_iconst (v := 1) dL_law_608 (by decide) ?_
                                        refine ex_goto (tgt := 613) dL_law_609 (by decide) ?_
                                        exact hJ149 _ (by rw [if_neg c_605])
                                    refine ex_if_eq (tgt := 590) dL_law_583 (by decide) (fun c_583 => ?_) (fun c_583 => ?_)
                                    ·
                                      refine ex_iconst (v := 0) dL_law_590 (by decide) ?_
                                      exact hJ150 _ (by rw [if_pos c_583])
                                    ·
                                      refine ex_iconst (v := 1) dL_law_586 (by decide) ?_
                                      refine ex_goto (tgt := 591) dL_law_587 (by decide) ?_
                                      exact hJ150 _ (by rw [if_neg c_583])
                                  · replace h := h.2
                                    by_cases e_15 : (M (100 + 8) (Int32.toNatClampNeg l3)) &&& 31 = 15
                                    · replace h := h.1 e_15
                                      refine ex_tableIn (tgt := 621) dL_law_33 (by rw [e_15]; decide) (by rw [e_15]; decide) (by rw [e_15]; rfl) (by decide) ?_
                                      refine ex_aload_n dL_law_621 rfl ?_
                                      refine ex_aload_n dL_law_622 rfl ?_
                                      refine ex_iload_n dL_law_623 rfl ?_
                                      refine ex_iconst (v := 1) dL_law_624 (by decide) ?_
                                      refine ex_iadd dL_law_625 ?_
                                      obtain ⟨b151, h⟩ := h
                                      refine ex_tald (i := 8) dL_law_626 (by decide) b151 ?_
                                      obtain ⟨r152, hr152, h⟩ := h
                                      obtain ⟨r2153, hr2153, h⟩ := h
                                      obtain ⟨m154, hm154, h⟩ := h
                                      refine ex_invV (kc := (k + 1)) (ks := (11 * k + 11)) (k := 0) (ci := 6) (as := [.int (M (100 + 8) (Int32.toNatClampNeg (l3 + 1)))]) (L2 := [.ref 0, .int (M (100 + 8) (Int32.toNatClampNeg (l3 + 1))), .null, .null]) (st := []) 0 0 dL_law_627 lk_L_83 sl_X6_write (rmK_of rfl) (by decide) rfl ⟨by decide, rfl⟩ rfl (Nat.le_of_ble_eq_true rfl) (Nat.le_of_ble_eq_true rfl) (t_X6_write r152 r2153 m154 hr152 hr2153 hm154 (M (100 + 8) (Int32.toNatClampNeg (l3 + 1))) M _ h) (fun v155 M156 h => ?_)
                                      show Ex true mL_law 78 78 (k + 1) (11 * k + 11) 630 [.ref (100 + 8), .ref 0, .ref 46, .int l3] [.int v155] M156 Q
                                      refine ex_aload_n dL_law_630 rfl ?_
                                      refine ex_aload_n dL_law_631 rfl ?_
                                      refine ex_iload_n dL_law_632 rfl ?_
                                      refine ex_iconst (v := 1) dL_law_633 (by decide) ?_
                                      refine ex_iadd dL_law_634 ?_
                                      obtain ⟨b157, h⟩ := h
                                      refine ex_tald (i := 8) dL_law_635 (by decide) b157 ?_
                                      refine ex_invV (kc := (k + 1)) (ks := (11 * k + 11)) (k := 46) (ci := 7) (as := [.int (M156 (100 + 8) (Int32.toNatClampNeg (l3 + 1)))]) (L2 := [.ref 46, .int (M156 (100 + 8) (Int32.toNatClampNeg (l3 + 1))), .null, .null, .null, .null, .null, .null, .null]) (st := [.int v155]) 0 0 dL_law_636 lk_L_86 sl_X7_write (rmK_of rfl) (by decide) rfl ⟨by decide, rfl⟩ rfl (Nat.le_of_ble_eq_true rfl) (Nat.le_of_ble_eq_true rfl) (t_X7_write   (M156 (100 + 8) (Int32.toNatClampNeg (l3 + 1))) M156 _ h) (fun v158 M159 h => ?_)
                                      show Ex true mL_law 78 78 (k + 1) (11 * k + 11) 639 [.ref (100 + 8), .ref 0, .ref 46, .int l3] [.int v158, .int v155] M159 Q
                                      refine ex_icmp_eq (tgt := 845) dL_law_639 (by decide) (fun c_639 => ?_) (fun c_639 => ?_)
                                      · replace h := h.1 c_639
                                        refine ex_iinc (v := l3 + 6) (L2 := [.ref (100 + 8), .ref 0, .ref 46, .int (l3 + 6)]) dL_law_845 rfl rfl (by decide) rfl rfl ?_
                                        obtain ⟨x160, ex160⟩ : ∃ x160 : Int32, x160 = l3 + 6 := ⟨_, rfl⟩
                                        rw [← ex160]
                                        replace h := h x160 ex160
                                        refine ex_goto (tgt := 18) dL_law_848 (by decide) ?_
                                        refine ex_bud 1 11 ?_
                                        exact hB18 x160 M159 h
                                      · replace h := h.2 c_639
                                        refine ex_iconst (v := 0) dL_law_642 (by decide) ?_
                                        exact ex_iret dL_law_643 rfl rfl rfl h
                                    · replace h := h.2
                                      by_cases e_16 : (M (100 + 8) (Int32.toNatClampNeg l3)) &&& 31 = 16
                                      · replace h := h.1 e_16
                                        refine ex_tableIn (tgt := 644) dL_law_33 (by rw [e_16]; decide) (by rw [e_16]; decide) (by rw [e_16]; rfl) (by decide) ?_
                                        refine ex_aload_n dL_law_644 rfl ?_
                                        refine ex_aload_n dL_law_645 rfl ?_
                                        refine ex_iload_n dL_law_646 rfl ?_
                                        refine ex_iconst (v := 1) dL_law_647 (by decide) ?_
                                        refine ex_iadd dL_law_648 ?_
                                        obtain ⟨b161, h⟩ := h
                                        refine ex_tald (i := 8) dL_law_649 (by decide) b161 ?_
                                        refine ex_aload_n dL_law_650 rfl ?_
                                        refine ex_iload_n dL_law_651 rfl ?_
                                        refine ex_iconst (v := 2) dL_law_652 (by decide) ?_
                                        refine ex_iadd dL_law_653 ?_
                                        obtain ⟨b162, h⟩ := h
                                        refine ex_tald (i := 8) dL_law_654 (by decide) b162 ?_
                                        refine ex_invV (kc := (k + 1)) (ks := (11 * k + 11)) (k := 0) (ci := 6) (as := [.int (M (100 + 8) (Int32.toNatClampNeg (l3 + 1))), .int (M (100 + 8) (Int32.toNatClampNeg (l3 + 2)))]) (L2 := [.ref 0, .int (M (100 + 8) (Int32.toNatClampNeg (l3 + 1))), .int (M (100 + 8) (Int32.toNatClampNeg (l3 + 2)))]) (st := []) 0 0 dL_law_655 lk_L_87 sl_X6_wants (rmK_of rfl) (by decide) rfl ⟨by decide, rfl⟩ rfl (Nat.le_of_ble_eq_true rfl) (Nat.le_of_ble_eq_true rfl) (t_X6_wants   (M (100 + 8) (Int32.toNatClampNeg (l3 + 1))) (M (100 + 8) (Int32.toNatClampNeg (l3 + 2))) M _ h) (fun v163 M164 h => ?_)
                                        show Ex true mL_law 78 78 (k + 1) (11 * k + 11) 658 [.ref (100 + 8), .ref 0, .ref 46, .int l3] [.int v163] M164 Q
                                        refine ex_aload_n dL_law_658 rfl ?_
                                        refine ex_aload_n dL_law_659 rfl ?_
                                        refine ex_iload_n dL_law_660 rfl ?_
                                        refine ex_iconst (v := 1) dL_law_661 (by decide) ?_
                                        refine ex_iadd dL_law_662 ?_
                                        obtain ⟨b165, h⟩ := h
                                        refine ex_tald (i := 8) dL_law_663 (by decide) b165 ?_
                                        refine ex_aload_n dL_law_664 rfl ?_
                                        refine ex_iload_n dL_law_665 rfl ?_
                                        refine ex_iconst (v := 2) dL_law_666 (by decide) ?_
                                        refine ex_iadd dL_law_667 ?_
                                        obtain ⟨b166, h⟩ := h
                                        refine ex_tald (i := 8) dL_law_668 (by decide) b166 ?_
                                        refine ex_invV (kc := (k + 1)) (ks := (11 * k + 11)) (k := 46) (ci := 7) (as := [.int (M164 (100 + 8) (Int32.toNatClampNeg (l3 + 1))), .int (M164 (100 + 8) (Int32.toNatClampNeg (l3 + 2)))]) (L2 := [.ref 46, .int (M164 (100 + 8) (Int32.toNatClampNeg (l3 + 1))), .int (M164 (100 + 8) (Int32.toNatClampNeg (l3 + 2)))]) (st := [.int v163]) 0 0 dL_law_669 lk_L_90 sl_X7_wants (rmK_of rfl) (by decide) rfl ⟨by decide, rfl⟩ rfl (Nat.le_of_ble_eq_true rfl) (Nat.le_of_ble_eq_true rfl) (t_X7_wants   (M164 (100 + 8) (Int32.toNatClampNeg (l3 + 1))) (M164 (100 + 8) (Int32.toNatClampNeg (l3 + 2))) M164 _ h) (fun v167 M168 h => ?_)
                                        show Ex true mL_law 78 78 (k + 1) (11 * k + 11) 672 [.ref (100 + 8), .ref 0, .ref 46, .int l3] [.int v167, .int v163] M168 Q
                                        refine ex_icmp_eq (tgt := 845) dL_law_672 (by decide) (fun c_672 => ?_) (fun c_672 => ?_)
                                        · replace h := h.1 c_672
                                          refine ex_iinc (v := l3 + 6) (L2 := [.ref (100 + 8), .ref 0, .ref 46, .int (l3 + 6)]) dL_law_845 rfl rfl (by decide) rfl rfl ?_
                                          obtain ⟨x169, ex169⟩ : ∃ x169 : Int32, x169 = l3 + 6 := ⟨_, rfl⟩
                                          rw [← ex169]
                                          replace h := h x169 ex169
                                          refine ex_goto (tgt := 18) dL_law_848 (by decide) ?_
                                          refine ex_bud 1 11 ?_
                                          exact hB18 x169 M168 h
                                        · replace h := h.2 c_672
                                          refine ex_iconst (v := 0) dL_law_675 (by decide) ?_
                                          exact ex_iret dL_law_676 rfl rfl rfl h
                                      · replace h := h.2
                                        by_cases e_17 : (M (100 + 8) (Int32.toNatClampNeg l3)) &&& 31 = 17
                                        · replace h := h.1 e_17
                                          refine ex_tableIn (tgt := 677) dL_law_33 (by rw [e_17]; decide) (by rw [e_17]; decide) (by rw [e_17]; rfl) (by decide) ?_
                                          refine ex_aload_n dL_law_677 rfl ?_
                                          refine ex_aload_n dL_law_678 rfl ?_
                                          refine ex_iload_n dL_law_679 rfl ?_
                                          refine ex_iconst (v := 1) dL_law_680 (by decide) ?_
                                          refine ex_iadd dL_law_681 ?_
                                          obtain ⟨b170, h⟩ := h
                                          refine ex_tald (i := 8) dL_law_682 (by decide) b170 ?_
                                          refine ex_aload_n dL_law_683 rfl ?_
                                          refine ex_iload_n dL_law_684 rfl ?_
                                          refine ex_iconst (v := 2) dL_law_685 (by decide) ?_
                                          refine ex_iadd dL_law_686 ?_
                                          obtain ⟨b171, h⟩ := h
                                          refine ex_tald (i := 8) dL_law_687 (by decide) b171 ?_
                                          obtain ⟨m172, hm172, h⟩ := h
                                          refine ex_invV (kc := (k + 1)) (ks := (11 * k + 11)) (k := 0) (ci := 6) (as := [.int (M (100 + 8) (Int32.toNatClampNeg (l3 + 1))), .int (M (100 + 8) (Int32.toNatClampNeg (l3 + 2)))]) (L2 := [.ref 0, .int (M (100 + 8) (Int32.toNatClampNeg (l3 + 1))), .int (M (100 + 8) (Int32.toNatClampNeg (l3 + 2))), .null]) (st := []) 0 0 dL_law_688 lk_L_91 sl_X6_ways (rmK_of rfl) (by decide) rfl ⟨by decide, rfl⟩ rfl (Nat.le_of_ble_eq_true rfl) (Nat.le_of_ble_eq_true rfl) (t_X6_ways m172 hm172 (M (100 + 8) (Int32.toNatClampNeg (l3 + 1))) (M (100 + 8) (Int32.toNatClampNeg (l3 + 2))) M _ h) (fun v173 M174 h => ?_)
                                          show Ex true mL_law 78 78 (k + 1) (11 * k + 11) 691 [.ref (100 + 8), .ref 0, .ref 46, .int l3] [.int v173] M174 Q
                                          refine ex_aload_n dL_law_691 rfl ?_
                                          refine ex_aload_n dL_law_692 rfl ?_
                                          refine ex_iload_n dL_law_693 rfl ?_
                                          refine ex_iconst (v := 1) dL_law_694 (by decide) ?_
                                          refine ex_iadd dL_law_695 ?_
                                          obtain ⟨b175, h⟩ := h
                                          refine ex_tald (i := 8) dL_law_696 (by decide) b175 ?_
                                          refine ex_aload_n dL_law_697 rfl ?_
                                          refine ex_iload_n dL_law_698 rfl ?_
                                          refine ex_iconst (v := 2) dL_law_699 (by decide) ?_
                                          refine ex_iadd dL_law_700 ?_
                                          obtain ⟨b176, h⟩ := h
                                          refine ex_tald (i := 8) dL_law_701 (by decide) b176 ?_
                                          refine ex_invV (kc := (k + 1)) (ks := (11 * k + 11)) (k := 46) (ci := 7) (as := [.int (M174 (100 + 8) (Int32.toNatClampNeg (l3 + 1))), .int (M174 (100 + 8) (Int32.toNatClampNeg (l3 + 2)))]) (L2 := [.ref 46, .int (M174 (100 + 8) (Int32.toNatClampNeg (l3 + 1))), .int (M174 (100 + 8) (Int32.toNatClampNeg (l3 + 2))), .null, .null, .null, .null, .null, .null, .null]) (st := [.int v173]) 0 0 dL_law_702 lk_L_94 sl_X7_ways (rmK_of rfl) (by decide) rfl ⟨by decide, rfl⟩ rfl (Nat.le_of_ble_eq_true rfl) (Nat.le_of_ble_eq_true rfl) (t_X7_ways   (M174 (100 + 8) (Int32.toNatClampNeg (l3 + 1))) (M174 (100 + 8) (Int32.toNatClampNeg (l3 + 2))) M174 _ h) (fun v177 M178 h => ?_)
                                          show Ex true mL_law 78 78 (k + 1) (11 * k + 11) 705 [.ref (100 + 8), .ref 0, .ref 46, .int l3] [.int v177, .int v173] M178 Q
                                          refine ex_icmp_eq (tgt := 845) dL_law_705 (by decide) (fun c_705 => ?_) (fun c_705 => ?_)
                                          · replace h := h.1 c_705
                                            refine ex_iinc (v := l3 + 6) (L2 := [.ref (100 + 8), .ref 0, .ref 46, .int (l3 + 6)]) dL_law_845 rfl rfl (by decide) rfl rfl ?_
                                            obtain ⟨x179, ex179⟩ : ∃ x179 : Int32, x179 = l3 + 6 := ⟨_, rfl⟩
                                            rw [← ex179]
                                            replace h := h x179 ex179
                                            refine ex_goto (tgt := 18) dL_law_848 (by decide) ?_
                                            refine ex_bud 1 11 ?_
                                            exact hB18 x179 M178 h
                                          · replace h := h.2 c_705
                                            refine ex_iconst (v := 0) dL_law_708 (by decide) ?_
                                            exact ex_iret dL_law_709 rfl rfl rfl h
                                        · replace h := h.2
                                          by_cases e_18 : (M (100 + 8) (Int32.toNatClampNeg l3)) &&& 31 = 18
                                          · replace h := h.1 e_18
                                            refine ex_tableIn (tgt := 710) dL_law_33 (by rw [e_18]; decide) (by rw [e_18]; decide) (by rw [e_18]; rfl) (by decide) ?_
                                            refine ex_aload_n dL_law_710 rfl ?_
                                            refine ex_aload_n dL_law_711 rfl ?_
                                            refine ex_iload_n dL_law_712 rfl ?_
                                            refine ex_iconst (v := 1) dL_law_713 (by decide) ?_
                                            refine ex_iadd dL_law_714 ?_
                                            obtain ⟨b180, h⟩ := h
                                            refine ex_tald (i := 8) dL_law_715 (by decide) b180 ?_
                                            refine ex_aload_n dL_law_716 rfl ?_
                                            refine ex_iload_n dL_law_717 rfl ?_
                                            refine ex_iconst (v := 2) dL_law_718 (by decide) ?_
                                            refine ex_iadd dL_law_719 ?_
                                            obtain ⟨b181, h⟩ := h
                                            refine ex_tald (i := 8) dL_law_720 (by decide) b181 ?_
                                            obtain ⟨m182, hm182, h⟩ := h
                                            refine ex_invV (kc := (k + 1)) (ks := (11 * k + 11)) (k := 0) (ci := 6) (as := [.int (M (100 + 8) (Int32.toNatClampNeg (l3 + 1))), .int (M (100 + 8) (Int32.toNatClampNeg (l3 + 2)))]) (L2 := [.ref 0, .int (M (100 + 8) (Int32.toNatClampNeg (l3 + 1))), .int (M (100 + 8) (Int32.toNatClampNeg (l3 + 2))), .null]) (st := []) 0 0 dL_law_721 lk_L_95 sl_X6_signed (rmK_of rfl) (by decide) rfl ⟨by decide, rfl⟩ rfl (Nat.le_of_ble_eq_true rfl) (Nat.le_of_ble_eq_true rfl) (t_X6_signed m182 hm182 (M (100 + 8) (Int32.toNatClampNeg (l3 + 1))) (M (100 + 8) (Int32.toNatClampNeg (l3 + 2))) M _ h) (fun v183 M184 h => ?_)
                                            show Ex true mL_law 78 78 (k + 1) (11 * k + 11) 724 [.ref (100 + 8), .ref 0, .ref 46, .int l3] [.int v183] M184 Q
                                            refine ex_aload_n dL_law_724 rfl ?_
                                            refine ex_aload_n dL_law_725 rfl ?_
                                            refine ex_iload_n dL_law_726 rfl ?_
                                            refine ex_iconst (v := 1) dL_law_727 (by decide) ?_
                                            refine ex_iadd dL_law_728 ?_
                                            obtain ⟨b185, h⟩ := h
                                            refine ex_tald (i := 8) dL_law_729 (by decide) b185 ?_
                                            refine ex_aload_n dL_law_730 rfl ?_
                                            refine ex_iload_n dL_law_731 rfl ?_
                                            refine ex_iconst (v := 2) dL_law_732 (by decide) ?_
                                            refine ex_iadd dL_law_733 ?_
                                            obtain ⟨b186, h⟩ := h
                                            refine ex_tald (i := 8) dL_law_734 (by decide) b186 ?_
                                            refine ex_invV (kc := (k + 1)) (ks := (11 * k + 11)) (k := 46) (ci := 7) (as := [.int (M184 (100 + 8) (Int32.toNatClampNeg (l3 + 1))), .int (M184 (100 + 8) (Int32.toNatClampNeg (l3 + 2)))]) (L2 := [.ref 46, .int (M184 (100 + 8) (Int32.toNatClampNeg (l3 + 1))), .int (M184 (100 + 8) (Int32.toNatClampNeg (l3 + 2)))]) (st := [.int v183]) 0 0 dL_law_735 lk_L_98 sl_X7_signed (rmK_of rfl) (by decide) rfl ⟨by decide, rfl⟩ rfl (Nat.le_of_ble_eq_true rfl) (Nat.le_of_ble_eq_true rfl) (t_X7_signed   (M184 (100 + 8) (Int32.toNatClampNeg (l3 + 1))) (M184 (100 + 8) (Int32.toNatClampNeg (l3 + 2))) M184 _ h) (fun v187 M188 h => ?_)
                                            show Ex true mL_law 78 78 (k + 1) (11 * k + 11) 738 [.ref (100 + 8), .ref 0, .ref 46, .int l3] [.int v187, .int v183] M188 Q
                                            refine ex_icmp_eq (tgt := 845) dL_law_738 (by decide) (fun c_738 => ?_) (fun c_738 => ?_)
                                            · replace h := h.1 c_738
                                              refine ex_iinc (v := l3 + 6) (L2 := [.ref (100 + 8), .ref 0, .ref 46, .int (l3 + 6)]) dL_law_845 rfl rfl (by decide) rfl rfl ?_
                                              obtain ⟨x189, ex189⟩ : ∃ x189 : Int32, x189 = l3 + 6 := ⟨_, rfl⟩
                                              rw [← ex189]
                                              replace h := h x189 ex189
                                              refine ex_goto (tgt := 18) dL_law_848 (by decide) ?_
                                              refine ex_bud 1 11 ?_
                                              exact hB18 x189 M188 h
                                            · replace h := h.2 c_738
                                              refine ex_iconst (v := 0) dL_law_741 (by decide) ?_
                                              exact ex_iret dL_law_742 rfl rfl rfl h
                                          · replace h := h.2
                                            by_cases e_19 : (M (100 + 8) (Int32.toNatClampNeg l3)) &&& 31 = 19
                                            · replace h := h.1 e_19
                                              refine ex_tableIn (tgt := 743) dL_law_33 (by rw [e_19]; decide) (by rw [e_19]; decide) (by rw [e_19]; rfl) (by decide) ?_
                                              refine ex_aload_n dL_law_743 rfl ?_
                                              refine ex_aload_n dL_law_744 rfl ?_
                                              refine ex_iload_n dL_law_745 rfl ?_
                                              refine ex_iconst (v := 1) dL_law_746 (by decide) ?_
                                              refine ex_iadd dL_law_747 ?_
                                              obtain ⟨b190, h⟩ := h
                                              refine ex_tald (i := 8) dL_law_748 (by decide) b190 ?_
                                              refine ex_aload_n dL_law_749 rfl ?_
                                              refine ex_iload_n dL_law_750 rfl ?_
                                              refine ex_iconst (v := 2) dL_law_751 (by decide) ?_
                                              refine ex_iadd dL_law_752 ?_
                                              obtain ⟨b191, h⟩ := h
                                              refine ex_tald (i := 8) dL_law_753 (by decide) b191 ?_
                                              obtain ⟨m192, hm192, h⟩ := h
                                              refine ex_invV (kc := (k + 1)) (ks := (11 * k + 11)) (k := 0) (ci := 6) (as := [.int (M (100 + 8) (Int32.toNatClampNeg (l3 + 1))), .int (M (100 + 8) (Int32.toNatClampNeg (l3 + 2)))]) (L2 := [.ref 0, .int (M (100 + 8) (Int32.toNatClampNeg (l3 + 1))), .int (M (100 + 8) (Int32.toNatClampNeg (l3 + 2)))]) (st := []) 0 0 dL_law_754 lk_L_99 sl_X6_barOf (rmK_of rfl) (by decide) rfl ⟨by decide, rfl⟩ rfl (Nat.le_of_ble_eq_true rfl) (Nat.le_of_ble_eq_true rfl) (t_X6_barOf m192 hm192 (M (100 + 8) (Int32.toNatClampNeg (l3 + 1))) (M (100 + 8) (Int32.toNatClampNeg (l3 + 2))) M _ h) (fun v193 M194 h => ?_)
                                              show Ex true mL_law 78 78 (k + 1) (11 * k + 11) 757 [.ref (100 + 8), .ref 0, .ref 46, .int l3] [.int v193] M194 Q
                                              refine ex_aload_n dL_law_757 rfl ?_
                                              refine ex_aload_n dL_law_758 rfl ?_
                                              refine ex_iload_n dL_law_759 rfl ?_
                                              refine ex_iconst (v := 1) dL_law_760 (by decide) ?_
                                              refine ex_iadd dL_law_761 ?_
                                              obtain ⟨b195, h⟩ := h
                                              refine ex_tald (i := 8) dL_law_762 (by decide) b195 ?_
                                              refine ex_aload_n dL_law_763 rfl ?_
                                              refine ex_iload_n dL_law_764 rfl ?_
                                              refine ex_iconst (v := 2) dL_law_765 (by decide) ?_
                                              refine ex_iadd dL_law_766 ?_
                                              obtain ⟨b196, h⟩ := h
                                              refine ex_tald (i := 8) dL_law_767 (by decide) b196 ?_
                                              refine ex_invV (kc := (k + 1)) (ks := (11 * k + 11)) (k := 46) (ci := 7) (as := [.int (M194 (100 + 8) (Int32.toNatClampNeg (l3 + 1))), .int (M194 (100 + 8) (Int32.toNatClampNeg (l3 + 2)))]) (L2 := [.ref 46, .int (M194 (100 + 8) (Int32.toNatClampNeg (l3 + 1))), .int (M194 (100 + 8) (Int32.toNatClampNeg (l3 + 2))), .null, .null, .null]) (st := [.int v193]) 0 0 dL_law_768 lk_L_102 sl_X7_barOf (rmK_of rfl) (by decide) rfl ⟨by decide, rfl⟩ rfl (Nat.le_of_ble_eq_true rfl) (Nat.le_of_ble_eq_true rfl) (t_X7_barOf   (M194 (100 + 8) (Int32.toNatClampNeg (l3 + 1))) (M194 (100 + 8) (Int32.toNatClampNeg (l3 + 2))) M194 _ h) (fun v197 M198 h => ?_)
                                              show Ex true mL_law 78 78 (k + 1) (11 * k + 11) 771 [.ref (100 + 8), .ref 0, .ref 46, .int l3] [.int v197, .int v193] M198 Q
                                              refine ex_icmp_eq (tgt := 845) dL_law_771 (by decide) (fun c_771 => ?_) (fun c_771 => ?_)
                                              · replace h := h.1 c_771
                                                refine ex_iinc (v := l3 + 6) (L2 := [.ref (100 + 8), .ref 0, .ref 46, .int (l3 + 6)]) dL_law_845 rfl rfl (by decide) rfl rfl ?_
                                                obtain ⟨x199, ex199⟩ : ∃ x199 : Int32, x199 = l3 + 6 := ⟨_, rfl⟩
                                                rw [← ex199]
                                                replace h := h x199 ex199
                                                refine ex_goto (tgt := 18) dL_law_848 (by decide) ?_
                                                refine ex_bud 1 11 ?_
                                                exact hB18 x199 M198 h
                                              · replace h := h.2 c_771
                                                refine ex_iconst (v := 0) dL_law_774 (by decide) ?_
                                                exact ex_iret dL_law_775 rfl rfl rfl h
                                            · replace h := h.2
                                              by_cases e_20 : (M (100 + 8) (Int32.toNatClampNeg l3)) &&& 31 = 20
                                              · replace h := h.1 e_20
                                                refine ex_tableIn (tgt := 776) dL_law_33 (by rw [e_20]; decide) (by rw [e_20]; decide) (by rw [e_20]; rfl) (by decide) ?_
                                                refine ex_aload_n dL_law_776 rfl ?_
                                                refine ex_aload_n dL_law_777 rfl ?_
                                                refine ex_iload_n dL_law_778 rfl ?_
                                                refine ex_iconst (v := 1) dL_law_779 (by decide) ?_
                                                refine ex_iadd dL_law_780 ?_
                                                obtain ⟨b200, h⟩ := h
                                                refine ex_tald (i := 8) dL_law_781 (by decide) b200 ?_
                                                refine ex_aload_n dL_law_782 rfl ?_
                                                refine ex_iload_n dL_law_783 rfl ?_
                                                refine ex_iconst (v := 2) dL_law_784 (by decide) ?_
                                                refine ex_iadd dL_law_785 ?_
                                                obtain ⟨b201, h⟩ := h
                                                refine ex_tald (i := 8) dL_law_786 (by decide) b201 ?_
                                                obtain ⟨m202, hm202, h⟩ := h
                                                refine ex_invV (kc := (k + 1)) (ks := (11 * k + 11)) (k := 0) (ci := 6) (as := [.int (M (100 + 8) (Int32.toNatClampNeg (l3 + 1))), .int (M (100 + 8) (Int32.toNatClampNeg (l3 + 2)))]) (L2 := [.ref 0, .int (M (100 + 8) (Int32.toNatClampNeg (l3 + 1))), .int (M (100 + 8) (Int32.toNatClampNeg (l3 + 2)))]) (st := []) 0 0 dL_law_787 lk_L_103 sl_X6_item (rmK_of rfl) (by decide) rfl ⟨by decide, rfl⟩ rfl (Nat.le_of_ble_eq_true rfl) (Nat.le_of_ble_eq_true rfl) (t_X6_item m202 hm202 (M (100 + 8) (Int32.toNatClampNeg (l3 + 1))) (M (100 + 8) (Int32.toNatClampNeg (l3 + 2))) M _ h) (fun v203 M204 h => ?_)
                                                show Ex true mL_law 78 78 (k + 1) (11 * k + 11) 790 [.ref (100 + 8), .ref 0, .ref 46, .int l3] [.int v203] M204 Q
                                                refine ex_aload_n dL_law_790 rfl ?_
                                                refine ex_aload_n dL_law_791 rfl ?_
                                                refine ex_iload_n dL_law_792 rfl ?_
                                                refine ex_iconst (v := 1) dL_law_793 (by decide) ?_
                                                refine ex_iadd dL_law_794 ?_
                                                obtain ⟨b205, h⟩ := h
                                                refine ex_tald (i := 8) dL_law_795 (by decide) b205 ?_
                                                refine ex_aload_n dL_law_796 rfl ?_
                                                refine ex_iload_n dL_law_797 rfl ?_
                                                refine ex_iconst (v := 2) dL_law_798 (by decide) ?_
                                                refine ex_iadd dL_law_799 ?_
                                                obtain ⟨b206, h⟩ := h
                                                refine ex_tald (i := 8) dL_law_800 (by decide) b206 ?_
                                                refine ex_invV (kc := k) (ks := 11 * k) (k := 46) (ci := 7) (as := [.int (M204 (100 + 8) (Int32.toNatClampNeg (l3 + 1))), .int (M204 (100 + 8) (Int32.toNatClampNeg (l3 + 2)))]) (L2 := [.ref 46, .int (M204 (100 + 8) (Int32.toNatClampNeg (l3 + 1))), .int (M204 (100 + 8) (Int32.toNatClampNeg (l3 + 2))), .null]) (st := [.int v203]) 1 11 dL_law_801 lk_L_106 sl_X7_item (rmK_of rfl) (by decide) rfl ⟨by decide, rfl⟩ rfl (Nat.le_of_ble_eq_true rfl) (Nat.le_of_ble_eq_true rfl) (t_X7_item   (M204 (100 + 8) (Int32.toNatClampNeg (l3 + 1))) (M204 (100 + 8) (Int32.toNatClampNeg (l3 + 2))) M204 _ h) (fun v207 M208 h => ?_)
                                                show Ex true mL_law 78 78 k (11 * k) 804 [.ref (100 + 8), .ref 0, .ref 46, .int l3] [.int v207, .int v203] M208 Q
                                                refine ex_icmp_eq (tgt := 845) dL_law_804 (by decide) (fun c_804 => ?_) (fun c_804 => ?_)
                                                · replace h := h.1 c_804
                                                  refine ex_iinc (v := l3 + 6) (L2 := [.ref (100 + 8), .ref 0, .ref 46, .int (l3 + 6)]) dL_law_845 rfl rfl (by decide) rfl rfl ?_
                                                  obtain ⟨x209, ex209⟩ : ∃ x209 : Int32, x209 = l3 + 6 := ⟨_, rfl⟩
                                                  rw [← ex209]
                                                  replace h := h x209 ex209
                                                  refine ex_goto (tgt := 18) dL_law_848 (by decide) ?_
                                                  exact hB18 x209 M208 h
                                                · replace h := h.2 c_804
                                                  refine ex_iconst (v := 0) dL_law_807 (by decide) ?_
                                                  exact ex_iret dL_law_808 rfl rfl rfl h
                                              · replace h := h.2
                                                by_cases e_21 : (M (100 + 8) (Int32.toNatClampNeg l3)) &&& 31 = 21
                                                · replace h := h.1 e_21
                                                  refine ex_tableIn (tgt := 809) dL_law_33 (by rw [e_21]; decide) (by rw [e_21]; decide) (by rw [e_21]; rfl) (by decide) ?_
                                                  refine ex_aload_n dL_law_809 rfl ?_
                                                  obtain ⟨m210, hm210, h⟩ := h
                                                  refine ex_invV (kc := (k + 1)) (ks := (11 * k + 11)) (k := 0) (ci := 6) (as := []) (L2 := [.ref 0, .null, .null, .null]) (st := []) 0 0 dL_law_810 lk_L_107 sl_X6_loose (rmK_of rfl) (by decide) rfl ⟨by decide, rfl⟩ rfl (Nat.le_of_ble_eq_true rfl) (Nat.le_of_ble_eq_true rfl) (t_X6_loose m210 hm210 M _ h) (fun v211 M212 h => ?_)
                                                  show Ex true mL_law 78 78 (k + 1) (11 * k + 11) 813 [.ref (100 + 8), .ref 0, .ref 46, .int l3] [.int v211] M212 Q
                                                  refine ex_aload_n dL_law_813 rfl ?_
                                                  refine ex_invV (kc := (k + 1)) (ks := (11 * k + 11)) (k := 46) (ci := 7) (as := []) (L2 := [.ref 46, .null, .null]) (st := [.int v211]) 0 0 dL_law_814 lk_L_110 sl_X7_loose (rmK_of rfl) (by decide) rfl ⟨by decide, rfl⟩ rfl (Nat.le_of_ble_eq_true rfl) (Nat.le_of_ble_eq_true rfl) (t_X7_loose   M212 _ h) (fun v213 M214 h => ?_)
                                                  show Ex true mL_law 78 78 (k + 1) (11 * k + 11) 817 [.ref (100 + 8), .ref 0, .ref 46, .int l3] [.int v213, .int v211] M214 Q
                                                  refine ex_icmp_eq (tgt := 845) dL_law_817 (by decide) (fun c_817 => ?_) (fun c_817 => ?_)
                                                  · replace h := h.1 c_817
                                                    refine ex_iinc (v := l3 + 6) (L2 := [.ref (100 + 8), .ref 0, .ref 46, .int (l3 + 6)]) dL_law_845 rfl rfl (by decide) rfl rfl ?_
                                                    obtain ⟨x215, ex215⟩ : ∃ x215 : Int32, x215 = l3 + 6 := ⟨_, rfl⟩
                                                    rw [← ex215]
                                                    replace h := h x215 ex215
                                                    refine ex_goto (tgt := 18) dL_law_848 (by decide) ?_
                                                    refine ex_bud 1 11 ?_
                                                    exact hB18 x215 M214 h
                                                  · replace h := h.2 c_817
                                                    refine ex_iconst (v := 0) dL_law_820 (by decide) ?_
                                                    exact ex_iret dL_law_821 rfl rfl rfl h
                                                · replace h := h.2
                                                  by_cases e_22 : (M (100 + 8) (Int32.toNatClampNeg l3)) &&& 31 = 22
                                                  · replace h := h.1 e_22
                                                    refine ex_tableIn (tgt := 822) dL_law_33 (by rw [e_22]; decide) (by rw [e_22]; decide) (by rw [e_22]; rfl) (by decide) ?_
                                                    refine ex_aload_n dL_law_822 rfl ?_
                                                    refine ex_aload_n dL_law_823 rfl ?_
                                                    refine ex_iload_n dL_law_824 rfl ?_
                                                    refine ex_iconst (v := 1) dL_law_825 (by decide) ?_
                                                    refine ex_iadd dL_law_826 ?_
                                                    obtain ⟨b216, h⟩ := h
                                                    refine ex_tald (i := 8) dL_law_827 (by decide) b216 ?_
                                                    obtain ⟨r217, hr217, h⟩ := h
                                                    obtain ⟨m218, hm218, h⟩ := h
                                                    refine ex_invV (kc := (k + 1)) (ks := (11 * k + 11)) (k := 0) (ci := 6) (as := [.int (M (100 + 8) (Int32.toNatClampNeg (l3 + 1)))]) (L2 := [.ref 0, .int (M (100 + 8) (Int32.toNatClampNeg (l3 + 1)))]) (st := []) 0 0 dL_law_828 lk_L_111 sl_X6_told (rmK_of rfl) (by decide) rfl ⟨by decide, rfl⟩ rfl (Nat.le_of_ble_eq_true rfl) (Nat.le_of_ble_eq_true rfl) (t_X6_told r217 m218 hr217 hm218 (M (100 + 8) (Int32.toNatClampNeg (l3 + 1))) M _ h) (fun v219 M220 h => ?_)
                                                    show Ex true mL_law 78 78 (k + 1) (11 * k + 11) 831 [.ref (100 + 8), .ref 0, .ref 46, .int l3] [.int v219] M220 Q
                                                    refine ex_aload_n dL_law_831 rfl ?_
                                                    refine ex_aload_n dL_law_832 rfl ?_
                                                    refine ex_iload_n dL_law_833 rfl ?_
                                                    refine ex_iconst (v := 1) dL_law_834 (by decide) ?_
                                                    refine ex_iadd dL_law_835 ?_
                                                    obtain ⟨b221, h⟩ := h
                                                    refine ex_tald (i := 8) dL_law_836 (by decide) b221 ?_
                                                    refine ex_invV (kc := (k + 1)) (ks := (11 * k + 11)) (k := 46) (ci := 7) (as := [.int (M220 (100 + 8) (Int32.toNatClampNeg (l3 + 1)))]) (L2 := [.ref 46, .int (M220 (100 + 8) (Int32.toNatClampNeg (l3 + 1))), .null, .null]) (st := [.int v219]) 0 0 dL_law_837 lk_L_114 sl_X7_told (rmK_of rfl) (by decide) rfl ⟨by decide, rfl⟩ rfl (Nat.le_of_ble_eq_true rfl) (Nat.le_of_ble_eq_true rfl) (t_X7_told   (M220 (100 + 8) (Int32.toNatClampNeg (l3 + 1))) M220 _ h) (fun v222 M223 h => ?_)
                                                    show Ex true mL_law 78 78 (k + 1) (11 * k + 11) 840 [.ref (100 + 8), .ref 0, .ref 46, .int l3] [.int v222, .int v219] M223 Q
                                                    refine ex_icmp_eq (tgt := 845) dL_law_840 (by decide) (fun c_840 => ?_) (fun c_840 => ?_)
                                                    · replace h := h.1 c_840
                                                      refine ex_iinc (v := l3 + 6) (L2 := [.ref (100 + 8), .ref 0, .ref 46, .int (l3 + 6)]) dL_law_845 rfl rfl (by decide) rfl rfl ?_
                                                      obtain ⟨x224, ex224⟩ : ∃ x224 : Int32, x224 = l3 + 6 := ⟨_, rfl⟩
                                                      rw [← ex224]
                                                      replace h := h x224 ex224
                                                      refine ex_goto (tgt := 18) dL_law_848 (by decide) ?_
                                                      refine ex_bud 1 11 ?_
                                                      exact hB18 x224 M223 h
                                                    · replace h := h.2 c_840
                                                      refine ex_iconst (v := 0) dL_law_843 (by decide) ?_
                                                      exact ex_iret dL_law_844 rfl rfl rfl h
                                                  · replace h := h.2
                                                    replace h := h e_0 e_1 e_2 e_3 e_4 e_5 e_6 e_7 e_8 e_9 e_10 e_11 e_12 e_13 e_14 e_15 e_16 e_17 e_18 e_19 e_20 e_21 e_22
                                                    refine ex_tableOut (tgt := 845) dL_law_33 (sw_out23 e_0 e_1 e_2 e_3 e_4 e_5 e_6 e_7 e_8 e_9 e_10 e_11 e_12 e_13 e_14 e_15 e_16 e_17 e_18 e_19 e_20 e_21 e_22) (by decide) ?_
                                                    refine ex_iinc (v := l3 + 6) (L2 := [.ref (100 + 8), .ref 0, .ref 46, .int (l3 + 6)]) dL_law_845 rfl rfl (by decide) rfl rfl ?_
                                                    obtain ⟨x225, ex225⟩ : ∃ x225 : Int32, x225 = l3 + 6 := ⟨_, rfl⟩
                                                    rw [← ex225]
                                                    replace h := h x225 ex225
                                                    refine ex_goto (tgt := 18) dL_law_848 (by decide) ?_
                                                    refine ex_bud 1 11 ?_
                                                    exact hB18 x225 M h
