section Rest
variable {M : Mem} {S : Mus} {c r m : Nat} {row : Nat → Int} {K : Int32 → Int32 → Mem → Prop} {R : Int32 → Mem → Prop}
theorem op_more (h : ST M S c row r m) (p : Int64) (hR : ∀ v M1, fz M M1 → w_X7_more p M1 (K v) → R v M1) (hK : ∀ v M2, INV M2 → ke M M2 → K v v M2) : w_X6_more r p M R := sorry
theorem op_read (h : ST M S c row r m) (hR : ∀ v M1, fz M M1 → w_X7_read M1 (K v) → R v M1) (hK : ∀ v M2, INV M2 → ke M M2 → K v v M2) : w_X6_read r m (25 - m) M R := sorry
theorem op_write (h : ST M S c row r m) (p : Int32) (hR : ∀ v M1, fz M M1 → w_X7_write p M1 (K v) → R v M1) (hK : ∀ v M2, INV M2 → ke M M2 → K v v M2) : w_X6_write r (4 - r) m p M R := sorry
theorem op_ways (h : ST M S c row r m) (p1 p2 : Int32) (hR : ∀ v M1, fz M M1 → w_X7_ways p1 p2 M1 (K v) → R v M1) (hK : ∀ v M2, INV M2 → ke M M2 → K v v M2) : w_X6_ways m p1 p2 M R := sorry
theorem op_signed (h : ST M S c row r m) (p1 p2 : Int32) (hR : ∀ v M1, fz M M1 → w_X7_signed p1 p2 M1 (K v) → R v M1) (hK : ∀ v M2, INV M2 → ke M M2 → K v v M2) : w_X6_signed m p1 p2 M R := sorry
end Rest
