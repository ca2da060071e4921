/-! ints as Int: zI is a ring map; comparisons where the numbers are small -/
def zI (z : Int) : Int32 := Int32.ofInt z
def sm (z : Int) : Prop := -2147483648 ≤ z ∧ z < 2147483648
theorem zI_toInt {a : Int} (h1 : -2147483648 ≤ a) (h2 : a < 2147483648) : (zI a).toInt = a := Int32.toInt_ofInt_of_le h1 h2
theorem zI_add (a b : Int) : zI a + zI b = zI (a + b) := (Int32.ofInt_add a b).symm
theorem zI_sub (a b : Int) : zI a - zI b = zI (a - b) := (Int32.ofInt_sub a b).symm
theorem zI_mul (a b : Int) : zI a * zI b = zI (a * b) := (Int32.ofInt_mul a b).symm
theorem zI_lt {a b : Int} (h1 : -2147483648 ≤ a) (h2 : a < 2147483648) (h3 : -2147483648 ≤ b) (h4 : b < 2147483648) : (zI a < zI b) ↔ a < b := by rw [Int32.lt_iff_toInt_lt, zI_toInt h1 h2, zI_toInt h3 h4]
theorem zI_le {a b : Int} (h1 : -2147483648 ≤ a) (h2 : a < 2147483648) (h3 : -2147483648 ≤ b) (h4 : b < 2147483648) : (zI a ≤ zI b) ↔ a ≤ b := by rw [Int32.le_iff_toInt_le, zI_toInt h1 h2, zI_toInt h3 h4]
theorem zI_eq {a b : Int} (h1 : -2147483648 ≤ a) (h2 : a < 2147483648) (h3 : -2147483648 ≤ b) (h4 : b < 2147483648) : (zI a = zI b) ↔ a = b := by rw [← Int32.toInt_inj, zI_toInt h1 h2, zI_toInt h3 h4]
theorem zI_tn {a : Int} (h1 : -2147483648 ≤ a) (h2 : a < 2147483648) : (zI a).toNatClampNeg = a.toNat := by
  have := zI_toInt h1 h2
  show (zI a).toInt.toNat = a.toNat
  rw [this]
theorem zI_in {a : Int} {n : Nat} (h1 : -2147483648 ≤ a) (h2 : a < 2147483648) : vp_in (zI a) n ↔ 0 ≤ a ∧ a < n := by rw [vp_in_iff, zI_toInt h1 h2]
theorem zI_nI (n : Nat) : nI n = zI (n : Int) := rfl
theorem zI_ex (x : Int32) : ∃ a : Int, x = zI a ∧ -2147483648 ≤ a ∧ a < 2147483648 := ⟨x.toInt, (Int32.ofInt_toInt x).symm, Int32.le_toInt x, Int32.toInt_lt x⟩
theorem zI_div {a b : Int} (h1 : 0 ≤ a) (h2 : a < 2147483648) (h3 : 0 < b) (h4 : b < 2147483648) : zI a / zI b = zI (a / b) := by
  have e1 : a = (a.toNat : Int) := by omega
  have e2 : b = (b.toNat : Int) := by omega
  rw [e1, e2, ← zI_nI, ← zI_nI, pk_div (by omega) (by omega) (by omega), zI_nI]
  rfl
theorem tn_nat (n : Nat) : ((n : Int)).toNat = n := rfl
theorem lz0 : (0 : Int32) = zI 0 := by decide +kernel
theorem lz1 : (1 : Int32) = zI 1 := by decide +kernel
theorem lz2 : (2 : Int32) = zI 2 := by decide +kernel
theorem lz3 : (3 : Int32) = zI 3 := by decide +kernel
theorem lz4 : (4 : Int32) = zI 4 := by decide +kernel
theorem lz5 : (5 : Int32) = zI 5 := by decide +kernel
theorem lz6 : (6 : Int32) = zI 6 := by decide +kernel
theorem lz7 : (7 : Int32) = zI 7 := by decide +kernel
theorem lz8 : (8 : Int32) = zI 8 := by decide +kernel
theorem lz9 : (9 : Int32) = zI 9 := by decide +kernel
theorem lz10 : (10 : Int32) = zI 10 := by decide +kernel
theorem lz11 : (11 : Int32) = zI 11 := by decide +kernel
theorem lz12 : (12 : Int32) = zI 12 := by decide +kernel
theorem lz13 : (13 : Int32) = zI 13 := by decide +kernel
theorem lz14 : (14 : Int32) = zI 14 := by decide +kernel
theorem lz15 : (15 : Int32) = zI 15 := by decide +kernel
theorem lz16 : (16 : Int32) = zI 16 := by decide +kernel
theorem lz17 : (17 : Int32) = zI 17 := by decide +kernel
theorem lz18 : (18 : Int32) = zI 18 := by decide +kernel
theorem lz19 : (19 : Int32) = zI 19 := by decide +kernel
theorem lz20 : (20 : Int32) = zI 20 := by decide +kernel
theorem lz21 : (21 : Int32) = zI 21 := by decide +kernel
theorem lz22 : (22 : Int32) = zI 22 := by decide +kernel
theorem lz23 : (23 : Int32) = zI 23 := by decide +kernel
theorem lz24 : (24 : Int32) = zI 24 := by decide +kernel
theorem lz25 : (25 : Int32) = zI 25 := by decide +kernel
theorem lz26 : (26 : Int32) = zI 26 := by decide +kernel
theorem lz27 : (27 : Int32) = zI 27 := by decide +kernel
theorem lz28 : (28 : Int32) = zI 28 := by decide +kernel
theorem lz29 : (29 : Int32) = zI 29 := by decide +kernel
theorem lz30 : (30 : Int32) = zI 30 := by decide +kernel
theorem lz31 : (31 : Int32) = zI 31 := by decide +kernel
theorem lz32 : (32 : Int32) = zI 32 := by decide +kernel
theorem lz33 : (33 : Int32) = zI 33 := by decide +kernel
theorem lz34 : (34 : Int32) = zI 34 := by decide +kernel
theorem lz35 : (35 : Int32) = zI 35 := by decide +kernel
theorem lz36 : (36 : Int32) = zI 36 := by decide +kernel
theorem lz37 : (37 : Int32) = zI 37 := by decide +kernel
theorem lz38 : (38 : Int32) = zI 38 := by decide +kernel
theorem lz39 : (39 : Int32) = zI 39 := by decide +kernel
theorem lz40 : (40 : Int32) = zI 40 := by decide +kernel
theorem lz41 : (41 : Int32) = zI 41 := by decide +kernel
theorem lz42 : (42 : Int32) = zI 42 := by decide +kernel
theorem lz43 : (43 : Int32) = zI 43 := by decide +kernel
theorem lz44 : (44 : Int32) = zI 44 := by decide +kernel
theorem lz45 : (45 : Int32) = zI 45 := by decide +kernel
theorem lz46 : (46 : Int32) = zI 46 := by decide +kernel
theorem lz47 : (47 : Int32) = zI 47 := by decide +kernel
theorem lz48 : (48 : Int32) = zI 48 := by decide +kernel
theorem lz49 : (49 : Int32) = zI 49 := by decide +kernel
theorem lz50 : (50 : Int32) = zI 50 := by decide +kernel
theorem lz51 : (51 : Int32) = zI 51 := by decide +kernel
theorem lz52 : (52 : Int32) = zI 52 := by decide +kernel
theorem lz53 : (53 : Int32) = zI 53 := by decide +kernel
theorem lz54 : (54 : Int32) = zI 54 := by decide +kernel
theorem lz55 : (55 : Int32) = zI 55 := by decide +kernel
theorem lz56 : (56 : Int32) = zI 56 := by decide +kernel
theorem lz57 : (57 : Int32) = zI 57 := by decide +kernel
theorem lz58 : (58 : Int32) = zI 58 := by decide +kernel
theorem lz59 : (59 : Int32) = zI 59 := by decide +kernel
theorem lz60 : (60 : Int32) = zI 60 := by decide +kernel
theorem lz61 : (61 : Int32) = zI 61 := by decide +kernel
theorem lz62 : (62 : Int32) = zI 62 := by decide +kernel
theorem lz63 : (63 : Int32) = zI 63 := by decide +kernel
theorem lz64 : (64 : Int32) = zI 64 := by decide +kernel
theorem lz65 : (65 : Int32) = zI 65 := by decide +kernel
theorem lz66 : (66 : Int32) = zI 66 := by decide +kernel
theorem lz67 : (67 : Int32) = zI 67 := by decide +kernel
theorem lz68 : (68 : Int32) = zI 68 := by decide +kernel
theorem lz69 : (69 : Int32) = zI 69 := by decide +kernel
theorem lz100 : (100 : Int32) = zI 100 := by decide +kernel
theorem lz120 : (120 : Int32) = zI 120 := by decide +kernel
theorem lz128 : (128 : Int32) = zI 128 := by decide +kernel
theorem lz137 : (137 : Int32) = zI 137 := by decide +kernel
theorem lz180 : (180 : Int32) = zI 180 := by decide +kernel
theorem lz200 : (200 : Int32) = zI 200 := by decide +kernel
theorem lz255 : (255 : Int32) = zI 255 := by decide +kernel
theorem lz256 : (256 : Int32) = zI 256 := by decide +kernel
theorem lz512 : (512 : Int32) = zI 512 := by decide +kernel
theorem lz600 : (600 : Int32) = zI 600 := by decide +kernel
theorem lz1000 : (1000 : Int32) = zI 1000 := by decide +kernel
theorem lz1000000 : (1000000 : Int32) = zI 1000000 := by decide +kernel
theorem lz1200 : (1200 : Int32) = zI 1200 := by decide +kernel
theorem lz2048 : (2048 : Int32) = zI 2048 := by decide +kernel
theorem lz2049 : (2049 : Int32) = zI 2049 := by decide +kernel
theorem lz2400 : (2400 : Int32) = zI 2400 := by decide +kernel
theorem lz4000 : (4000 : Int32) = zI 4000 := by decide +kernel
theorem lz4800 : (4800 : Int32) = zI 4800 := by decide +kernel
theorem ln1 : (-1 : Int32) = zI (-1) := by decide +kernel
theorem ln2 : (-2 : Int32) = zI (-2) := by decide +kernel
theorem ln3 : (-3 : Int32) = zI (-3) := by decide +kernel
theorem ln4 : (-4 : Int32) = zI (-4) := by decide +kernel
theorem ln8 : (-8 : Int32) = zI (-8) := by decide +kernel
theorem ln10 : (-10 : Int32) = zI (-10) := by decide +kernel
theorem zI_neg (a : Int) : -zI a = zI (-a) := (Int32.ofInt_neg a).symm
