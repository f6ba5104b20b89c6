-- ===== numbers: an int, a long, as the image of an integer =====
def nt (a : Int) : Int32 := Int32.ofInt a
def jl (a : Int) : Int64 := Int64.ofInt a
/-- well inside an int, a long -/
def iR (a : Int) : Prop := -2147483648 ≤ a ∧ a < 2147483648
def jR (a : Int) : Prop := -9223372036854775808 ≤ a ∧ a < 9223372036854775808
theorem nt_toInt {a : Int} (h : iR a) : (nt a).toInt = a := Int32.toInt_ofInt_of_le h.1 h.2
theorem jl_toInt {a : Int} (h : jR a) : (jl a).toInt = a := Int64.toInt_ofInt_of_le h.1 h.2
theorem nt_of (x : Int32) : nt x.toInt = x := Int32.ofInt_toInt x
theorem jl_of (x : Int64) : jl x.toInt = x := Int64.ofInt_toInt x
theorem iR_of (x : Int32) : iR x.toInt := ⟨Int32.le_toInt x, Int32.toInt_lt x⟩
theorem jR_of (x : Int64) : jR x.toInt := ⟨Int64.le_toInt x, Int64.toInt_lt x⟩
theorem nt_add (a b : Int) : nt a + nt b = nt (a + b) := (Int32.ofInt_add a b).symm
theorem nt_sub (a b : Int) : nt a - nt b = nt (a - b) := (Int32.ofInt_sub a b).symm
theorem nt_mul (a b : Int) : nt a * nt b = nt (a * b) := (Int32.ofInt_mul a b).symm
theorem nt_neg (a : Int) : - nt a = nt (-a) := (Int32.ofInt_neg a).symm
theorem jl_add (a b : Int) : jl a + jl b = jl (a + b) := (Int64.ofInt_add a b).symm
theorem jl_sub (a b : Int) : jl a - jl b = jl (a - b) := (Int64.ofInt_sub a b).symm
theorem jl_mul (a b : Int) : jl a * jl b = jl (a * b) := (Int64.ofInt_mul a b).symm
theorem jl_neg (a : Int) : - jl a = jl (-a) := (Int64.ofInt_neg a).symm
theorem nt_lt {a b : Int} (ha : iR a) (hb : iR b) : nt a < nt b ↔ a < b := by rw [Int32.lt_iff_toInt_lt, nt_toInt ha, nt_toInt hb]
theorem nt_le {a b : Int} (ha : iR a) (hb : iR b) : nt a ≤ nt b ↔ a ≤ b := by rw [Int32.le_iff_toInt_le, nt_toInt ha, nt_toInt hb]
theorem nt_eq {a b : Int} (ha : iR a) (hb : iR b) : nt a = nt b ↔ a = b := by rw [← Int32.toInt_inj, nt_toInt ha, nt_toInt hb]
theorem jl_lt {a b : Int} (ha : jR a) (hb : jR b) : jl a < jl b ↔ a < b := by rw [Int64.lt_iff_toInt_lt, jl_toInt ha, jl_toInt hb]
theorem jl_le {a b : Int} (ha : jR a) (hb : jR b) : jl a ≤ jl b ↔ a ≤ b := by rw [Int64.le_iff_toInt_le, jl_toInt ha, jl_toInt hb]
theorem jl_eq {a b : Int} (ha : jR a) (hb : jR b) : jl a = jl b ↔ a = b := by rw [← Int64.toInt_inj, jl_toInt ha, jl_toInt hb]
theorem nt_nat {a : Int} (h : iR a) : (nt a).toNatClampNeg = a.toNat := Int32.toNatClampNeg_ofInt_of_le h.1 h.2
theorem nt_long {a : Int} (h : iR a) : (nt a).toInt64 = jl a := Int32.toInt64_ofInt h.1 (by have := h.2; show a ≤ 2147483647; omega)
theorem inb_nt {a : Int} (h : iR a) (n : Nat) : inb (nt a) n = decide (0 ≤ a ∧ a < n) := by
  unfold inb
  have e0 : (0 : Int32) = nt 0 := rfl
  rw [e0, nt_nat h]
  by_cases h1 : 0 ≤ a ∧ a < n
  · have a1 : ¬ nt a < nt 0 := by rw [nt_lt h ⟨by omega, by omega⟩]; omega
    have a2 : ¬ n ≤ a.toNat := by omega
    simp [a1, a2, h1]
  · by_cases h2 : a < 0
    · have a1 : nt a < nt 0 := by rw [nt_lt h ⟨by omega, by omega⟩]; omega
      simp [a1, h1]
    · have a2 : n ≤ a.toNat := by omega
      simp [a2, h1]
theorem jl_div {a b : Int} (ha : jR a) (hb : jR b) : jl a / jl b = jl (a.tdiv b) := by
  have h1 := ha.2
  have h2 := hb.2
  exact (Int64.ofInt_tdiv ha.1 (by show a ≤ 9223372036854775807; omega) hb.1 (by show b ≤ 9223372036854775807; omega)).symm
theorem nt_div {a b : Int} (ha : iR a) (hb : iR b) : nt a / nt b = nt (a.tdiv b) := by
  have h1 := ha.2
  have h2 := hb.2
  exact (Int32.ofInt_tdiv ha.1 (by show a ≤ 2147483647; omega) hb.1 (by show b ≤ 2147483647; omega)).symm
theorem jl_rem {a b : Int} (ha : jR a) (hb : jR b) : lrm (jl a) (jl b) = jl (a.tmod b) := by
  unfold lrm
  rw [jl_div ha hb, jl_mul, jl_sub]
  congr 1
  have := Int.mul_tdiv_add_tmod a b
  rw [Int.mul_comm (a.tdiv b) b]
  omega
theorem nt_rem {a b : Int} (ha : iR a) (hb : iR b) : irm (nt a) (nt b) = nt (a.tmod b) := by
  unfold irm
  rw [nt_div ha hb, nt_mul, nt_sub]
  congr 1
  have := Int.mul_tdiv_add_tmod a b
  rw [Int.mul_comm (a.tdiv b) b]
  omega
-- written numbers
theorem n_0 : (0 : Int32) = nt 0 := rfl
theorem n_1 : (1 : Int32) = nt 1 := rfl
theorem n_2 : (2 : Int32) = nt 2 := rfl
theorem n_3 : (3 : Int32) = nt 3 := rfl
theorem n_4 : (4 : Int32) = nt 4 := rfl
theorem n_5 : (5 : Int32) = nt 5 := rfl
theorem n_6 : (6 : Int32) = nt 6 := rfl
theorem n_7 : (7 : Int32) = nt 7 := rfl
theorem n_8 : (8 : Int32) = nt 8 := rfl
theorem n_9 : (9 : Int32) = nt 9 := rfl
theorem n_10 : (10 : Int32) = nt 10 := rfl
theorem n_11 : (11 : Int32) = nt 11 := rfl
theorem n_12 : (12 : Int32) = nt 12 := rfl
theorem n_13 : (13 : Int32) = nt 13 := rfl
theorem n_14 : (14 : Int32) = nt 14 := rfl
theorem n_15 : (15 : Int32) = nt 15 := rfl
theorem n_16 : (16 : Int32) = nt 16 := rfl
theorem n_17 : (17 : Int32) = nt 17 := rfl
theorem n_18 : (18 : Int32) = nt 18 := rfl
theorem n_19 : (19 : Int32) = nt 19 := rfl
theorem n_20 : (20 : Int32) = nt 20 := rfl
theorem n_21 : (21 : Int32) = nt 21 := rfl
theorem n_22 : (22 : Int32) = nt 22 := rfl
theorem n_23 : (23 : Int32) = nt 23 := rfl
theorem n_24 : (24 : Int32) = nt 24 := rfl
theorem n_25 : (25 : Int32) = nt 25 := rfl
theorem n_26 : (26 : Int32) = nt 26 := rfl
theorem n_27 : (27 : Int32) = nt 27 := rfl
theorem n_28 : (28 : Int32) = nt 28 := rfl
theorem n_29 : (29 : Int32) = nt 29 := rfl
theorem n_30 : (30 : Int32) = nt 30 := rfl
theorem n_31 : (31 : Int32) = nt 31 := rfl
theorem n_32 : (32 : Int32) = nt 32 := rfl
theorem n_42 : (42 : Int32) = nt 42 := rfl
theorem n_83 : (83 : Int32) = nt 83 := rfl
theorem n_99 : (99 : Int32) = nt 99 := rfl
theorem n_100 : (100 : Int32) = nt 100 := rfl
theorem n_126 : (126 : Int32) = nt 126 := rfl
theorem n_127 : (127 : Int32) = nt 127 := rfl
theorem n_180 : (180 : Int32) = nt 180 := rfl
theorem n_200 : (200 : Int32) = nt 200 := rfl
theorem n_252 : (252 : Int32) = nt 252 := rfl
theorem n_924 : (924 : Int32) = nt 924 := rfl
theorem n_4096 : (4096 : Int32) = nt 4096 := rfl
theorem n_20000 : (20000 : Int32) = nt 20000 := rfl
theorem n_8388608 : (8388608 : Int32) = nt 8388608 := rfl
theorem n_m1 : (-1 : Int32) = nt (-1) := rfl
theorem n_m2 : (-2 : Int32) = nt (-2) := rfl
theorem n_m3 : (-3 : Int32) = nt (-3) := rfl
theorem n_m4 : (-4 : Int32) = nt (-4) := rfl
theorem n_m5 : (-5 : Int32) = nt (-5) := rfl
theorem n_m6 : (-6 : Int32) = nt (-6) := rfl
theorem n_m99 : (-99 : Int32) = nt (-99) := rfl
theorem j_0 : (0 : Int64) = jl 0 := rfl
theorem j_1 : (1 : Int64) = jl 1 := rfl
theorem j_2 : (2 : Int64) = jl 2 := rfl
theorem j_12 : (12 : Int64) = jl 12 := rfl
theorem j_m2 : (-2 : Int64) = jl (-2) := rfl
theorem j_m12 : (-12 : Int64) = jl (-12) := rfl
