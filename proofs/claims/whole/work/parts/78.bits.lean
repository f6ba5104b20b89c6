-- ===== sets of ends as ints =====
theorem nt_bv (a : Nat) : (nt (a : Nat)).toBitVec = BitVec.ofNat 32 a := BitVec.ofInt_natCast 32 a
theorem nt_or (a b : Nat) : nt (a : Nat) ||| nt (b : Nat) = nt ((a ||| b : Nat) : Int) := by
  rw [← Int32.toBitVec_inj, Int32.toBitVec_or, nt_bv, nt_bv, nt_bv, BitVec.ofNat_or]
theorem nt_and (a b : Nat) : nt (a : Nat) &&& nt (b : Nat) = nt ((a &&& b : Nat) : Int) := by
  rw [← Int32.toBitVec_inj, Int32.toBitVec_and, nt_bv, nt_bv, nt_bv, BitVec.ofNat_and]
theorem nt_shl1 {a : Nat} : nt (a : Nat) <<< ((1 : Int32) &&& 31) = nt ((2 * a : Nat) : Int) := by
  rw [show ((1 : Int32) &&& 31) = 1 from rfl, ← Int32.toBitVec_inj, Int32.toBitVec_shiftLeft, nt_bv, nt_bv]
  have : ((1 : Int32).toBitVec.smod 32) = 1#32 := by decide
  apply BitVec.eq_of_toNat_eq
  rw [this]
  simp [BitVec.toNat_shiftLeft, Nat.shiftLeft_eq]
  omega
theorem nt_pow {e : Nat} (he : e < 12) : nt 1 <<< (nt (e : Nat) &&& 31) = nt ((2 ^ e : Nat) : Int) := by
  rcases (show e = 0 ∨ e = 1 ∨ e = 2 ∨ e = 3 ∨ e = 4 ∨ e = 5 ∨ e = 6 ∨ e = 7 ∨ e = 8 ∨ e = 9 ∨ e = 10 ∨ e = 11 by omega) with rfl | rfl | rfl | rfl | rfl | rfl | rfl | rfl | rfl | rfl | rfl | rfl <;> decide
theorem nt_shr {a e : Nat} (ha : a < 2147483648) (he : e < 32) : nt (a : Nat) >>> (nt (e : Nat) &&& 31) = nt ((a >>> e : Nat) : Int) := by
  have h31 : nt (e : Nat) &&& 31 = nt (e : Nat) := by
    rw [n_31]
    have := nt_and e 31
    have e2 : e &&& 31 = e := by
      have : e &&& (2 ^ 5 - 1) = e % 2 ^ 5 := Nat.and_two_pow_sub_one_eq_mod e 5
      have h3 : (2 : Nat) ^ 5 - 1 = 31 := by decide
      rw [h3] at this
      rw [this]; exact Nat.mod_eq_of_lt he
    rw [e2] at this
    exact this
  rw [h31, ← Int32.toBitVec_inj, Int32.toBitVec_shiftRight, nt_bv, nt_bv, nt_bv]
  have hs : ((BitVec.ofNat 32 e).smod 32) = BitVec.ofNat 32 e := by
    have hm : ∀ k, k < 32 → ((BitVec.ofNat 32 k).smod 32) = BitVec.ofNat 32 k := by decide
    exact hm e he
  rw [hs]
  apply BitVec.eq_of_toNat_eq
  have hmsb : (BitVec.ofNat 32 a).msb = false := by
    rw [BitVec.msb_eq_decide]
    simp
    omega
  show ((BitVec.ofNat 32 a).sshiftRight (BitVec.ofNat 32 e).toNat).toNat = _
  rw [BitVec.sshiftRight_eq_of_msb_false hmsb]
  simp
  have h1 : a >>> e ≤ a := Nat.shiftRight_le a e
  rw [Nat.mod_eq_of_lt (show e < 4294967296 by omega), Nat.mod_eq_of_lt (show a < 4294967296 by omega), Nat.mod_eq_of_lt (show a >>> e < 4294967296 by omega)]
/-- a bit asked for -/
theorem nt_bit {α : Type} {a e : Nat} (ha : a < 2147483648) (he : e < 32) (x y : α) : (if ((nt (a : Nat) >>> (nt (e : Nat) &&& 31)) &&& (1 : Int32)) = 0 then x else y) = if a.testBit e = true then y else x := by
  rw [nt_shr ha he, show (1 : Int32) = nt ((1 : Nat) : Int) from rfl, nt_and]
  have hb : a.testBit e = (1 &&& (a >>> e) != 0) := rfl
  have h2 : 1 &&& (a >>> e) = (a >>> e) &&& 1 := Nat.and_comm _ _
  have h3 : (a >>> e) &&& 1 ≤ 1 := Nat.and_le_right
  rw [h2] at hb
  by_cases q : (a >>> e) &&& 1 = 0
  · rw [q] at hb ⊢
    have hb2 : ¬ a.testBit e = true := by rw [hb]; decide
    rw [if_neg hb2]
    exact if_pos rfl
  · have q1 : (a >>> e) &&& 1 = 1 := by omega
    rw [q1] at hb ⊢
    have hb2 : a.testBit e = true := by rw [hb]; decide
    have hz : ¬ nt ((1 : Nat) : Int) = (0 : Int32) := by decide
    rw [if_pos hb2, if_neg hz]
/-- a set by what stands in it, from a place on -/
def mkd (b : Nat → Bool) : Nat → Nat → Nat
  | _, 0 => 0
  | e, k + 1 => (if b e = true then 1 else 0) + 2 * mkd b (e + 1) k
theorem mkd_bit (b : Nat → Bool) : ∀ (k e i : Nat), (mkd b e k).testBit i = (decide (i < k) && b (e + i)) := by
  intro k
  induction k with
  | zero => intro e i; show (0 : Nat).testBit i = _; simp
  | succ k ih =>
    intro e i
    show ((if b e = true then 1 else 0) + 2 * mkd b (e + 1) k).testBit i = _
    cases i with
    | zero =>
      rw [Nat.testBit_zero]
      cases h : b e with
      | true => simp [h]
      | false => simp [h]
    | succ i =>
      rw [Nat.testBit_add_one, show ((if b e = true then 1 else 0) + 2 * mkd b (e + 1) k) / 2 = mkd b (e + 1) k by split <;> omega, ih, show e + 1 + i = e + (i + 1) by omega]
      congr 1
      simp
theorem mkd_lt (b : Nat → Bool) : ∀ (k e : Nat), mkd b e k < 2 ^ k := by
  intro k
  induction k with
  | zero => intro e; exact Nat.one_pos
  | succ k ih =>
    intro e
    have := ih (e + 1)
    show (if b e = true then 1 else 0) + 2 * mkd b (e + 1) k < 2 ^ (k + 1)
    rw [Nat.pow_succ]
    split <;> omega
theorem mkd_congr {b c : Nat → Bool} : ∀ (k e : Nat), (∀ i, e ≤ i → i < e + k → b i = c i) → mkd b e k = mkd c e k := by
  intro k
  induction k with
  | zero => intro e _; rfl
  | succ k ih =>
    intro e h
    show (if b e = true then 1 else 0) + 2 * mkd b (e + 1) k = (if c e = true then 1 else 0) + 2 * mkd c (e + 1) k
    rw [h e (Nat.le_refl _) (by omega), ih (e + 1) (fun i hi hi2 => h i (by omega) (by omega))]
-- trailing zeros
def tzw (x : Int32) : Int32 :=
  let v1 := ((x ^^^ (-1 : Int32)) &&& (x - (1 : Int32)))
  if 0 < v1 then
    let a := if v1 ≤ (65536 : Int32) then (v1, (1 : Int32)) else ((v1.toUInt32 >>> ((16 : Int32).toUInt32 &&& Int32.toUInt32 31)).toInt32, (1 : Int32) + 16)
    let b := if a.1 ≤ (256 : Int32) then a else ((a.1.toUInt32 >>> ((8 : Int32).toUInt32 &&& Int32.toUInt32 31)).toInt32, a.2 + 8)
    let c := if b.1 ≤ (16 : Int32) then b else ((b.1.toUInt32 >>> ((4 : Int32).toUInt32 &&& Int32.toUInt32 31)).toInt32, b.2 + 4)
    let d := if c.1 ≤ (4 : Int32) then c else ((c.1.toUInt32 >>> ((2 : Int32).toUInt32 &&& Int32.toUInt32 31)).toInt32, c.2 + 2)
    d.2 + ((d.1.toUInt32 >>> ((1 : Int32).toUInt32 &&& Int32.toUInt32 31)).toInt32)
  else v1 &&& (32 : Int32)
theorem s_tz (N : Nat) (x : Int32) (σ : ZS) : f_J6_numberOfTrailingZeros_0f7a4 N x σ = some (tzw x, σ) := by
  unfold f_J6_numberOfTrailingZeros_0f7a4 f_J6_numberOfTrailingZeros_0f7a4_b34 f_J6_numberOfTrailingZeros_0f7a4_b49 f_J6_numberOfTrailingZeros_0f7a4_b62 f_J6_numberOfTrailingZeros_0f7a4_b74 tzw
  simp only [bd_eq]
  split
  · split <;> split <;> split <;> split <;> simp_all
  · rfl
/-- the lowest place -/
def lwb (a : Nat) : Nat := if a = 0 then 32 else lst (fun e => a.testBit e) 11
theorem tz_ok : (List.range 4096).all (fun a => tzw (nt (a : Nat)) == nt ((lwb a : Nat) : Int)) = true := by decide +kernel
theorem s_ntz (N : Nat) {a : Nat} (ha : a < 4096) (σ : ZS) : f_J6_numberOfTrailingZeros_0f7a4 N (nt (a : Nat)) σ = some (nt ((lwb a : Nat) : Int), σ) := by
  rw [s_tz]
  have h := List.all_eq_true.mp tz_ok a (List.mem_range.mpr ha)
  rw [beq_iff_eq] at h
  rw [h]
