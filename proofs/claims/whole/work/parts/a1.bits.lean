-- ===== the bits of a float, the class's way and the library's =====
theorem v_ge {x y : UInt32} {c : Nat} {q r : Int} {o : CmpOp} (h : Vn x false c q) (hy : FP.Core.val32 y = .fin false 8388608 r) (hr : r ≤ q) : Op.cmpValue (FP.fcmp x y) o = 0 ∨ Op.cmpValue (FP.fcmp x y) o = 1 := by
  rw [v_ord h.1 hy, show min q r = r by omega]
  refine cv_ge ?_
  unfold FP.Core.signed FP.Core.inUnits
  rw [if_neg (by decide), if_neg (by decide), show (r - r).toNat = 0 by omega, Nat.pow_zero, Nat.mul_one]
  have h1 := Nat.two_pow_pos (q - r).toNat
  have h2 : c * 1 ≤ c * 2 ^ (q - r).toNat := Nat.mul_le_mul_left _ h1
  have h3 := h.2.1
  omega
theorem v_lt {x y : UInt32} {c : Nat} {q r : Int} {o : CmpOp} (h : Vn x false c q) (hy : FP.Core.val32 y = .fin false 8388608 r) (hr : q < r) : Op.cmpValue (FP.fcmp x y) o = -1 := by
  rw [v_ord h.1 hy, show min q r = q by omega]
  refine cv_lt ?_
  unfold FP.Core.signed FP.Core.inUnits
  rw [if_neg (by decide), if_neg (by decide), show (q - q).toNat = 0 by omega, Nat.pow_zero, Nat.mul_one]
  obtain ⟨k, hk⟩ : ∃ k, (r - q).toNat = k + 1 := ⟨(r - q).toNat - 1, by omega⟩
  rw [hk, Nat.pow_succ]
  have h1 := Nat.two_pow_pos k
  have h2 : 8388608 * (1 * 2) ≤ 8388608 * (2 ^ k * 2) := Nat.mul_le_mul_left _ (by omega)
  have h3 := h.2.2.1
  omega
theorem v_pos {x : UInt32} {c : Nat} {q : Int} {o : CmpOp} (h : Vn x false c q) : Op.cmpValue (FP.fcmp x FP.fconst0) o = 1 := by
  rw [v_ord h.1 v_c0]
  refine cv_gt ?_
  unfold FP.Core.signed FP.Core.inUnits
  rw [if_neg (by decide), if_neg (by decide), Nat.zero_mul]
  have h1 := Nat.mul_pos (show 0 < c by have := h.2.1; omega) (Nat.two_pow_pos (q - min q (-149)).toNat)
  omega
theorem v_neg {x : UInt32} {c : Nat} {q : Int} {o : CmpOp} (h : Vn x true c q) : Op.cmpValue (FP.fcmp x FP.fconst0) o = -1 := by
  rw [v_ord h.1 v_c0]
  refine cv_lt ?_
  unfold FP.Core.signed FP.Core.inUnits
  rw [if_pos rfl, if_neg (by decide), Nat.zero_mul]
  have h1 := Nat.mul_pos (show 0 < c by have := h.2.1; omega) (Nat.two_pow_pos (q - min q (-149)).toNat)
  omega
theorem shl_ok : (List.range 256).all (fun e => (nt (e : Nat) <<< ((23 : Int32) &&& 31)) == nt ((e * 8388608 : Nat) : Int)) = true := by decide +kernel
theorem u32_nt (X : Nat) : (UInt32.ofNat X).toInt32 = nt (X : Int) := by
  rw [← Int32.toBitVec_inj, nt_bv]
  rfl
theorem v_bits {x : UInt32} {s : Bool} {c : Nat} {q : Int} (h : Vn x s c q) {E : Int} (hE : E = q + 150) : ((if s = true then (-2147483648 : Int32) else 0) ||| (nt E <<< ((23 : Int32) &&& 31))) ||| nt ((c - 8388608 : Nat) : Int) = x.toInt32 := by
  obtain ⟨h1, h2, h3, h4, h5⟩ := h
  have hx : x = FP.Core.of32 (.fin s c q) := by rw [← h1]; exact (FP.Core.of32_val32 (by rw [h1]; intro w; cases w)).symm
  obtain ⟨a1, a2, a3, a4, a5⟩ := b32_q
  have hn : FP.Core.encode FP.Core.b32 (.fin s c q) = (if s = true then 2147483648 else 0) + ((q + 150).toNat * 8388608 + (c - 8388608)) := by
    show (if c < FP.Core.b32.tails then FP.Core.assemble FP.Core.b32 s 0 c else FP.Core.assemble FP.Core.b32 s ((q - FP.Core.b32.qmin).toNat + 1) (c - FP.Core.b32.tails)) = _
    rw [a3, if_neg (by omega)]
    unfold FP.Core.assemble
    rw [a1, a3, a4, show (q - -149).toNat + 1 = (q + 150).toNat by omega]
    cases s
    · show (0 * 256 + (q + 150).toNat) * 8388608 + (c - 8388608) = 0 + _
      omega
    · show (1 * 256 + (q + 150).toNat) * 8388608 + (c - 8388608) = 2147483648 + _
      omega
  obtain ⟨e, he⟩ : ∃ e, e = (q + 150).toNat := ⟨_, rfl⟩
  have hE2 : E = (e : Int) := by omega
  have hel : e < 256 := by omega
  have hsh := List.all_eq_true.mp shl_ok e (List.mem_range.mpr hel)
  rw [beq_iff_eq] at hsh
  have hS : (if s = true then (-2147483648 : Int32) else 0) = nt (((if s = true then 2147483648 else 0 : Nat) : Nat) : Int) := by cases s <;> rfl
  rw [hE2, hsh, hS, nt_or, nt_or]
  have ho : ((if s = true then 2147483648 else 0) ||| e * 8388608) ||| (c - 8388608) = (if s = true then 2147483648 else 0) + (e * 8388608 + (c - 8388608)) := by
    have o1 : (if s = true then 2147483648 else 0) ||| e * 8388608 = (if s = true then 2147483648 else 0) + e * 8388608 := by
      cases s
      · show 0 ||| e * 8388608 = 0 + e * 8388608
        rw [Nat.zero_or, Nat.zero_add]
      · show 2147483648 ||| e * 8388608 = 2147483648 + e * 8388608
        have := Nat.two_pow_add_eq_or_of_lt (i := 31) (b := e * 8388608) (by omega) 1
        exact this.symm
    rw [o1]
    obtain ⟨m, hm⟩ : ∃ m, (if s = true then 2147483648 else 0) + e * 8388608 = 2 ^ 23 * m := by
      cases s
      · exact ⟨e, by show 0 + e * 8388608 = _; omega⟩
      · exact ⟨256 + e, by show 2147483648 + e * 8388608 = _; omega⟩
    have := Nat.two_pow_add_eq_or_of_lt (i := 23) (b := c - 8388608) (by omega) m
    rw [hm, ← this, ← hm]
    omega
  rw [ho, hx]
  unfold FP.Core.of32
  rw [hn, ← he, u32_nt]
section
variable {N : Nat} {σ : ZS}
theorem s_b78 {x y : UInt32} {s : Bool} {c : Nat} {q E : Int} (h : Vn x s c q) (hy : Vn y false c (-23)) (hE : E = q + 150) : f_X5_bitsOf_b78 N x y (nt E) σ = some (x.toInt32, σ) := by
  obtain ⟨f1, f2, f3⟩ := v_frac hy
  unfold f_X5_bitsOf_b78 f_X5_bitsOf_b100
  rw [ck_of (nn_of f1), ck_of (nn_of f2), f3, bd_eq, ← v_bits h hE]
  cases s
  · rw [v_pos h]; rfl
  · rw [v_neg h]; rfl
theorem s_h53 {x : UInt32} {s : Bool} {c : Nat} {q0 : Int} (hx : Vn x s c q0) : ∀ (j : Nat) (y : UInt32) (q E : Int) (m k : Nat), Vn y false c q → q + j = -23 → k + j ≤ 126 → j + 1 ≤ m → E = q0 + 150 + j → f_X5_bitsOf_h53 N x m y (nt E) (nt (k : Nat)) σ = some (x.toInt32, σ) := by
  intro j
  induction j with
  | zero =>
    intro y q E m k hy hq hk hm hE
    obtain ⟨m, rfl⟩ : ∃ n, m = n + 1 := ⟨m - 1, by omega⟩
    obtain rfl : q = -23 := by omega
    have n126 : (126 : Int32) = nt 126 := rfl
    rw [f_X5_bitsOf_h53, n126]
    by_cases h : 126 ≤ k
    · rw [le_t (by omega) (by omega) (by omega)]
      exact s_b78 hx hy (by omega)
    · rw [le_f (by omega) (by omega) (by omega)]
      have hge : 0 ≤ Op.cmpValue (FP.fcmp y FP.fconst1) .g := by
        rcases v_ge (o := .g) hy v_c1 (by omega) with h | h <;> rw [h] <;> decide
      rw [if_pos hge]
      exact s_b78 hx hy (by omega)
  | succ j ih =>
    intro y q E m k hy hq hk hm hE
    obtain ⟨m, rfl⟩ : ∃ n, m = n + 1 := ⟨m - 1, by omega⟩
    have n126 : (126 : Int32) = nt 126 := rfl
    have hlt : ¬ 0 ≤ Op.cmpValue (FP.fcmp y FP.fconst1) .g := by
      rw [v_lt (o := .g) hy v_c1 (by omega)]; decide
    have hy2 := v_mul2 hy (by omega)
    rw [f_X5_bitsOf_h53, n126, le_f (by omega) (by omega) (by omega), if_neg hlt, ck_of (Vn_nn hy2), bd_eq, n_m1, nt_add, bd_eq, n_1, nt_add, bd_eq]
    exact ih _ (q + 1) (E + -1) m (k + 1) hy2 (by omega) (by omega) (by omega) (by omega)
end
