-- ===== floats of usual size =====
/-- a float that is no zero, no subnormal, no infinity, no NaN -/
def Vn (x : UInt32) (s : Bool) (c : Nat) (q : Int) : Prop := FP.Core.val32 x = .fin s c q ∧ 8388608 ≤ c ∧ c < 16777216 ∧ -149 ≤ q ∧ q ≤ 104
theorem b32_q : FP.Core.b32.qmin = -149 ∧ FP.Core.b32.qmax = 104 ∧ FP.Core.b32.tails = 8388608 ∧ FP.Core.b32.exps = 256 ∧ FP.Core.b32.p = 24 := by decide
theorem fit32 {s : Bool} {c : Nat} {q : Int} (h1 : 8388608 ≤ c) (h2 : c < 16777216) (h3 : -149 ≤ q) (h4 : q ≤ 104) : FP.Core.fits FP.Core.b32 (.fin s c q) := by
  obtain ⟨a1, a2, a3, a4, a5⟩ := b32_q
  refine ⟨by rw [a5]; omega, by rw [a1]; omega, by rw [a2]; omega, Or.inr (by rw [a3]; omega)⟩
theorem rr32 {s : Bool} {A B c : Nat} {e q : Int} (hB : 0 < B) (h1 : 8388608 ≤ c) (h2 : c < 16777216) (h3 : -149 ≤ q) (h4 : q ≤ 104) (h : A * 2 ^ (e - q).toNat = c * B * 2 ^ (q - e).toNat) : FP.Core.roundRatio FP.Core.b32 s A B e = .fin s c q :=
  FP.Core.roundRatio_exact FP.Core.good_b32 hB (fit32 h1 h2 h3 h4) h
theorem v_c2 : FP.Core.val32 FP.fconst2 = .fin false 8388608 (-22) := by decide +kernel
theorem v_c1 : FP.Core.val32 FP.fconst1 = .fin false 8388608 (-23) := by decide +kernel
theorem v_c0 : FP.Core.val32 FP.fconst0 = .fin false 0 (-149) := by decide +kernel
theorem v_cm : FP.Core.val32 1258291200 = .fin false 8388608 0 := by decide +kernel
theorem nn_of {x : UInt32} (h : FP.Core.val32 x ≠ .nan) : nn32 x = true := by
  have h1 := (FP.Core.notNaN_iff32 x).mpr h
  have h2 : ¬ 2139095040 < x.toNat % 2 ^ 31 := fun w => by rw [(FP.Core.isNaN_bits32 x).mpr w] at h1; cases h1
  unfold nn32
  rw [decide_eq_true_iff, UInt32.le_iff_toNat_le, UInt32.toNat_and]
  have h3 : (0x7fffffff : UInt32).toNat = 2 ^ 31 - 1 := by decide
  have h4 : (0x7f800000 : UInt32).toNat = 2139095040 := by decide
  rw [h3, h4, Nat.and_two_pow_sub_one_eq_mod]
  omega
theorem Vn_nn {x : UInt32} {s : Bool} {c : Nat} {q : Int} (h : Vn x s c q) : nn32 x = true := nn_of (by rw [h.1]; intro w; cases w)
theorem v_div2 {x : UInt32} {c : Nat} {q : Int} (h : Vn x false c q) (hq : -148 ≤ q) : Vn (FP.fdiv x FP.fconst2) false c (q - 1) := by
  obtain ⟨h1, h2, h3, h4, h5⟩ := h
  refine ⟨?_, h2, h3, by omega, by omega⟩
  show FP.Core.val32 (FP.Core.fdiv x FP.fconst2) = _
  rw [FP.Core.val32_fdiv, h1, v_c2]
  show (if (8388608 : Nat) = 0 then (if c = 0 then FP.Core.Datum.nan else FP.Core.Datum.inf (false != false)) else FP.Core.roundRatio FP.Core.b32 (false != false) c 8388608 (q - -22)) = _
  rw [if_neg (by omega)]
  refine rr32 (by omega) h2 h3 (by omega) (by omega) ?_
  rw [show (q - -22 - (q - 1)).toNat = 23 by omega, show (q - 1 - (q - -22)).toNat = 0 by omega]
  omega
theorem v_mul2 {x : UInt32} {c : Nat} {q : Int} (h : Vn x false c q) (hq : q ≤ 103) : Vn (FP.fmul x FP.fconst2) false c (q + 1) := by
  obtain ⟨h1, h2, h3, h4, h5⟩ := h
  refine ⟨?_, h2, h3, by omega, by omega⟩
  show FP.Core.val32 (FP.Core.fmul x FP.fconst2) = _
  rw [FP.Core.val32_fmul, h1, v_c2]
  show FP.Core.roundRatio FP.Core.b32 (false != false) (c * 8388608) 1 (q + -22) = _
  refine rr32 (by omega) h2 h3 (by omega) (by omega) ?_
  rw [show (q + -22 - (q + 1)).toNat = 0 by omega, show (q + 1 - (q + -22)).toNat = 23 by omega]
  omega
/-- what is left of a number below 2, less 1, times 2 ^ 23 -/
theorem v_frac {x : UInt32} {c : Nat} (h : Vn x false c (-23)) : FP.Core.val32 (FP.fsub x FP.fconst1) ≠ .nan ∧ FP.Core.val32 (FP.fmul (FP.fsub x FP.fconst1) 1258291200) ≠ .nan ∧ FP.f2i (FP.fmul (FP.fsub x FP.fconst1) 1258291200) = nt ((c - 8388608 : Nat) : Int) := by
  obtain ⟨h1, h2, h3, h4, h5⟩ := h
  have hs : FP.Core.val32 (FP.fsub x FP.fconst1) = FP.Core.roundRatio FP.Core.b32 (FP.Core.sumSign false true ((c : Int) - 8388608)) (c - 8388608) 1 (-23) := by
    show FP.Core.val32 (FP.Core.fsub x FP.fconst1) = _
    rw [FP.Core.val32_fsub, h1, v_c1]
    have e1 : FP.Core.exactSum (.fin false c (-23)) (FP.Core.negate (.fin false 8388608 (-23))) = .fin (FP.Core.sumSign false true ((c : Int) - 8388608)) (c - 8388608) (-23) := by
      have hu : FP.Core.sumUnits false c (-23) true 8388608 (-23) (min (-23) (-23)) = (c : Int) - 8388608 := by
        unfold FP.Core.sumUnits FP.Core.signed FP.Core.inUnits
        rw [if_neg (by decide), if_pos rfl, show min (-23 : Int) (-23) = -23 by decide, show ((-23 : Int) - -23).toNat = 0 by decide]
        omega
      show FP.Core.Datum.fin (FP.Core.sumSign false true (FP.Core.sumUnits false c (-23) true 8388608 (-23) (min (-23) (-23)))) (FP.Core.sumUnits false c (-23) true 8388608 (-23) (min (-23) (-23))).natAbs (min (-23) (-23)) = _
      rw [hu, show ((c : Int) - 8388608).natAbs = c - 8388608 by omega, show min (-23 : Int) (-23) = -23 by decide]
    rw [e1]
    rfl
  obtain ⟨t, ht⟩ : ∃ t, t = c - 8388608 := ⟨_, rfl⟩
  rw [← ht] at hs ⊢
  by_cases h0 : t = 0
  · have hs0 : FP.Core.val32 (FP.fsub x FP.fconst1) = .fin false 0 (-149) := by
      rw [hs, h0, show ((c : Int) - 8388608) = 0 by omega]
      rfl
    have hm : FP.Core.val32 (FP.fmul (FP.fsub x FP.fconst1) 1258291200) = .fin false 0 (-149) := by
      show FP.Core.val32 (FP.Core.fmul _ _) = _
      rw [FP.Core.val32_fmul, hs0, v_cm]
      rfl
    refine ⟨(by rw [hs0]; intro w; cases w), (by rw [hm]; intro w; cases w), ?_⟩
    show FP.Core.toI (FP.Core.val32 _) = _
    rw [hm, h0]
    decide
  · have hl1 : 2 ^ t.log2 ≤ t := Nat.log2_self_le h0
    have hl2 : t < 2 ^ (t.log2 + 1) := Nat.lt_log2_self
    have hl3 : t.log2 < 23 := (Nat.log2_lt h0).mpr (by omega)
    obtain ⟨k, hk⟩ : ∃ k, t.log2 + k = 23 := ⟨23 - t.log2, by omega⟩
    have hc1 : 8388608 ≤ t * 2 ^ k := by
      have : 2 ^ t.log2 * 2 ^ k ≤ t * 2 ^ k := Nat.mul_le_mul_right _ hl1
      rw [← Nat.pow_add, hk] at this
      exact this
    have hc2 : t * 2 ^ k < 16777216 := by
      have : t * 2 ^ k < 2 ^ (t.log2 + 1) * 2 ^ k := Nat.mul_lt_mul_of_pos_right hl2 (Nat.two_pow_pos k)
      rw [← Nat.pow_add, show t.log2 + 1 + k = 24 by omega] at this
      exact this
    obtain ⟨d, hd⟩ : ∃ d, d = t * 2 ^ k := ⟨_, rfl⟩
    rw [← hd] at hc1 hc2
    have hsg : FP.Core.sumSign false true ((c : Int) - 8388608) = false := by
      unfold FP.Core.sumSign
      rw [if_neg (by omega)]
      exact decide_eq_false (by omega)
    have hs1 : FP.Core.val32 (FP.fsub x FP.fconst1) = .fin false d (-23 - k) := by
      rw [hs, hsg]
      refine rr32 (by omega) hc1 hc2 (by omega) (by omega) ?_
      rw [show (-23 - (-23 - (k : Int))).toNat = k by omega, show (-23 - (k : Int) - -23).toNat = 0 by omega, hd]
      omega
    have hm : FP.Core.val32 (FP.fmul (FP.fsub x FP.fconst1) 1258291200) = .fin false d (-k) := by
      show FP.Core.val32 (FP.Core.fmul _ _) = _
      rw [FP.Core.val32_fmul, hs1, v_cm]
      show FP.Core.roundRatio FP.Core.b32 (false != false) (d * 8388608) 1 (-23 - (k : Int) + 0) = _
      refine rr32 (by omega) hc1 hc2 (by omega) (by omega) ?_
      rw [show (-23 - (k : Int) + 0 - -(k : Int)).toNat = 0 by omega, show (-(k : Int) - (-23 - (k : Int) + 0)).toNat = 23 by omega]
      omega
    refine ⟨(by rw [hs1]; intro w; cases w), (by rw [hm]; intro w; cases w), ?_⟩
    show FP.Core.toI (FP.Core.val32 _) = _
    rw [hm]
    unfold FP.Core.toI FP.Core.toInt FP.Core.truncate FP.Core.signed
    dsimp only
    rw [if_neg (by decide), show (-(k : Int)).toNat = 0 by omega, show (- -(k : Int)).toNat = k by omega, hd, Nat.pow_zero, Nat.mul_one, Nat.mul_div_cancel _ (Nat.two_pow_pos k)]
    show nt _ = nt _
    congr 1
    omega
-- orders
theorem v_ord {x y : UInt32} {s t : Bool} {c d : Nat} {q r : Int} (h : FP.Core.val32 x = .fin s c q) (h2 : FP.Core.val32 y = .fin t d r) : FP.fcmp x y = some (compare (FP.Core.signed s (FP.Core.inUnits c q (min q r))) (FP.Core.signed t (FP.Core.inUnits d r (min q r)))) := by
  show FP.Core.order (FP.Core.val32 x) (FP.Core.val32 y) = _
  rw [h, h2]; rfl
theorem cv_lt {a b : Int} {o : CmpOp} (h : a < b) : Op.cmpValue (some (compare a b)) o = -1 := by rw [show compare a b = .lt from Int.compare_eq_lt.mpr h]; rfl
theorem cv_gt {a b : Int} {o : CmpOp} (h : b < a) : Op.cmpValue (some (compare a b)) o = 1 := by rw [show compare a b = .gt from Int.compare_eq_gt.mpr h]; rfl
theorem cv_ge {a b : Int} {o : CmpOp} (h : b ≤ a) : Op.cmpValue (some (compare a b)) o = 0 ∨ Op.cmpValue (some (compare a b)) o = 1 := by
  rcases (show a = b ∨ b < a by omega) with h | h
  · subst h
    left
    rw [show compare a a = .eq from Int.compare_eq_eq.mpr rfl]; rfl
  · exact Or.inr (cv_gt h)
