-- ===== the class's near =====
section
variable {N : Nat} {σ : ZS}
theorem s_h26 (hN : 200 ≤ N) {x : UInt32} {s : Bool} {c : Nat} {q0 : Int} (hx : Vn x s c q0) : ∀ (j : Nat) (y : UInt32) (q E : Int) (m k : Nat), Vn y false c q → (q + 23 = (j : Int) ∨ (j = 0 ∧ q ≤ -23)) → k + j ≤ 127 → j + 1 ≤ m → E = q0 + 127 - q → f_X5_bitsOf_h26 N x m y (nt E) (nt (k : Nat)) σ = some (x.toInt32, σ) := by
  intro j
  have hend : ∀ (y : UInt32) (q E : Int), Vn y false c q → q ≤ -23 → E = q0 + 127 - q → f_X5_bitsOf_b51 N x y (nt E) σ = some (x.toInt32, σ) := fun y q E hy hq hE => by
    unfold f_X5_bitsOf_b51
    have hq2 := hy.2.2.2.1
    exact s_h53 hx (-23 - q).toNat y q E N 0 hy (by omega) (by omega) (by omega) (by omega)
  have n127 : (127 : Int32) = nt 127 := rfl
  induction j with
  | zero =>
    intro y q E m k hy hq hk hm hE
    obtain ⟨m, rfl⟩ : ∃ n, m = n + 1 := ⟨m - 1, by omega⟩
    have hq2 : q ≤ -23 := by omega
    rw [f_X5_bitsOf_h26, n127]
    by_cases h : 127 ≤ k
    · rw [le_t (by omega) (by omega) (by omega)]
      exact hend y q E hy hq2 hE
    · have hlt : Op.cmpValue (FP.fcmp y FP.fconst2) .l < 0 := by rw [v_lt (o := .l) hy v_c2 (by omega)]; decide
      rw [le_f (by omega) (by omega) (by omega), if_pos hlt]
      exact hend y q E hy hq2 hE
  | succ j ih =>
    intro y q E m k hy hq hk hm hE
    obtain ⟨m, rfl⟩ : ∃ n, m = n + 1 := ⟨m - 1, by omega⟩
    have hq2 : q + 23 = ((j + 1 : Nat) : Int) := by omega
    have hge : ¬ Op.cmpValue (FP.fcmp y FP.fconst2) .l < 0 := by
      rcases v_ge (o := .l) hy v_c2 (by omega) with h | h <;> rw [h] <;> decide
    have hy2 := v_div2 hy (by omega)
    rw [f_X5_bitsOf_h26, n127, le_f (by omega) (by omega) (by omega), if_neg hge, ck_of (Vn_nn hy2), bd_eq, n_1, nt_add, bd_eq, nt_add, bd_eq]
    exact ih _ (q - 1) (E + 1) m (k + 1) hy2 (by omega) (by omega) (by omega) (by omega)
theorem s_bitsOf (hN : 200 ≤ N) {x : UInt32} (h : x = FP.fconst0 ∨ ∃ s c q, Vn x s c q) : f_X5_bitsOf N x σ = some (x.toInt32, σ) := by
  unfold f_X5_bitsOf f_X5_bitsOf_b12
  rcases h with rfl | ⟨s, c, q, hx⟩
  · have e : FP.fcmp FP.fconst0 FP.fconst0 = some .eq := by decide +kernel
    rw [e]
    rfl
  · have go : ∀ y, Vn y false c q → (if 0 < (Op.cmpValue (FP.fcmp y FP.fconst0) .l) then f_X5_bitsOf_h26 N x N y (127 : Int32) (0 : Int32) σ else some ((0 : Int32), σ)) = some (x.toInt32, σ) := fun y hy => by
      have hp : 0 < Op.cmpValue (FP.fcmp y FP.fconst0) .l := by rw [v_pos hy]; decide
      rw [if_pos hp]
      have hq := hx.2.2.2
      by_cases h : q ≤ -23
      · exact s_h26 hN hx 0 y q 127 N 0 hy (Or.inr ⟨rfl, h⟩) (by omega) (by omega) (by omega)
      · exact s_h26 hN hx (q + 23).toNat y q 127 N 0 hy (by omega) (by omega) (by omega) (by omega)
    cases s with
    | false =>
      have hp : 0 ≤ Op.cmpValue (FP.fcmp x FP.fconst0) .g := by rw [v_pos hx]; decide
      rw [if_pos hp]
      exact go x hx
    | true =>
      have hp : ¬ 0 ≤ Op.cmpValue (FP.fcmp x FP.fconst0) .g := by rw [v_neg hx]; decide
      rw [if_neg hp]
      refine go (FP.fneg x) ⟨?_, hx.2⟩
      rw [FP.val32_fneg, hx.1]; rfl
end
-- quotients of longs
theorem nrm {s : Bool} {A B : Nat} {e : Int} (hA : 0 < A) (hB : 0 < B) (h1 : -126 ≤ FP.Core.leading A B + e) (h2 : FP.Core.leading A B + e ≤ 120) : ∃ c q, FP.Core.roundRatio FP.Core.b32 s A B e = .fin s c q ∧ 8388608 ≤ c ∧ c < 16777216 ∧ FP.Core.leading A B + e - 23 ≤ q ∧ q ≤ FP.Core.leading A B + e - 22 := by
  obtain ⟨a1, a2, a3, a4, a5⟩ := b32_q
  obtain ⟨l1, l2⟩ := FP.Core.leading_spec hA hB
  obtain ⟨L, hL⟩ : ∃ L, L = FP.Core.leading A B := ⟨_, rfl⟩
  rw [← hL] at h1 h2 l1 l2 ⊢
  obtain ⟨q, hq⟩ : ∃ q, q = L + e - 23 := ⟨_, rfl⟩
  have hqu : FP.Core.quantum FP.Core.b32 A B e = q := by
    unfold FP.Core.quantum
    rw [a1, a5, ← hL]; omega
  have hD := FP.Core.unitsDen_pos hB e q
  have u1 : 2 ^ 23 * FP.Core.unitsDen B e q ≤ FP.Core.unitsNum A e q := by
    apply Nat.le_of_not_lt
    intro w
    have := (FP.Core.units_below A B e q 23).mp w
    rw [show q - e + ((23 : Nat) : Int) = L by omega] at this
    exact l1 this
  have u2 : FP.Core.unitsNum A e q < 2 ^ 24 * FP.Core.unitsDen B e q := by
    apply (FP.Core.units_below A B e q 24).mpr
    rw [show q - e + ((24 : Nat) : Int) = L + 1 by omega]
    exact l2
  have n1 := FP.Core.nearest_ge hD u1
  have n2 := FP.Core.nearest_le hD (Nat.le_of_lt u2)
  unfold FP.Core.roundRatio FP.Core.roundAt
  rw [if_neg (by omega), hqu]
  generalize FP.Core.nearest (FP.Core.unitsNum A e q) (FP.Core.unitsDen B e q) = m at *
  unfold FP.Core.settle FP.Core.bound
  rw [a2, a3, a5]
  by_cases e2 : m < 2 ^ 24
  · rw [if_pos e2, if_pos (by omega)]
    exact ⟨m, q, rfl, by omega, by omega, by omega, by omega⟩
  · rw [if_neg e2, if_pos (by omega)]
    exact ⟨8388608, q + 1, rfl, by omega, by omega, by omega, by omega⟩
theorem lead_rg {A B : Nat} (hA : 0 < A) (hB : 0 < B) {x y : Nat} (h1 : A < B * 2 ^ x) (h2 : B ≤ A * 2 ^ y) : -(y : Int) ≤ FP.Core.leading A B ∧ FP.Core.leading A B < x := by
  obtain ⟨l1, l2⟩ := FP.Core.leading_spec hA hB
  constructor
  · have : ¬ FP.Core.Below A B (((0 : Nat) : Int) - (y : Nat)) := by
      rw [FP.Core.below_iff]; omega
    have := FP.Core.lt_of_below this l2
    omega
  · have : FP.Core.Below A B (((x : Nat) : Int) - (0 : Nat)) := by
      rw [FP.Core.below_iff]; omega
    have := FP.Core.lt_of_below l1 this
    omega
theorem l2f_ok {a : Int} (h0 : a ≠ 0) (ha : a.natAbs < 2147483648) : ∃ c q, FP.Core.val32 (FP.l2f (jl a)) = .fin (decide (a < 0)) c q ∧ 8388608 ≤ c ∧ c < 16777216 ∧ -23 ≤ q ∧ q ≤ 9 := by
  have e1 : FP.Core.val32 (FP.l2f (jl a)) = FP.Core.roundRatio FP.Core.b32 (decide (a < 0)) a.natAbs 1 0 := by
    show FP.Core.val32 (FP.Core.l2f (jl a)) = _
    rw [FP.Core.val32_l2f, jl_toInt ⟨by omega, by omega⟩]; rfl
  have hl := lead_rg (A := a.natAbs) (B := 1) (x := 31) (y := 0) (by omega) (by omega) (by omega) (by omega)
  obtain ⟨c, q, h1, h2, h3, h4, h5⟩ := nrm (s := decide (a < 0)) (A := a.natAbs) (B := 1) (e := 0) (by omega) (by omega) (by omega) (by omega)
  exact ⟨c, q, by rw [e1, h1], h2, h3, by omega, by omega⟩
theorem fq_ok {u v : Int} (hu : u.natAbs < 2147483648) (hv : 0 < v ∧ v < 2147483648) : nn32 (FP.fdiv (FP.l2f (jl u)) (FP.l2f (jl v))) = true ∧ (FP.fdiv (FP.l2f (jl u)) (FP.l2f (jl v)) = FP.fconst0 ∨ ∃ s c q, Vn (FP.fdiv (FP.l2f (jl u)) (FP.l2f (jl v))) s c q) := by
  obtain ⟨d, r, d1, d2, d3, d4, d5⟩ := l2f_ok (a := v) (by omega) (by omega)
  have hdv : decide (v < 0) = false := decide_eq_false (by omega)
  rw [hdv] at d1
  by_cases h0 : u = 0
  · have e1 : FP.Core.val32 (FP.l2f (jl u)) = .fin false 0 (-149) := by
      rw [h0]; decide +kernel
    have e2 : FP.Core.val32 (FP.fdiv (FP.l2f (jl u)) (FP.l2f (jl v))) = .fin false 0 (-149) := by
      show FP.Core.val32 (FP.Core.fdiv _ _) = _
      rw [FP.Core.val32_fdiv, e1, d1]
      show (if d = 0 then (if 0 = 0 then FP.Core.Datum.nan else FP.Core.Datum.inf (false != false)) else FP.Core.roundRatio FP.Core.b32 (false != false) 0 d (-149 - r)) = _
      rw [if_neg (by omega)]
      rfl
    refine ⟨nn_of (by rw [e2]; intro w; cases w), Or.inl (FP.Core.val32_inj (by rw [e2]; intro w; cases w) (e2.trans v_c0.symm))⟩
  · obtain ⟨c, q, c1, c2, c3, c4, c5⟩ := l2f_ok h0 hu
    have hl := lead_rg (A := c) (B := d) (x := 1) (y := 1) (by omega) (by omega) (by omega) (by omega)
    obtain ⟨c', q', h1, h2, h3, h4, h5⟩ := nrm (s := (decide (u < 0) != false)) (A := c) (B := d) (e := q - r) (by omega) (by omega) (by omega) (by omega)
    have e2 : Vn (FP.fdiv (FP.l2f (jl u)) (FP.l2f (jl v))) (decide (u < 0) != false) c' q' := by
      refine ⟨?_, h2, h3, by omega, by omega⟩
      show FP.Core.val32 (FP.Core.fdiv _ _) = _
      rw [FP.Core.val32_fdiv, c1, d1]
      show (if d = 0 then (if c = 0 then FP.Core.Datum.nan else FP.Core.Datum.inf (decide (u < 0) != false)) else FP.Core.roundRatio FP.Core.b32 (decide (u < 0) != false) c d (q - r)) = _
      rw [if_neg (by omega), h1]
    exact ⟨Vn_nn e2, Or.inr ⟨_, _, _, e2⟩⟩
