-- ===== leaves of both sides =====
theorem s_ABS (N : Nat) (a : Int) (h : jR a) (σ : ZS) : f_ABS N (jl a) σ = some (jl (if a < 0 then -a else a), σ) := by
  unfold f_ABS
  rw [j_0]
  by_cases q : a < 0
  · rw [if_pos ((jl_lt h ⟨by omega, by omega⟩).mpr q), if_pos q, jl_neg]
  · rw [if_neg (fun w => q ((jl_lt h ⟨by omega, by omega⟩).mp w)), if_neg q]
/-- the loop of Euclid: both sides' -/
theorem gcd_step (a b : Nat) : Nat.gcd b (a % b) = Nat.gcd a b := by
  rw [Nat.gcd_comm a b, Nat.gcd_rec b a, Nat.gcd_comm]
theorem s_within (N : Nat) (x a b : Int) (hx : iR x) (ha : iR a) (hb : iR b) (σ : ZS) : f_X5_within N (nt x) (nt a) (nt b) σ = some (nt (if a ≤ x ∧ x ≤ b then 1 else 0), σ) := by
  unfold f_X5_within
  rw [n_0, n_1]
  by_cases h1 : x < a
  · rw [if_pos ((nt_lt hx ha).mpr h1), if_neg (by omega)]
  · rw [if_neg (fun w => h1 ((nt_lt hx ha).mp w))]
    by_cases h2 : b < x
    · rw [if_pos ((nt_lt hb hx).mpr h2), if_neg (by omega)]
    · rw [if_neg (fun w => h2 ((nt_lt hb hx).mp w)), if_pos (by omega)]
theorem s_in (N : Nat) (x a b : Int) (hx : iR x) (ha : iR a) (hb : iR b) (σ : ZS) : f_X6_in N (nt x) (nt a) (nt b) σ = some (nt (if a ≤ x ∧ x ≤ b then 1 else 0), σ) := by
  unfold f_X6_in
  rw [n_0, n_1]
  by_cases h1 : x < a
  · rw [if_pos ((nt_lt hx ha).mpr h1), if_neg (by omega)]
  · rw [if_neg (fun w => h1 ((nt_lt hx ha).mp w))]
    by_cases h2 : b < x
    · rw [if_pos ((nt_lt hb hx).mpr h2), if_neg (by omega)]
    · rw [if_neg (fun w => h2 ((nt_lt hb hx).mp w)), if_pos (by omega)]
