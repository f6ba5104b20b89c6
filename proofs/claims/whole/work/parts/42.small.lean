-- ===== leaves of both sides =====
theorem s_ABS (N : Nat) (a : Int) (h : jR a) (σ : ZS) : f_ABS N (jl a) σ = some (jl (if a < 0 then -a else a), σ) := by
  unfold f_ABS
  rw [j_0]
  by_cases q : a < 0
  · rw [if_pos ((jl_lt h ⟨by omega, by omega⟩).mpr q), if_pos q, jl_neg]
  · rw [if_neg (fun w => q ((jl_lt h ⟨by omega, by omega⟩).mp w)), if_neg q]
/-- the loop of Euclid: both sides' -/
theorem gcd_step (a b : Nat) : Nat.gcd b (a % b) = Nat.gcd a b := by
  rw [Nat.gcd_comm a b, Nat.gcd_rec b a, Nat.gcd_comm]
theorem s_within (N : Nat) (x a b : Int) (hx : iR x) (ha : iR a) (hb : iR b) (σ : ZS) : f_X5_within N (nt x) (nt a) (nt b) σ = some (nt (if a ≤ x ∧ x ≤ b then 1 else 0), σ) := by
  unfold f_X5_within
  rw [n_0, n_1]
  by_cases h1 : x < a
  · rw [if_pos ((nt_lt hx ha).mpr h1), if_neg (by omega)]
  · rw [if_neg (fun w => h1 ((nt_lt hx ha).mp w))]
    by_cases h2 : b < x
    · rw [if_pos ((nt_lt hb hx).mpr h2), if_neg (by omega)]
    · rw [if_neg (fun w => h2 ((nt_lt hb hx).mp w)), if_pos (by omega)]
theorem s_in (N : Nat) (x a b : Int) (hx : iR x) (ha : iR a) (hb : iR b) (σ : ZS) : f_X6_in N (nt x) (nt a) (nt b) σ = some (nt (if a ≤ x ∧ x ≤ b then 1 else 0), σ) := by
  unfold f_X6_in
  rw [n_0, n_1]
  by_cases h1 : x < a
  · rw [if_pos ((nt_lt hx ha).mpr h1), if_neg (by omega)]
  · rw [if_neg (fun w => h1 ((nt_lt hx ha).mp w))]
    by_cases h2 : b < x
    · rw [if_pos ((nt_lt hb hx).mpr h2), if_neg (by omega)]
    · rw [if_neg (fun w => h2 ((nt_lt hb hx).mp w)), if_pos (by omega)]
def fb : Nat → Nat × Nat
  | 0 => (0, 1)
  | n + 1 => match fb n with
    | (a, b) => (b, a + b)
theorem fb_1 (n : Nat) : (fb (n + 1)).1 = (fb n).2 := rfl
theorem fb_2 (n : Nat) : (fb (n + 1)).2 = (fb n).1 + (fb n).2 := rfl
/-- Euclid's loop of the class ends in time: by Fibonacci's numbers -/
theorem s_gcdl (N : Nat) : ∀ (k n i a b : Nat) (σ : ZS), b < a → a < 2 ^ 63 → (a < (fb (k + 2)).1 ∨ b < (fb (k + 1)).1) → k + i ≤ 99 → k + 1 ≤ n → f_X5_gcd_h15 N n (jl a) (jl b) (nt i) σ = some (jl (Nat.gcd a b), σ) := by
  intro k
  induction k with
  | zero =>
    intro n i a b σ hab ha hf hi hn
    have hb : b = 0 := by
      rcases hf with h | h
      · have h : a < 1 := h
        omega
      · have h : b < 1 := h
        omega
    subst hb
    obtain ⟨n, rfl⟩ : ∃ m, n = m + 1 := ⟨n - 1, by omega⟩
    rw [f_X5_gcd_h15, n_100, if_neg (by rw [nt_le ⟨by omega, by omega⟩ ⟨by omega, by omega⟩]; omega), j_0, if_pos (show jl ((0 : Nat) : Int) = jl 0 from rfl), Nat.gcd_zero_right]
  | succ k ih =>
    intro n i a b σ hab ha hf hi hn
    obtain ⟨n, rfl⟩ : ∃ m, n = m + 1 := ⟨n - 1, by omega⟩
    rw [f_X5_gcd_h15, n_100, if_neg (by rw [nt_le ⟨by omega, by omega⟩ ⟨by omega, by omega⟩]; omega), j_0]
    by_cases hb : b = 0
    · subst hb
      rw [if_pos (show jl ((0 : Nat) : Int) = jl 0 from rfl), Nat.gcd_zero_right]
    · have hbj : ¬ jl (b : Int) = jl 0 := by rw [jl_eq ⟨by omega, by omega⟩ ⟨by omega, by omega⟩]; omega
      rw [if_neg hbj, ck_of (by simp [hbj]), bd_eq, bd_eq, jl_rem ⟨by omega, by omega⟩ ⟨by omega, by omega⟩, n_1, nt_add, ← Int.ofNat_tmod]
      have hr : a % b < b := Nat.mod_lt _ (by omega)
      have h := ih n (i + 1) b (a % b) σ hr (by omega) ?_ (by omega) (by omega)
      · rw [gcd_step] at h
        exact h
      · by_cases hbf : b < (fb (k + 2)).1
        · exact Or.inl hbf
        · right
          have h1 : a < (fb (k + 3)).1 := by
            rcases hf with h | h
            · exact h
            · exact absurd h hbf
          have h2 : (fb (k + 3)).1 = (fb (k + 1)).1 + (fb (k + 2)).1 := by
            rw [fb_1 (k + 2), fb_2 (k + 1), fb_1 (k + 1)]
          have h3 : a % b ≤ a - b := by
            have e := Nat.mod_add_div a b
            have : 1 ≤ a / b := Nat.div_pos (by omega) (by omega)
            have : b * 1 ≤ b * (a / b) := Nat.mul_le_mul_left b this
            omega
          omega
