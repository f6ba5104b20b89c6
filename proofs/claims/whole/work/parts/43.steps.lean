-- ===== one step of a pure method: words with side goals for omega =====
theorem le_t {α : Type} {a b : Int} {x y : α} (h : a ≤ b) (h1 : -2147483648 ≤ a) (h2 : b < 2147483648) : (if nt a ≤ nt b then x else y) = x := if_pos ((nt_le ⟨h1, by omega⟩ ⟨by omega, h2⟩).mpr h)
theorem le_f {α : Type} {a b : Int} {x y : α} (h : b < a) (h1 : -2147483648 ≤ b) (h2 : a < 2147483648) : (if nt a ≤ nt b then x else y) = y := if_neg (fun w => by have := (nt_le ⟨by omega, h2⟩ ⟨h1, by omega⟩).mp w; omega)
theorem lt_t {α : Type} {a b : Int} {x y : α} (h : a < b) (h1 : -2147483648 ≤ a) (h2 : b < 2147483648) : (if nt a < nt b then x else y) = x := if_pos ((nt_lt ⟨h1, by omega⟩ ⟨by omega, h2⟩).mpr h)
theorem lt_f {α : Type} {a b : Int} {x y : α} (h : b ≤ a) (h1 : -2147483648 ≤ b) (h2 : a < 2147483648) : (if nt a < nt b then x else y) = y := if_neg (fun w => by have := (nt_lt ⟨by omega, h2⟩ ⟨h1, by omega⟩).mp w; omega)
theorem eq_t {α : Type} {a b : Int} {x y : α} (h : a = b) : (if nt a = nt b then x else y) = x := if_pos (by rw [h])
theorem eq_f {α : Type} {a b : Int} {x y : α} (h : a ≠ b) (h1 : -2147483648 ≤ a) (h2 : a < 2147483648) (h3 : -2147483648 ≤ b) (h4 : b < 2147483648) : (if nt a = nt b then x else y) = y := if_neg (fun w => h ((nt_eq ⟨h1, h2⟩ ⟨h3, h4⟩).mp w))
theorem jle_t {α : Type} {a b : Int} {x y : α} (h : a ≤ b) (h1 : -9223372036854775808 ≤ a) (h2 : b < 9223372036854775808) : (if jl a ≤ jl b then x else y) = x := if_pos ((jl_le ⟨h1, by omega⟩ ⟨by omega, h2⟩).mpr h)
theorem jle_f {α : Type} {a b : Int} {x y : α} (h : b < a) (h1 : -9223372036854775808 ≤ b) (h2 : a < 9223372036854775808) : (if jl a ≤ jl b then x else y) = y := if_neg (fun w => by have := (jl_le ⟨by omega, h2⟩ ⟨h1, by omega⟩).mp w; omega)
theorem jlt_t {α : Type} {a b : Int} {x y : α} (h : a < b) (h1 : -9223372036854775808 ≤ a) (h2 : b < 9223372036854775808) : (if jl a < jl b then x else y) = x := if_pos ((jl_lt ⟨h1, by omega⟩ ⟨by omega, h2⟩).mpr h)
theorem jlt_f {α : Type} {a b : Int} {x y : α} (h : b ≤ a) (h1 : -9223372036854775808 ≤ b) (h2 : a < 9223372036854775808) : (if jl a < jl b then x else y) = y := if_neg (fun w => by have := (jl_lt ⟨by omega, h2⟩ ⟨h1, by omega⟩).mp w; omega)
theorem jeq_t {α : Type} {a b : Int} {x y : α} (h : a = b) : (if jl a = jl b then x else y) = x := if_pos (by rw [h])
theorem jeq_f {α : Type} {a b : Int} {x y : α} (h : a ≠ b) (h1 : -9223372036854775808 ≤ a) (h2 : a < 9223372036854775808) (h3 : -9223372036854775808 ≤ b) (h4 : b < 9223372036854775808) : (if jl a = jl b then x else y) = y := if_neg (fun w => h ((jl_eq ⟨h1, h2⟩ ⟨h3, h4⟩).mp w))
theorem ck_inb {α : Type} {a : Int} {n : Nat} {x : Option α} (h : 0 ≤ a) (h1 : a < (n : Int)) (h2 : a < 2147483648) : ck (inb (nt a) n) x = x := ck_of (by rw [inb_nt ⟨by omega, h2⟩]; simp; omega) x
theorem ck_tg {α : Type} {c k : Nat} {x : Option α} (h : tg c = k) : ck (tg c == k) x = x := ck_of (by simp [h]) x
theorem ck_isc {α : Type} {c k : Nat} {x : Option α} (h : tg c = 0) (h1 : ln c = k) : ck (isc c k) x = x := ck_of (by simp [isc, h, h1]) x
theorem ck_j0 {α : Type} {a : Int} {x : Option α} (h : a ≠ 0) (h1 : -9223372036854775808 ≤ a) (h2 : a < 9223372036854775808) : ck (!(jl a == 0)) x = x := ck_of (by
  have : ¬ jl a = jl 0 := fun w => h ((jl_eq ⟨h1, h2⟩ ⟨by omega, by omega⟩).mp w)
  simpa [j_0] using this) x
theorem ck_n0 {α : Type} {a : Int} {x : Option α} (h : a ≠ 0) (h1 : -2147483648 ≤ a) (h2 : a < 2147483648) : ck (!(nt a == 0)) x = x := ck_of (by
  have : ¬ nt a = nt 0 := fun w => h ((nt_eq ⟨h1, h2⟩ ⟨by omega, by omega⟩).mp w)
  simpa [n_0] using this) x
theorem bb_nt {α : Type} {a : Int} {x : Option α} (h : a = 0 ∨ a = 1) : ck (bb (nt a)) x = x := ck_of (by rcases h with rfl | rfl <;> rfl) x
theorem nat_nt {a : Int} (h1 : -2147483648 ≤ a) (h2 : a < 2147483648) : (nt a).toNatClampNeg = a.toNat := nt_nat ⟨h1, h2⟩
theorem nat_k {k : Nat} (h : (k : Int) < 2147483648) : (nt k).toNatClampNeg = k := by rw [nt_nat ⟨by omega, h⟩]; omega
theorem long_nt {a : Int} (h1 : -2147483648 ≤ a) (h2 : a < 2147483648) : (nt a).toInt64 = jl a := nt_long ⟨h1, h2⟩
/-- a loop that goes up through its states -/
theorem lp_go {τ ρ : Type} (C : Nat → Nat → τ → Option ρ) (S : Nat → τ) (hi : Nat) (step : ∀ n k, k < hi → C (n + 1) k (S k) = C n (k + 1) (S (k + 1))) : ∀ (j lo n : Nat), lo + j = hi → j ≤ n → C n lo (S lo) = C (n - j) hi (S hi) := by
  intro j
  induction j with
  | zero => intro lo n h _; obtain rfl : lo = hi := by omega
            rfl
  | succ j ih =>
    intro lo n h hn
    obtain ⟨n, rfl⟩ : ∃ m, n = m + 1 := ⟨n - 1, by omega⟩
    rw [step n lo (by omega), ih (lo + 1) n (by omega) (by omega), show n + 1 - (j + 1) = n - j by omega]
/-- the same by an invariant -/
theorem lp_inv {τ ρ : Type} (C : Nat → Nat → τ → Option ρ) (I : Nat → τ → Prop) (hi : Nat) (step : ∀ n k s, k < hi → I k s → ∃ s', C (n + 1) k s = C n (k + 1) s' ∧ I (k + 1) s') : ∀ (j lo n : Nat) (s : τ), lo + j = hi → j ≤ n → I lo s → ∃ s', C n lo s = C (n - j) hi s' ∧ I hi s' := by
  intro j
  induction j with
  | zero => intro lo n s h _ hI; obtain rfl : lo = hi := by omega
            exact ⟨s, rfl, hI⟩
  | succ j ih =>
    intro lo n s h hn hI
    obtain ⟨n, rfl⟩ : ∃ m, n = m + 1 := ⟨n - 1, by omega⟩
    obtain ⟨s1, e1, h1⟩ := step n lo s (by omega) hI
    obtain ⟨s2, e2, h2⟩ := ih (lo + 1) n s1 (by omega) (by omega) h1
    exact ⟨s2, by rw [e1, e2, show n + 1 - (j + 1) = n - j by omega], h2⟩
/-- the first places of a cell written -/
def wI (σ : ZS) (c n : Nat) (v : Nat → Int32) : ZS := (fun a k => if a = c ∧ k < n then v k else σ.1 a k, σ.2)
def wJ (σ : ZS) (c n : Nat) (v : Nat → Int64) : ZS := (σ.1, fun a k => if a = c ∧ k < n then v k else σ.2 a k)
theorem wI_0 (σ : ZS) (c : Nat) (v : Nat → Int32) : wI σ c 0 v = σ := by
  unfold wI
  simp
theorem wJ_0 (σ : ZS) (c : Nat) (v : Nat → Int64) : wJ σ c 0 v = σ := by
  unfold wJ
  simp
theorem wI_s (σ : ZS) (c n : Nat) (v : Nat → Int32) : sI (wI σ c n v) c n (v n) = wI σ c (n + 1) v := by
  unfold wI sI
  congr 1
  funext a k
  by_cases h : a = c
  · subst h
    by_cases h2 : k = n
    · subst h2; simp [upd]
    · by_cases h3 : k < n
      · simp [upd, h2, h3, show k < n + 1 by omega]
      · simp [upd, h2, h3, show ¬ k < n + 1 by omega]
  · simp [h]
theorem wJ_s (σ : ZS) (c n : Nat) (v : Nat → Int64) : sJ (wJ σ c n v) c n (v n) = wJ σ c (n + 1) v := by
  unfold wJ sJ
  congr 1
  funext a k
  by_cases h : a = c
  · subst h
    by_cases h2 : k = n
    · subst h2; simp [vp_updL]
    · by_cases h3 : k < n
      · simp [vp_updL, h2, h3, show k < n + 1 by omega]
      · simp [vp_updL, h2, h3, show ¬ k < n + 1 by omega]
  · simp [h]
theorem gI_wI (σ : ZS) (c n : Nat) (v : Nat → Int32) (c' k' : Nat) : gI (wI σ c n v) c' k' = if c' = c ∧ k' < n then v k' else gI σ c' k' := rfl
theorem gJ_wJ (σ : ZS) (c n : Nat) (v : Nat → Int64) (c' k' : Nat) : gJ (wJ σ c n v) c' k' = if c' = c ∧ k' < n then v k' else gJ σ c' k' := rfl
theorem gI_wJ (σ : ZS) (c n : Nat) (v : Nat → Int64) (c' k' : Nat) : gI (wJ σ c n v) c' k' = gI σ c' k' := rfl
theorem gJ_wI (σ : ZS) (c n : Nat) (v : Nat → Int32) (c' k' : Nat) : gJ (wI σ c n v) c' k' = gJ σ c' k' := rfl
-- the rows of cells
theorem tg_rows {k : Nat} (h : k < 78) : tg (65 + k) = 2 := by unfold tg; repeat' (first | rfl | (exfalso; omega) | split)
theorem ln_rows {k : Nat} (h : k < 78) : ln (65 + k) = 26 := by unfold ln; repeat' (first | rfl | (exfalso; omega) | split)
theorem tg_mot {k : Nat} (h : k < 924) : tg (143 + k) = 2 := by unfold tg; repeat' (first | rfl | (exfalso; omega) | split)
theorem ln_mot {k : Nat} (h : k < 924) : ln (143 + k) = 26 := by unfold ln; repeat' (first | rfl | (exfalso; omega) | split)
theorem tg_work {k : Nat} (h : k < 3) : tg (62 + k) = 2 := by unfold tg; repeat' (first | rfl | (exfalso; omega) | split)
theorem ln_work {k : Nat} (h : k < 3) : ln (62 + k) = 924 := by unfold ln; repeat' (first | rfl | (exfalso; omega) | split)
theorem tg_shift {k : Nat} (h : k < 2) : tg (57 + k) = 1 := by unfold tg; repeat' (first | rfl | (exfalso; omega) | split)
theorem ln_shift {k : Nat} (h : k < 2) : ln (57 + k) = 7 := by unfold ln; repeat' (first | rfl | (exfalso; omega) | split)
theorem tg_load {k : Nat} (h : k < 18) : tg (38 + k) = 1 := by unfold tg; repeat' (first | rfl | (exfalso; omega) | split)
theorem ln_load {k : Nat} (h : k < 18) : ln (38 + k) = 7 := by unfold ln; repeat' (first | rfl | (exfalso; omega) | split)
