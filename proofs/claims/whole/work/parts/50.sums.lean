-- ===== sums over the first places =====
/-- the places but for one, in their order -/
def sk (k i : Nat) : Nat := if i < k then i else i + 1
theorem sk_lt {k i : Nat} (h : i < k) : sk k i = i := by simp [sk, h]
theorem sk_ge {k i : Nat} (h : k ≤ i) : sk k i = i + 1 := by simp [sk]; omega
theorem sk_ne (k i : Nat) : sk k i ≠ k := by unfold sk; split <;> omega
theorem sk_bd {k i n : Nat} (h : i < n) : sk k i < n + 1 := by unfold sk; split <;> omega
theorem sk_ex {k j n : Nat} (h : j ≠ k) (hj : j < n + 1) (hk : k ≤ n) : ∃ i, i < n ∧ sk k i = j := by
  by_cases e : j < k
  · exact ⟨j, by omega, sk_lt e⟩
  · exact ⟨j - 1, by omega, by rw [sk_ge (by omega)]; omega⟩
theorem sk_inj {k i j : Nat} (h : sk k i = sk k j) : i = j := by
  unfold sk at h; split at h <;> split at h <;> omega
def sZ : Nat → (Nat → Int) → Int
  | 0, _ => 0
  | n + 1, f => sZ n f + f n
theorem sZ_s (n : Nat) (f : Nat → Int) : sZ (n + 1) f = sZ n f + f n := rfl
theorem sZ_congr {f g : Nat → Int} : ∀ {n : Nat}, (∀ i, i < n → f i = g i) → sZ n f = sZ n g := by
  intro n
  induction n with
  | zero => intro _; rfl
  | succ n ih => intro h; rw [sZ_s, sZ_s, ih (fun i hi => h i (by omega)), h n (by omega)]
theorem sZ_add (f g : Nat → Int) : ∀ n : Nat, sZ n (fun i => f i + g i) = sZ n f + sZ n g := by
  intro n
  induction n with
  | zero => show (0 : Int) = 0 + 0; grind
  | succ n ih => rw [sZ_s, sZ_s, sZ_s, ih]; grind
theorem sZ_mul (c : Int) (f : Nat → Int) : ∀ n : Nat, sZ n (fun i => c * f i) = c * sZ n f := by
  intro n
  induction n with
  | zero => show (0 : Int) = c * 0; grind
  | succ n ih => rw [sZ_s, sZ_s, ih]; grind
theorem sZ_mulr (c : Int) (f : Nat → Int) (n : Nat) : sZ n (fun i => f i * c) = sZ n f * c := by
  rw [sZ_congr (g := fun i => c * f i) (fun i _ => by grind), sZ_mul]; grind
theorem sZ_neg (f : Nat → Int) (n : Nat) : sZ n (fun i => - f i) = - sZ n f := by
  rw [sZ_congr (g := fun i => (-1) * f i) (fun i _ => by grind), sZ_mul]; grind
theorem sZ_sub (f g : Nat → Int) (n : Nat) : sZ n (fun i => f i - g i) = sZ n f - sZ n g := by
  rw [sZ_congr (g := fun i => f i + (- g i)) (fun i _ => by grind), sZ_add, sZ_neg]; grind
theorem sZ_zero {f : Nat → Int} : ∀ {n : Nat}, (∀ i, i < n → f i = 0) → sZ n f = 0 := by
  intro n
  induction n with
  | zero => intro _; rfl
  | succ n ih => intro h; rw [sZ_s, ih (fun i hi => h i (by omega)), h n (by omega)]; grind
theorem sZ_one {f : Nat → Int} {k : Nat} : ∀ {n : Nat}, k < n → (∀ i, i < n → i ≠ k → f i = 0) → sZ n f = f k := by
  intro n
  induction n with
  | zero => intro h; omega
  | succ n ih =>
    intro hk h
    rw [sZ_s]
    by_cases e : n = k
    · subst e
      rw [sZ_zero (fun i hi => h i (by omega) (by omega))]; grind
    · rw [ih (by omega) (fun i hi => h i (by omega)), h n (by omega) e]; grind
theorem sZ_comm (f : Nat → Nat → Int) (m : Nat) : ∀ n : Nat, sZ n (fun i => sZ m (fun j => f i j)) = sZ m (fun j => sZ n (fun i => f i j)) := by
  intro n
  induction n with
  | zero => exact (sZ_zero (f := fun j => sZ 0 (fun i => f i j)) (n := m) (fun j _ => rfl)).symm
  | succ n ih =>
    rw [sZ_s, ih, ← sZ_add]
    rfl
theorem sZ_le {f g : Nat → Int} : ∀ {n : Nat}, (∀ i, i < n → f i ≤ g i) → sZ n f ≤ sZ n g := by
  intro n
  induction n with
  | zero => intro _; show (0 : Int) ≤ 0; grind
  | succ n ih =>
    intro h
    have h1 := ih (fun i hi => h i (by omega))
    have h2 := h n (by omega)
    rw [sZ_s, sZ_s]; grind
theorem sZ_nonneg {f : Nat → Int} {n : Nat} (h : ∀ i, i < n → 0 ≤ f i) : 0 ≤ sZ n f := by
  have := sZ_le (f := fun _ => (0 : Int)) h
  rwa [sZ_zero (fun _ _ => rfl)] at this
/-- one term of a sum of such as are not negative -/
theorem sZ_term {f : Nat → Int} {k : Nat} : ∀ {n : Nat}, (∀ i, i < n → 0 ≤ f i) → k < n → f k ≤ sZ n f := by
  intro n
  induction n with
  | zero => intro _ h; omega
  | succ n ih =>
    intro h hk
    have h1 := h n (by omega)
    have h2 := sZ_nonneg (n := n) (fun i hi => h i (by omega))
    rw [sZ_s]
    by_cases e : k = n
    · subst e; grind
    · have := ih (fun i hi => h i (by omega)) (by omega)
      grind
/-- a sum by one of its places and the others -/
theorem sZ_skip (f : Nat → Int) : ∀ (n k : Nat), k ≤ n → sZ (n + 1) f = f k + sZ n (fun r => f (sk k r)) := by
  intro n
  induction n with
  | zero => intro k hk; obtain rfl : k = 0 := by omega
            show (0 : Int) + f 0 = f 0 + 0; grind
  | succ n ih =>
    intro k hk
    rw [sZ_s (n + 1)]
    by_cases e : k = n + 1
    · subst e
      rw [sZ_congr (n := n + 1) (f := fun r => f (sk (n + 1) r)) (g := f) (fun i hi => by simp [sk, hi])]; grind
    · rw [ih k (by omega), sZ_s n]
      have : sk k n = n + 1 := by simp [sk]; omega
      rw [this]; grind
def sQ : Nat → (Nat → Rat) → Rat
  | 0, _ => 0
  | n + 1, f => sQ n f + f n
theorem sQ_s (n : Nat) (f : Nat → Rat) : sQ (n + 1) f = sQ n f + f n := rfl
theorem sQ_congr {f g : Nat → Rat} : ∀ {n : Nat}, (∀ i, i < n → f i = g i) → sQ n f = sQ n g := by
  intro n
  induction n with
  | zero => intro _; rfl
  | succ n ih => intro h; rw [sQ_s, sQ_s, ih (fun i hi => h i (by omega)), h n (by omega)]
theorem sQ_add (f g : Nat → Rat) : ∀ n : Nat, sQ n (fun i => f i + g i) = sQ n f + sQ n g := by
  intro n
  induction n with
  | zero => show (0 : Rat) = 0 + 0; grind
  | succ n ih => rw [sQ_s, sQ_s, sQ_s, ih]; grind
theorem sQ_mul (c : Rat) (f : Nat → Rat) : ∀ n : Nat, sQ n (fun i => c * f i) = c * sQ n f := by
  intro n
  induction n with
  | zero => show (0 : Rat) = c * 0; grind
  | succ n ih => rw [sQ_s, sQ_s, ih]; grind
theorem sQ_mulr (c : Rat) (f : Nat → Rat) (n : Nat) : sQ n (fun i => f i * c) = sQ n f * c := by
  rw [sQ_congr (g := fun i => c * f i) (fun i _ => by grind), sQ_mul]; grind
theorem sQ_neg (f : Nat → Rat) (n : Nat) : sQ n (fun i => - f i) = - sQ n f := by
  rw [sQ_congr (g := fun i => (-1) * f i) (fun i _ => by grind), sQ_mul]; grind
theorem sQ_sub (f g : Nat → Rat) (n : Nat) : sQ n (fun i => f i - g i) = sQ n f - sQ n g := by
  rw [sQ_congr (g := fun i => f i + (- g i)) (fun i _ => by grind), sQ_add, sQ_neg]; grind
theorem sQ_zero {f : Nat → Rat} : ∀ {n : Nat}, (∀ i, i < n → f i = 0) → sQ n f = 0 := by
  intro n
  induction n with
  | zero => intro _; rfl
  | succ n ih => intro h; rw [sQ_s, ih (fun i hi => h i (by omega)), h n (by omega)]; grind
theorem sQ_one {f : Nat → Rat} {k : Nat} : ∀ {n : Nat}, k < n → (∀ i, i < n → i ≠ k → f i = 0) → sQ n f = f k := by
  intro n
  induction n with
  | zero => intro h; omega
  | succ n ih =>
    intro hk h
    rw [sQ_s]
    by_cases e : n = k
    · subst e
      rw [sQ_zero (fun i hi => h i (by omega) (by omega))]; grind
    · rw [ih (by omega) (fun i hi => h i (by omega)), h n (by omega) e]; grind
theorem sQ_comm (f : Nat → Nat → Rat) (m : Nat) : ∀ n : Nat, sQ n (fun i => sQ m (fun j => f i j)) = sQ m (fun j => sQ n (fun i => f i j)) := by
  intro n
  induction n with
  | zero => exact (sQ_zero (f := fun j => sQ 0 (fun i => f i j)) (n := m) (fun j _ => rfl)).symm
  | succ n ih =>
    rw [sQ_s, ih, ← sQ_add]
    rfl
theorem sQ_le {f g : Nat → Rat} : ∀ {n : Nat}, (∀ i, i < n → f i ≤ g i) → sQ n f ≤ sQ n g := by
  intro n
  induction n with
  | zero => intro _; show (0 : Rat) ≤ 0; grind
  | succ n ih =>
    intro h
    have h1 := ih (fun i hi => h i (by omega))
    have h2 := h n (by omega)
    rw [sQ_s, sQ_s]; grind
theorem sQ_nonneg {f : Nat → Rat} {n : Nat} (h : ∀ i, i < n → 0 ≤ f i) : 0 ≤ sQ n f := by
  have := sQ_le (f := fun _ => (0 : Rat)) h
  rwa [sQ_zero (fun _ _ => rfl)] at this
/-- one term of a sum of such as are not negative -/
theorem sQ_term {f : Nat → Rat} {k : Nat} : ∀ {n : Nat}, (∀ i, i < n → 0 ≤ f i) → k < n → f k ≤ sQ n f := by
  intro n
  induction n with
  | zero => intro _ h; omega
  | succ n ih =>
    intro h hk
    have h1 := h n (by omega)
    have h2 := sQ_nonneg (n := n) (fun i hi => h i (by omega))
    rw [sQ_s]
    by_cases e : k = n
    · subst e; grind
    · have := ih (fun i hi => h i (by omega)) (by omega)
      grind
/-- a sum by one of its places and the others -/
theorem sQ_skip (f : Nat → Rat) : ∀ (n k : Nat), k ≤ n → sQ (n + 1) f = f k + sQ n (fun r => f (sk k r)) := by
  intro n
  induction n with
  | zero => intro k hk; obtain rfl : k = 0 := by omega
            show (0 : Rat) + f 0 = f 0 + 0; grind
  | succ n ih =>
    intro k hk
    rw [sQ_s (n + 1)]
    by_cases e : k = n + 1
    · subst e
      rw [sQ_congr (n := n + 1) (f := fun r => f (sk (n + 1) r)) (g := f) (fun i hi => by simp [sk, hi])]; grind
    · rw [ih k (by omega), sQ_s n]
      have : sk k n = n + 1 := by simp [sk]; omega
      rw [this]; grind
theorem sZQ (f : Nat → Int) : ∀ n : Nat, ((sZ n f : Int) : Rat) = sQ n (fun i => (f i : Rat)) := by
  intro n
  induction n with
  | zero => rfl
  | succ n ih => rw [sZ_s, sQ_s, Rat.intCast_add, ih]
/-- the size of a sum -/
theorem sZ_abs (f : Nat → Int) : ∀ n : Nat, ((sZ n f).natAbs : Int) ≤ sZ n (fun i => ((f i).natAbs : Int)) := by
  intro n
  induction n with
  | zero => show ((0 : Int).natAbs : Int) ≤ 0; omega
  | succ n ih => rw [sZ_s, sZ_s]; omega
