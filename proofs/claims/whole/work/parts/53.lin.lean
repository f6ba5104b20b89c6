-- ===== rows and vectors over the rationals =====
def ab (x : Rat) : Rat := if x < 0 then -x else x
theorem ab_nn (x : Rat) : 0 ≤ ab x := by unfold ab; split <;> grind
theorem ab_le (x : Rat) : x ≤ ab x := by unfold ab; split <;> grind
theorem ab_ng (x : Rat) : -x ≤ ab x := by unfold ab; split <;> grind
theorem ab_z : ab 0 = 0 := by unfold ab; split <;> grind
theorem ab_neg (x : Rat) : ab (-x) = ab x := by unfold ab; split <;> split <;> grind
theorem ab_of {x : Rat} (h : 0 ≤ x) : ab x = x := by unfold ab; rw [if_neg (by grind)]
theorem ab_iff {x c : Rat} : ab x ≤ c ↔ x ≤ c ∧ -x ≤ c := by unfold ab; split <;> grind
theorem ab_mul (x y : Rat) : ab (x * y) = ab x * ab y := by
  have h1 : ∀ a b : Rat, 0 ≤ a → 0 ≤ b → ab (a * b) = a * b := fun a b ha hb => ab_of (Rat.mul_nonneg ha hb)
  by_cases hx : 0 ≤ x
  · by_cases hy : 0 ≤ y
    · rw [h1 x y hx hy, ab_of hx, ab_of hy]
    · have e : x * y = - (x * (-y)) := by grind
      rw [e, ab_neg, h1 x (-y) hx (by grind), ab_of hx, ← ab_neg y, ab_of (show (0 : Rat) ≤ -y by grind)]
  · by_cases hy : 0 ≤ y
    · have e : x * y = - ((-x) * y) := by grind
      rw [e, ab_neg, h1 (-x) y (by grind) hy, ab_of hy, ← ab_neg x, ab_of (show (0 : Rat) ≤ -x by grind)]
    · have e : x * y = (-x) * (-y) := by grind
      rw [e, h1 (-x) (-y) (by grind) (by grind), ← ab_neg x, ← ab_neg y, ab_of (show (0 : Rat) ≤ -x by grind), ab_of (show (0 : Rat) ≤ -y by grind)]
theorem ab_add (x y : Rat) : ab (x + y) ≤ ab x + ab y := by
  rw [ab_iff]
  have := ab_le x
  have := ab_le y
  have := ab_ng x
  have := ab_ng y
  constructor <;> grind
/-- signs that agree add up -/
theorem ab_agree {x y : Rat} (h : 0 ≤ x * y) : ab (x + y) = ab x + ab y := by
  by_cases hx : 0 ≤ x
  · by_cases hy : 0 ≤ y
    · rw [ab_of hx, ab_of hy, ab_of (by grind)]
    · by_cases h0 : x = 0
      · subst h0; rw [ab_z]; rw [show (0 : Rat) + y = y by grind]; grind
      · have h1 : 0 < x * (-y) := Rat.mul_pos (by grind) (by grind)
        grind
  · by_cases hy : 0 ≤ y
    · by_cases h0 : y = 0
      · subst h0; rw [ab_z]; rw [show x + (0 : Rat) = x by grind]; grind
      · have h1 : 0 < (-x) * y := Rat.mul_pos (by grind) (by grind)
        grind
    · rw [← ab_neg x, ← ab_neg y, ← ab_neg (x + y), ab_of (show (0 : Rat) ≤ -x by grind), ab_of (show (0 : Rat) ≤ -y by grind), ab_of (by grind)]; grind
def dq (d : Nat) (a b : Nat → Rat) : Rat := sQ d (fun j => a j * b j)
theorem dq_congr {d : Nat} {a b a' b' : Nat → Rat} (ha : ∀ j, j < d → a j = a' j) (hb : ∀ j, j < d → b j = b' j) : dq d a b = dq d a' b' := sQ_congr (fun j hj => by rw [ha j hj, hb j hj])
theorem dq_comm (d : Nat) (a b : Nat → Rat) : dq d a b = dq d b a := sQ_congr (fun j _ => by grind)
theorem dq_lin (d : Nat) (a x y : Nat → Rat) (s t : Rat) : dq d a (fun j => s * x j + t * y j) = s * dq d a x + t * dq d a y := by
  unfold dq
  rw [← sQ_mul, ← sQ_mul, ← sQ_add]
  exact sQ_congr (fun j _ => by grind)
theorem dq_mul (d : Nat) (a x : Nat → Rat) (s : Rat) : dq d a (fun j => s * x j) = s * dq d a x := by
  unfold dq
  rw [← sQ_mul]
  exact sQ_congr (fun j _ => by grind)
theorem dq_lin_l (d : Nat) (a x y : Nat → Rat) (s t : Rat) : dq d (fun j => s * x j + t * y j) a = s * dq d x a + t * dq d y a := by
  rw [dq_comm, dq_lin, dq_comm d a x, dq_comm d a y]
theorem dq_zero {d : Nat} {a b : Nat → Rat} (h : ∀ j, j < d → b j = 0) : dq d a b = 0 := sQ_zero (fun j hj => by rw [h j hj]; grind)
def uq (k : Nat) : Nat → Rat := fun j => if j = k then 1 else 0
theorem dq_uq {d k : Nat} (hk : k < d) (a : Nat → Rat) : dq d a (uq k) = a k := by
  unfold dq
  rw [sQ_one (k := k) hk (fun i _ h => by rw [show uq k i = 0 from if_neg h]; grind), show uq k k = 1 from if_pos rfl]; grind
/-- how many -/
def cn : Nat → (Nat → Bool) → Nat
  | 0, _ => 0
  | n + 1, s => cn n s + (if s n then 1 else 0)
theorem cn_s (n : Nat) (s : Nat → Bool) : cn (n + 1) s = cn n s + (if s n then 1 else 0) := rfl
theorem cn_congr {s t : Nat → Bool} : ∀ {n : Nat}, (∀ i, i < n → s i = t i) → cn n s = cn n t := by
  intro n
  induction n with
  | zero => intro _; rfl
  | succ n ih => intro h; rw [cn_s, cn_s, ih (fun i hi => h i (by omega)), h n (by omega)]
theorem cn_le {s t : Nat → Bool} : ∀ {n : Nat}, (∀ i, i < n → s i = true → t i = true) → cn n s ≤ cn n t := by
  intro n
  induction n with
  | zero => intro _; exact Nat.le_refl _
  | succ n ih =>
    intro h
    have h1 := ih (fun i hi => h i (by omega))
    have h2 := h n (by omega)
    rw [cn_s, cn_s]
    by_cases e : s n = true
    · rw [if_pos e, if_pos (h2 e)]; omega
    · rw [if_neg e]; omega
theorem cn_lt {s t : Nat → Bool} : ∀ {n : Nat}, (∀ i, i < n → s i = true → t i = true) → (∃ k, k < n ∧ s k = false ∧ t k = true) → cn n s < cn n t := by
  intro n
  induction n with
  | zero => intro _ h; obtain ⟨k, h, _⟩ := h; omega
  | succ n ih =>
    intro h he
    obtain ⟨k, hk, h1, h2⟩ := he
    rw [cn_s, cn_s]
    by_cases e : k = n
    · subst e
      have := cn_le (n := k) (fun i hi => h i (by omega))
      rw [h1, h2]; simp; omega
    · have := ih (fun i hi => h i (by omega)) ⟨k, by omega, h1, h2⟩
      have h3 := h n (by omega)
      by_cases e : s n = true
      · rw [if_pos e, if_pos (h3 e)]; omega
      · rw [if_neg e]; omega
theorem cn_bd (s : Nat → Bool) : ∀ n : Nat, cn n s ≤ n := by
  intro n
  induction n with
  | zero => exact Nat.le_refl _
  | succ n ih => rw [cn_s]; split <;> omega
theorem cn_add {s : Nat → Bool} {k : Nat} : ∀ {n : Nat}, k < n → s k = false → cn n (fun i => s i || i == k) = cn n s + 1 := by
  intro n
  induction n with
  | zero => intro h; omega
  | succ n ih =>
    intro hk hs
    rw [cn_s, cn_s]
    by_cases e : k = n
    · subst e
      rw [cn_congr (s := fun i => s i || i == k) (t := s) (fun i hi => by simp; omega), hs]; simp
    · rw [ih (by omega) hs]
      have : (n == k) = false := by simp; omega
      rw [this, Bool.or_false]; omega
theorem cn_del {s : Nat → Bool} {k : Nat} {n : Nat} (hk : k < n) (hs : s k = true) : cn n (fun i => s i && !(i == k)) + 1 = cn n s := by
  have h := cn_add (s := fun i => s i && !(i == k)) (n := n) hk (by simp)
  rw [← h]
  refine cn_congr (fun i hi => ?_)
  by_cases e : i = k
  · subst e; simp [hs]
  · have : (i == k) = false := by simp [e]
    rw [this]; simp
theorem cn_ex {s : Nat → Bool} : ∀ {n : Nat}, 0 < cn n s → ∃ k, k < n ∧ s k = true := by
  intro n
  induction n with
  | zero => intro h; exact absurd h (Nat.lt_irrefl 0)
  | succ n ih =>
    intro h
    rw [cn_s] at h
    by_cases e : s n = true
    · exact ⟨n, by omega, e⟩
    · rw [if_neg e] at h
      obtain ⟨k, hk, h2⟩ := ih h
      exact ⟨k, by omega, h2⟩
def us (k j : Nat) : Nat := if j < k then j else j - 1
theorem us_sk (k r : Nat) : us k (sk k r) = r := by
  by_cases h : r < k
  · rw [sk_lt h]; simp [us, h]
  · rw [sk_ge (by omega)]; simp [us]; omega
/-- fewer rules than unknowns -/
theorem li_ker : ∀ (N d : Nat) (A : Nat → Nat → Rat) (s : Nat → Bool), cn N s < d → ∃ q : Nat → Rat, (∃ j, j < d ∧ q j ≠ 0) ∧ ∀ i, i < N → s i = true → dq d (A i) q = 0 := by
  intro N
  induction N with
  | zero =>
    intro d A s h
    exact ⟨uq 0, ⟨0, by omega, by rw [show uq 0 0 = 1 from if_pos rfl]; decide⟩, fun i hi => by omega⟩
  | succ N ih =>
    intro d A s h
    rw [cn_s] at h
    by_cases e : s N = true
    · rw [if_pos e] at h
      by_cases hz : ∀ j, j < d → A N j = 0
      · obtain ⟨q, hq, h2⟩ := ih d A s (by omega)
        refine ⟨q, hq, fun i hi hs => ?_⟩
        by_cases e2 : i = N
        · subst e2; rw [dq_comm]; exact dq_zero hz
        · exact h2 i (by omega) hs
      · obtain ⟨k, hk0⟩ := Classical.not_forall.mp hz
        obtain ⟨hkd, hk⟩ := Classical.not_imp.mp hk0
        clear hk0
        obtain ⟨d, rfl⟩ : ∃ m, d = m + 1 := ⟨d - 1, by omega⟩
        obtain ⟨q, ⟨j, hj, hqj⟩, h2⟩ := ih d (fun i r => A i (sk k r) - A i k * (A N k)⁻¹ * A N (sk k r)) s (by omega)
        have hi : A N k * (A N k)⁻¹ = 1 := Rat.mul_inv_cancel _ hk
        generalize (A N k)⁻¹ = w at hi h2
        have hx : ∀ B : Nat → Rat, dq (d + 1) B (fun j => if j = k then - (w * sQ d (fun r => A N (sk k r) * q r)) else q (us k j)) = - (B k * w * sQ d (fun r => A N (sk k r) * q r)) + sQ d (fun r => B (sk k r) * q r) := by
          intro B
          unfold dq
          rw [sQ_skip _ d k (by omega)]
          dsimp only
          rw [if_pos rfl]
          have : sQ d (fun r => B (sk k r) * (if sk k r = k then - (w * sQ d (fun r => A N (sk k r) * q r)) else q (us k (sk k r)))) = sQ d (fun r => B (sk k r) * q r) := sQ_congr (fun r _ => by rw [if_neg (sk_ne k r), us_sk])
          rw [this]; grind
        refine ⟨fun j => if j = k then - (w * sQ d (fun r => A N (sk k r) * q r)) else q (us k j), ⟨sk k j, sk_bd hj, by dsimp only; rw [if_neg (sk_ne k j), us_sk]; exact hqj⟩, fun i hi2 hs => ?_⟩
        rw [hx]
        by_cases e2 : i = N
        · subst e2
          rw [hi]; grind
        · have h3 := h2 i (by omega) hs
          unfold dq at h3
          rw [show sQ d (fun j => (A i (sk k j) - A i k * w * A N (sk k j)) * q j) = sQ d (fun r => A i (sk k r) * q r) - A i k * w * sQ d (fun r => A N (sk k r) * q r) from by
            rw [← sQ_mul, ← sQ_sub]; exact sQ_congr (fun r _ => by grind)] at h3
          grind
    · rw [if_neg e] at h
      obtain ⟨q, hq, h2⟩ := ih d A s (by omega)
      refine ⟨q, hq, fun i hi hs => ?_⟩
      by_cases e2 : i = N
      · subst e2; exact absurd hs e
      · exact h2 i (by omega) hs
/-- more columns than rules -/
theorem li_dep : ∀ (d N : Nat) (A : Nat → Nat → Rat) (s : Nat → Bool), d < cn N s → ∃ y : Nat → Rat, (∃ e, e < N ∧ y e ≠ 0) ∧ (∀ e, e < N → s e = false → y e = 0) ∧ ∀ j, j < d → sQ N (fun e => y e * A e j) = 0 := by
  intro d
  induction d with
  | zero =>
    intro N A s h
    obtain ⟨k, hk, hs⟩ := cn_ex h
    refine ⟨uq k, ⟨k, hk, by rw [show uq k k = 1 from if_pos rfl]; decide⟩, fun e he h2 => ?_, fun j hj => by omega⟩
    by_cases e2 : e = k
    · subst e2; rw [hs] at h2; cases h2
    · exact if_neg e2
  | succ d ih =>
    intro N A s h
    by_cases hz : ∀ e, e < N → s e = true → A e d = 0
    · obtain ⟨y, hy, h1, h2⟩ := ih N A s (by omega)
      refine ⟨y, hy, h1, fun j hj => ?_⟩
      by_cases e2 : j = d
      · subst e2
        refine sQ_zero (fun e he => ?_)
        by_cases e3 : s e = true
        · rw [hz e he e3]; grind
        · rw [h1 e he (by simpa using e3)]; grind
      · exact h2 j (by omega)
    · obtain ⟨k, hk⟩ := Classical.not_forall.mp hz
      obtain ⟨hkN, hk⟩ := Classical.not_imp.mp hk
      obtain ⟨hks, hk⟩ := Classical.not_imp.mp hk
      have hdl := cn_del hkN hks
      obtain ⟨y, ⟨e0, he0, hy0⟩, h1, h2⟩ := ih N (fun e j => A e j - A e d * (A k d)⁻¹ * A k j) (fun i => s i && !(i == k)) (by omega)
      have hi : A k d * (A k d)⁻¹ = 1 := Rat.mul_inv_cancel _ hk
      generalize (A k d)⁻¹ = w at hi h2
      have hyk : y k = 0 := h1 k hkN (by simp)
      have hx : ∀ j, sQ N (fun e => (if e = k then - (w * sQ N (fun e => y e * A e d)) else y e) * A e j) = sQ N (fun e => y e * A e j) - w * sQ N (fun e => y e * A e d) * A k j := by
        intro j
        have h5 : sQ N (fun e => (if e = k then - (w * sQ N (fun e => y e * A e d)) else 0) * A e j) = - (w * sQ N (fun e => y e * A e d)) * A k j := by
          rw [sQ_one (k := k) hkN (fun i _ h => by rw [if_neg h]; grind), if_pos rfl]
        have h6 : sQ N (fun e => (if e = k then - (w * sQ N (fun e => y e * A e d)) else y e) * A e j) = sQ N (fun e => y e * A e j) + sQ N (fun e => (if e = k then - (w * sQ N (fun e => y e * A e d)) else 0) * A e j) := by
          rw [← sQ_add]
          refine sQ_congr (fun e he => ?_)
          by_cases e2 : e = k
          · subst e2; rw [if_pos rfl, hyk]; grind
          · rw [if_neg e2, if_neg e2]; grind
        rw [h6, h5]; grind
      refine ⟨fun e => if e = k then - (w * sQ N (fun e => y e * A e d)) else y e, ⟨e0, he0, ?_⟩, fun e he hs => ?_, fun j hj => ?_⟩
      · dsimp only
        by_cases e2 : e0 = k
        · subst e2; exact absurd hyk hy0
        · rw [if_neg e2]; exact hy0
      · dsimp only
        by_cases e2 : e = k
        · subst e2; rw [hks] at hs; cases hs
        · rw [if_neg e2]; exact h1 e he (by rw [hs]; rfl)
      · rw [hx]
        by_cases e2 : j = d
        · subst e2; grind
        · have h3 := h2 j (by omega)
          rw [show sQ N (fun e => y e * (A e j - A e d * w * A k j)) = sQ N (fun e => y e * A e j) - w * A k j * sQ N (fun e => y e * A e d) from by
            rw [← sQ_mul, ← sQ_sub]; exact sQ_congr (fun r _ => by grind)] at h3
          grind
