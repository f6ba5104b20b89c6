-- ===== corners: columns in bounds, some without =====
def fr (n : Nat) (c x : Nat → Rat) : Nat → Bool := fun e => if e < n then decide (ab (x e) < c e) else true
def Ind (N d : Nat) (A : Nat → Nat → Rat) (s : Nat → Bool) : Prop := ∀ y : Nat → Rat, (∀ e, e < N → s e = false → y e = 0) → (∀ j, j < d → sQ N (fun e => y e * A e j) = 0) → ∀ e, e < N → y e = 0
def Fea (n N d : Nat) (A : Nat → Nat → Rat) (c b x : Nat → Rat) : Prop := (∀ e, e < n → ab (x e) ≤ c e) ∧ ∀ j, j < d → sQ N (fun e => x e * A e j) = b j
theorem Ind_mono {N d : Nat} {A : Nat → Nat → Rat} {s t : Nat → Bool} (h : Ind N d A t) (hs : ∀ e, e < N → t e = false → s e = false) : Ind N d A s := fun y hy => h y (fun e he w => hy e he (hs e he w))
theorem bd_up {x y c t : Rat} (hy : 0 < y) (ht : 0 ≤ t) (h : t ≤ (c - x) * (ab y)⁻¹) (h1 : -x ≤ c) : ab (x + t * y) ≤ c := by
  rw [ab_of (Rat.le_of_lt hy)] at h
  have h2 : y * y⁻¹ = 1 := Rat.mul_inv_cancel _ (by grind)
  have h3 := Rat.mul_le_mul_of_nonneg_right h (Rat.le_of_lt hy)
  have h4 := Rat.mul_nonneg ht (Rat.le_of_lt hy)
  generalize y⁻¹ = i at *
  have e : (c - x) * i * y = (c - x) * (y * i) := by grind
  rw [e, h2] at h3
  rw [ab_iff]
  constructor <;> grind
theorem bd_dn {x y c t : Rat} (hy : y < 0) (ht : 0 ≤ t) (h : t ≤ (c + x) * (ab y)⁻¹) (h1 : x ≤ c) : ab (x + t * y) ≤ c := by
  have := bd_up (x := -x) (y := -y) (c := c) (t := t) (by grind) ht (by rw [ab_neg]; have e : c - -x = c + x := by grind
                                                                        rw [e]; exact h) (by grind)
  have e : -x + t * -y = - (x + t * y) := by grind
  rwa [e, ab_neg] at this
theorem bd_at {x y c : Rat} (hy : 0 < y) (h1 : -x < c) (h2 : x < c) : ab (x + (c - x) * (ab y)⁻¹ * y) = c := by
  rw [ab_of (Rat.le_of_lt hy)]
  have h2 : y * y⁻¹ = 1 := Rat.mul_inv_cancel _ (by grind)
  generalize y⁻¹ = i at *
  have e : x + (c - x) * i * y = x + (c - x) * (y * i) := by grind
  rw [e, h2, ab_of (by grind)]
  grind
theorem bd_an {x y c : Rat} (hy : y < 0) (h1 : -x < c) (h2 : x < c) : ab (x + (c + x) * (ab y)⁻¹ * y) = c := by
  have := bd_at (x := -x) (y := -y) (c := c) (by grind) (by grind) (by grind)
  rw [ab_neg y] at this
  have e : -x + (c - -x) * (ab y)⁻¹ * -y = - (x + (c + x) * (ab y)⁻¹ * y) := by grind
  rwa [e, ab_neg] at this
theorem vtx {n N d : Nat} {A : Nat → Nat → Rat} {c b : Nat → Rat} (o : Nat → Rat) (hnN : n ≤ N) (hu : Ind N d A (fun e => decide (n ≤ e))) : ∀ (k : Nat) (x : Nat → Rat), cn N (fr n c x) ≤ k → Fea n N d A c b x → ∃ x', Fea n N d A c b x' ∧ sQ N (fun e => o e * x e) ≤ sQ N (fun e => o e * x' e) ∧ Ind N d A (fr n c x') := by
  intro k
  induction k with
  | zero =>
    intro x hk hx
    refine ⟨x, hx, Rat.le_refl, fun y hy _ e he => hy e he ?_⟩
    cases h : fr n c x e with
    | false => rfl
    | true =>
      have := cn_lt (n := N) (s := fun _ => false) (t := fr n c x) (fun i _ h => by cases h) ⟨e, he, rfl, h⟩
      omega
  | succ k ih =>
    intro x hk hx
    by_cases hI : Ind N d A (fr n c x)
    · exact ⟨x, hx, Rat.le_refl, hI⟩
    · have hg : ∃ y : Nat → Rat, (∀ e, e < N → fr n c x e = false → y e = 0) ∧ (∀ j, j < d → sQ N (fun e => y e * A e j) = 0) ∧ (¬ ∀ e, e < N → y e = 0) ∧ 0 ≤ sQ N (fun e => o e * y e) := by
        obtain ⟨y, hy⟩ := Classical.not_forall.mp hI
        obtain ⟨hy1, hy⟩ := Classical.not_imp.mp hy
        obtain ⟨hy2, hy3⟩ := Classical.not_imp.mp hy
        by_cases hp : 0 ≤ sQ N (fun e => o e * y e)
        · exact ⟨y, hy1, hy2, hy3, hp⟩
        · refine ⟨fun e => - y e, fun e he h => by dsimp only; rw [hy1 e he h]; rfl, fun j hj => ?_, fun w => hy3 (fun e he => by have := w e he; dsimp only at this; grind), ?_⟩
          · rw [sQ_congr (g := fun e => - (y e * A e j)) (fun e _ => by grind), sQ_neg, hy2 j hj]; rfl
          · rw [sQ_congr (g := fun e => - (o e * y e)) (fun e _ => by grind), sQ_neg]; grind
      obtain ⟨y, hy1, hy2, hy3, hyo⟩ := hg
      have hne : ∃ e, e < n ∧ y e ≠ 0 := by
        apply Classical.byContradiction
        intro w
        refine hy3 (hu y (fun e he h => ?_) hy2)
        apply Classical.byContradiction
        intro h0
        exact w ⟨e, by simpa using h, h0⟩
      obtain ⟨e0, he0, hye, hmin⟩ := le_ex (fun e => y e ≠ 0) (fun e => (if 0 < y e then c e - x e else c e + x e) * (ab (y e))⁻¹) n hne
      have hb : ∀ e, e < n → y e ≠ 0 → -x e < c e ∧ x e < c e := by
        intro e he h0
        have h1 : ab (x e) < c e := by
          apply Classical.byContradiction
          intro w
          refine h0 (hy1 e (by omega) ?_)
          unfold fr
          rw [if_pos he]
          simpa using w
        have := ab_le (x e)
        have := ab_ng (x e)
        constructor <;> grind
      have hinv : ∀ e, y e ≠ 0 → 0 < (ab (y e))⁻¹ := by
        intro e h0
        refine Rat.inv_pos.mpr ?_
        have := ab_nn (y e)
        have := ab_le (y e)
        have := ab_ng (y e)
        clear hmin hy1 hy2 hy3 hb hne
        grind
      obtain ⟨t, ht⟩ : ∃ t, t = (if 0 < y e0 then c e0 - x e0 else c e0 + x e0) * (ab (y e0))⁻¹ := ⟨_, rfl⟩
      have ht0 : 0 < t := by
        rw [ht]
        have h1 := hb e0 he0 hye
        refine Rat.mul_pos ?_ (hinv e0 hye)
        clear hmin hy1 hy2 hy3 hb hne hinv
        split <;> grind
      have hx' : Fea n N d A c b (fun e => x e + t * y e) := by
        refine ⟨fun e he => ?_, fun j hj => ?_⟩
        · dsimp only
          by_cases h0 : y e = 0
          · rw [h0, Rat.mul_zero, Rat.add_zero]; exact hx.1 e he
          · have h1 := hmin e he h0
            rw [← ht] at h1
            have h2 := hb e he h0
            by_cases hp : 0 < y e
            · rw [if_pos hp] at h1
              exact bd_up hp (Rat.le_of_lt ht0) h1 (Rat.le_of_lt h2.1)
            · rw [if_neg hp] at h1
              exact bd_dn (by clear hmin hy1 hy2 hy3 hb hne hinv; grind) (Rat.le_of_lt ht0) h1 (Rat.le_of_lt h2.2)
        · rw [sQ_congr (g := fun e => x e * A e j + t * (y e * A e j)) (fun e _ => by grind), sQ_add, sQ_mul, hy2 j hj, hx.2 j hj]; grind
      have h0' : ab (x e0 + t * y e0) = c e0 := by
        have h2 := hb e0 he0 hye
        rw [ht]
        by_cases hp : 0 < y e0
        · rw [if_pos hp]; exact bd_at hp h2.1 h2.2
        · rw [if_neg hp]; exact bd_an (by clear hmin hy1 hy2 hy3 hb hne hinv; grind) h2.1 h2.2
      have hc : cn N (fr n c (fun e => x e + t * y e)) < cn N (fr n c x) := by
        refine cn_lt (fun e he h => ?_) ⟨e0, by omega, ?_, ?_⟩
        · cases h1 : fr n c x e with
          | true => rfl
          | false =>
            have h2 := hy1 e he h1
            have h3 : fr n c (fun e => x e + t * y e) e = fr n c x e := by
              have e1 : x e + t * y e = x e := by rw [h2, Rat.mul_zero, Rat.add_zero]
              simp only [fr, e1]
            rw [h3, h1] at h
            exact h
        · unfold fr
          rw [if_pos he0]
          simp only [h0']
          simp
        · unfold fr
          rw [if_pos he0]
          have h2 := hb e0 he0 hye
          simp only [decide_eq_true_eq]
          have : ab (x e0) ≤ c e0 := hx.1 e0 he0
          rcases (show x e0 < 0 ∨ 0 ≤ x e0 by clear hmin hy1 hy2 hy3 hb hne hinv; grind) with h | h
          · rw [← ab_neg, ab_of (show 0 ≤ - x e0 by clear hmin hy1 hy2 hy3 hb hne hinv; grind)]; exact h2.1
          · rw [ab_of h]; exact h2.2
      obtain ⟨x', w1, w2, w3⟩ := ih _ (by omega) hx'
      refine ⟨x', w1, Rat.le_trans ?_ w2, w3⟩
      rw [sQ_congr (f := fun e => o e * (x e + t * y e)) (g := fun e => o e * x e + t * (o e * y e)) (fun e _ => by grind), sQ_add, sQ_mul]
      have := Rat.mul_nonneg (Rat.le_of_lt ht0) hyo
      clear hmin hy1 hy2 hy3 hb hne hinv ih w3 hu
      grind
theorem ind_le {N d : Nat} {A : Nat → Nat → Rat} {s : Nat → Bool} (h : Ind N d A s) : cn N s ≤ d := by
  apply Classical.byContradiction
  intro w
  obtain ⟨y, ⟨e, he, h0⟩, h1, h2⟩ := li_dep d N A s (by omega)
  exact h0 (h y h1 h2 e he)
/-- columns that span: some that are independent, filled up -/
theorem ind_fill {N d : Nat} {A : Nat → Nat → Rat} (hs : ∀ q : Nat → Rat, (∀ e, e < N → dq d (A e) q = 0) → ∀ j, j < d → q j = 0) : ∀ (k : Nat) (s : Nat → Bool), cn N s + k = d → Ind N d A s → ∃ s' : Nat → Bool, (∀ e, e < N → s e = true → s' e = true) ∧ cn N s' = d ∧ Ind N d A s' := by
  intro k
  induction k with
  | zero => intro s h hI; exact ⟨s, fun _ _ h => h, h, hI⟩
  | succ k ih =>
    intro s h hI
    obtain ⟨q, ⟨j, hj, hqj⟩, hq⟩ := li_ker N d A s (by omega)
    have hne : ∃ e, e < N ∧ dq d (A e) q ≠ 0 := by
      apply Classical.byContradiction
      intro w
      refine hqj (hs q (fun e he => ?_) j hj)
      apply Classical.byContradiction
      intro h0
      exact w ⟨e, he, h0⟩
    obtain ⟨e, he, h0⟩ := hne
    have hse : s e = false := by
      cases h1 : s e with
      | false => rfl
      | true => exact absurd (hq e he h1) h0
    obtain ⟨s', a1, a2, a3⟩ := ih (fun i => s i || i == e) (by rw [cn_add he hse]; omega) (fun y hy hy2 => by
      have h1 : sQ N (fun i => y i * dq d (A i) q) = 0 := by
        have h2 : sQ d (fun j => sQ N (fun i => y i * A i j) * q j) = 0 := sQ_zero (fun j hj => by rw [hy2 j hj, Rat.zero_mul])
        rw [sQ_congr (g := fun j => sQ N (fun i => y i * A i j * q j)) (fun j _ => by rw [← sQ_mulr]), ← sQ_comm] at h2
        rw [← h2]
        refine sQ_congr (fun i _ => ?_)
        unfold dq
        rw [← sQ_mul]
        exact sQ_congr (fun j _ => by grind)
      rw [sQ_one (k := e) he (fun i hi hne => by
        by_cases h3 : s i = true
        · rw [hq i hi h3, Rat.mul_zero]
        · rw [hy i hi (by simp [h3, hne]), Rat.zero_mul])] at h1
      have hye : y e = 0 := (Rat.mul_eq_zero.mp h1).resolve_right h0
      refine hI y (fun i hi h3 => ?_) hy2
      by_cases e2 : i = e
      · subst e2; exact hye
      · exact hy i hi (by simp [h3, e2]))
    exact ⟨s', fun i hi h => a1 i hi (by rw [h]; rfl), a2, a3⟩
