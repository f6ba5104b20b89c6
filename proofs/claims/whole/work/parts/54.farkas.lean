-- ===== which loads are borne: by finitely many motions =====
/-- the strain of a motion -/
def stn (d : Nat) (R : Nat → Nat → Rat) (c : Nat → Rat) (n : Nat) (q : Nat → Rat) : Rat := sQ n (fun e => c e * ab (dq d (R e) q))
theorem stn_s (d : Nat) (R : Nat → Nat → Rat) (c : Nat → Rat) (n : Nat) (q : Nat → Rat) : stn d R c (n + 1) q = stn d R c n q + c n * ab (dq d (R n) q) := rfl
theorem stn_nn {d : Nat} {R : Nat → Nat → Rat} {c : Nat → Rat} {n : Nat} (hc : ∀ e, e < n → 0 ≤ c e) (q : Nat → Rat) : 0 ≤ stn d R c n q :=
  sQ_nonneg (fun e he => Rat.mul_nonneg (hc e he) (ab_nn _))
theorem stn_lin {d : Nat} {R : Nat → Nat → Rat} {c : Nat → Rat} {n : Nat} (hc : ∀ e, e < n → 0 ≤ c e) (x y : Nat → Rat) {s t : Rat} (hs : 0 ≤ s) (ht : 0 ≤ t) : stn d R c n (fun j => s * x j + t * y j) ≤ s * stn d R c n x + t * stn d R c n y := by
  unfold stn
  rw [← sQ_mul, ← sQ_mul, ← sQ_add]
  refine sQ_le (fun e he => ?_)
  rw [dq_lin]
  have h1 := ab_add (s * dq d (R e) x) (t * dq d (R e) y)
  rw [ab_mul, ab_mul, ab_of hs, ab_of ht] at h1
  have h2 := Rat.mul_le_mul_of_nonneg_left h1 (hc e he)
  grind
theorem mid_ex : ∀ (L : List Rat) (a : Rat), ∃ t, (t = a ∨ t ∈ L) ∧ a ≤ t ∧ ∀ l, l ∈ L → l ≤ t := by
  intro L
  induction L with
  | nil => intro a; exact ⟨a, Or.inl rfl, by grind, fun l h => by cases h⟩
  | cons x L ih =>
    intro a
    obtain ⟨t, h1, h2, h3⟩ := ih a
    by_cases hx : x ≤ t
    · refine ⟨t, ?_, h2, fun l hl => ?_⟩
      · rcases h1 with h | h
        · exact Or.inl h
        · exact Or.inr (List.mem_cons_of_mem _ h)
      · rcases List.mem_cons.mp hl with rfl | h
        · exact hx
        · exact h3 l h
    · refine ⟨x, Or.inr (List.mem_cons_self ..), by grind, fun l hl => ?_⟩
      rcases List.mem_cons.mp hl with rfl | h
      · grind
      · have := h3 l h; grind
/-- two quotients, one number below, one above -/
theorem quo_le {a b x y : Rat} (ha : 0 < a) (hb : b < 0) (h : -b * x + a * y ≤ 0) : x * a⁻¹ ≤ y * b⁻¹ := by
  have h1 : a * a⁻¹ = 1 := Rat.mul_inv_cancel _ (by grind)
  have h2 : b * b⁻¹ = 1 := Rat.mul_inv_cancel _ (by grind)
  have h3 : 0 < a⁻¹ := Rat.inv_pos.mpr ha
  have h4 : 0 < - b⁻¹ := by
    have : (-b)⁻¹ = - b⁻¹ := Rat.inv_eq_of_mul_eq_one (by grind)
    rw [← this]; exact Rat.inv_pos.mpr (by grind)
  have h5 : 0 ≤ a⁻¹ * (- b⁻¹) := by have := Rat.mul_pos h3 h4; grind
  have h6 := Rat.mul_le_mul_of_nonneg_right h h5
  generalize a⁻¹ = i at *
  generalize b⁻¹ = k at *
  have e : (-b * x + a * y) * (i * -k) = (b * k) * x * i - (a * i) * y * k := by grind
  rw [e, h1, h2] at h6
  grind
theorem qdiv_le {P H a c : Rat} (ha : 0 < a) (h : P ≤ H + c * a) : (P - H) * a⁻¹ ≤ c := by
  have h3 : 0 < a⁻¹ := Rat.inv_pos.mpr ha
  have h4 : a * a⁻¹ = 1 := Rat.mul_inv_cancel _ (by grind)
  have h5 := Rat.mul_le_mul_of_nonneg_right (show P - H ≤ c * a by grind) (show 0 ≤ a⁻¹ by grind)
  generalize a⁻¹ = i at *
  have e : c * a * i = c * (a * i) := by grind
  rw [e, h4] at h5
  grind
theorem qmul_le {P H a t : Rat} (ha : 0 < a) (h : (P - H) * a⁻¹ ≤ t) : P - t * a ≤ H := by
  have h4 : a * a⁻¹ = 1 := Rat.mul_inv_cancel _ (by grind)
  have h5 := Rat.mul_le_mul_of_nonneg_right h (show 0 ≤ a by grind)
  generalize a⁻¹ = i at *
  have e : (P - H) * i * a = (P - H) * (a * i) := by grind
  rw [e, h4] at h5
  grind
theorem qmul_ln {P H a t : Rat} (ha : a < 0) (h : t ≤ (P - H) * a⁻¹) : P - t * a ≤ H := by
  have h4 : a * a⁻¹ = 1 := Rat.mul_inv_cancel _ (by grind)
  have h5 := Rat.mul_le_mul_of_nonneg_right h (show 0 ≤ -a by grind)
  generalize a⁻¹ = i at *
  have e : (P - H) * i * -a = - ((P - H) * (a * i)) := by grind
  rw [e, h4] at h5
  grind
theorem qlow {P H a c : Rat} (ha : a < 0) (h : P ≤ H + c * -a) : - c ≤ (P - H) * a⁻¹ := by
  have h2 : 0 < (-a)⁻¹ := Rat.inv_pos.mpr (by grind)
  have h4 : a * a⁻¹ = 1 := Rat.mul_inv_cancel _ (by grind)
  have h6 : (-a)⁻¹ = - a⁻¹ := Rat.inv_eq_of_mul_eq_one (by grind)
  rw [h6] at h2
  have h5 := Rat.mul_le_mul_of_nonneg_right (show P - H ≤ c * -a by grind) (show 0 ≤ -a⁻¹ by grind)
  generalize a⁻¹ = i at *
  have e : c * -a * -i = c * (a * i) := by grind
  rw [e, h4] at h5
  grind
theorem fk_sum {p H a b : Rat} (h1 : p - H ≤ a * b) : p ≤ H + a * b := by grind
theorem fk : ∀ (n d : Nat) (R : Nat → Nat → Rat) (c : Nat → Rat), (∀ e, e < n → 0 ≤ c e) → ∃ Q : List (Nat → Rat), ∀ p : Nat → Rat, (∀ q, q ∈ Q → dq d p q ≤ stn d R c n q) → ∃ z : Nat → Rat, (∀ e, e < n → ab (z e) ≤ c e) ∧ ∀ j, j < d → sQ n (fun e => z e * R e j) = p j := by
  intro n
  induction n with
  | zero =>
    intro d R c _
    refine ⟨(List.range d).map uq ++ (List.range d).map (fun k j => (-1) * uq k j), fun p h => ⟨fun _ => 0, fun e he => by omega, fun j hj => ?_⟩⟩
    have h1 := h (uq j) (List.mem_append_left _ (List.mem_map.mpr ⟨j, List.mem_range.mpr hj, rfl⟩))
    have h2 := h (fun i => (-1) * uq j i) (List.mem_append_right _ (List.mem_map.mpr ⟨j, List.mem_range.mpr hj, rfl⟩))
    rw [dq_mul, dq_uq hj] at h2
    rw [dq_uq hj] at h1
    have h3 : ∀ q, stn d R c 0 q = 0 := fun q => rfl
    rw [h3] at h1 h2
    show (0 : Rat) = p j
    grind
  | succ n ih =>
    intro d R c hc
    obtain ⟨Q, hQ⟩ := ih d R c (fun e he => hc e (by omega))
    refine ⟨Q ++ Q.flatMap (fun x => Q.map (fun y j => - dq d (R n) y * x j + dq d (R n) x * y j)), fun p h => ?_⟩
    have hq1 : ∀ q, q ∈ Q → dq d p q ≤ stn d R c n q + c n * ab (dq d (R n) q) := fun q hq => h q (List.mem_append_left _ hq)
    have hcn := hc n (by omega)
    obtain ⟨t, ht, hta, htl⟩ := mid_ex (Q.map (fun q => if 0 < dq d (R n) q then (dq d p q - stn d R c n q) * (dq d (R n) q)⁻¹ else - c n)) (- c n)
    have hup : ∀ q, q ∈ Q → 0 < dq d (R n) q → (dq d p q - stn d R c n q) * (dq d (R n) q)⁻¹ ≤ c n := by
      intro q hq hp
      have h1 := hq1 q hq
      rw [ab_of (Rat.le_of_lt hp)] at h1
      exact qdiv_le hp h1
    have htc : t ≤ c n := by
      rcases ht with rfl | h1
      · grind
      · obtain ⟨q, hq, rfl⟩ := List.mem_map.mp h1
        by_cases hp : 0 < dq d (R n) q
        · rw [if_pos hp]; exact hup q hq hp
        · rw [if_neg hp]; grind
    have hz : ∀ q, q ∈ Q → dq d p q - t * dq d (R n) q ≤ stn d R c n q := by
      intro q hq
      by_cases hp : 0 < dq d (R n) q
      · have h1 := htl _ (List.mem_map.mpr ⟨q, hq, rfl⟩)
        rw [if_pos hp] at h1
        exact qmul_le hp h1
      · by_cases h0 : dq d (R n) q = 0
        · have h1 := hq1 q hq
          rw [h0, ab_z] at h1
          rw [h0]
          clear hq1 hup htl h hQ ih ht
          grind
        · have hn : dq d (R n) q < 0 := by clear hq1 hup htl h hQ ih ht; grind
          refine qmul_ln hn ?_
          have hlow : - c n ≤ (dq d p q - stn d R c n q) * (dq d (R n) q)⁻¹ := by
            refine qlow hn ?_
            have h1 := hq1 q hq
            rw [← ab_neg, ab_of (show 0 ≤ - dq d (R n) q by clear hq1 hup htl h hQ ih ht h1; grind)] at h1
            exact h1
          rcases ht with rfl | h1
          · exact hlow
          · obtain ⟨x, hx, rfl⟩ := List.mem_map.mp h1
            by_cases hp2 : 0 < dq d (R n) x
            · rw [if_pos hp2]
              refine quo_le hp2 hn ?_
              have h7 := h _ (List.mem_append_right _ (List.mem_flatMap.mpr ⟨x, hx, List.mem_map.mpr ⟨q, hq, rfl⟩⟩))
              rw [stn_s, dq_lin, dq_lin] at h7
              have h8 := stn_lin (d := d) (R := R) (c := c) (n := n) (fun e he => hc e (by omega)) x q (s := - dq d (R n) q) (t := dq d (R n) x) (by clear hq1 hup htl h hQ ih hlow h7 h1; grind) (Rat.le_of_lt hp2)
              have e2 : - dq d (R n) q * dq d (R n) x + dq d (R n) x * dq d (R n) q = 0 := by clear hq1 hup htl h hQ ih hlow h7 h8 h1; grind
              rw [e2, ab_z] at h7
              clear hq1 hup htl h hQ ih hlow h1
              grind
            · rw [if_neg hp2]; exact hlow
    obtain ⟨z, hz1, hz2⟩ := hQ (fun j => 1 * p j + (-t) * R n j) (fun q hq => by
      rw [dq_lin_l]
      have := hz q hq
      clear hq1 hup htl h hQ ih ht hz
      grind)
    refine ⟨fun e => if e = n then t else z e, fun e he => ?_, fun j hj => ?_⟩
    · dsimp only
      by_cases e1 : e = n
      · subst e1; rw [if_pos rfl, ab_iff]; constructor <;> grind
      · rw [if_neg e1]; exact hz1 e (by omega)
    · rw [sQ_s]
      dsimp only
      rw [if_pos rfl, sQ_congr (n := n) (g := fun e => z e * R e j) (fun e he => by rw [if_neg (by omega)]), hz2 j hj]
      grind
-- ===== elementary motions =====
def El (n d : Nat) (R : Nat → Nat → Rat) (q : Nat → Rat) : Prop := (∃ e, e < n ∧ dq d (R e) q ≠ 0) ∧ ∀ q' : Nat → Rat, (∀ e, e < n → dq d (R e) q = 0 → dq d (R e) q' = 0) → ∃ l : Rat, ∀ j, j < d → q' j = l * q j
/-- no motion is without a twist -/
def NL (n d : Nat) (R : Nat → Nat → Rat) : Prop := ∀ q : Nat → Rat, (∀ e, e < n → dq d (R e) q = 0) → ∀ j, j < d → q j = 0
theorem El_mul {n d : Nat} {R : Nat → Nat → Rat} {q : Nat → Rat} (h : El n d R q) {s : Rat} (hs : s ≠ 0) : El n d R (fun j => s * q j) := by
  obtain ⟨⟨e, he, h1⟩, h2⟩ := h
  have hm : ∀ e, dq d (R e) (fun j => s * q j) = 0 ↔ dq d (R e) q = 0 := fun e => by
    rw [dq_mul, Rat.mul_eq_zero]; exact ⟨fun w => w.resolve_left hs, Or.inr⟩
  refine ⟨⟨e, he, fun w => h1 ((hm e).mp w)⟩, fun q' hq' => ?_⟩
  obtain ⟨l, hl⟩ := h2 q' (fun e he h0 => hq' e he ((hm e).mpr h0))
  have hi : s * s⁻¹ = 1 := Rat.mul_inv_cancel _ hs
  exact ⟨l * s⁻¹, fun j hj => by rw [hl j hj]; generalize s⁻¹ = i at *; grind⟩
/-- the least of some numbers -/
theorem le_ex (P : Nat → Prop) (r : Nat → Rat) : ∀ n : Nat, (∃ e, e < n ∧ P e) → ∃ e, e < n ∧ P e ∧ ∀ k, k < n → P k → r e ≤ r k := by
  intro n
  induction n with
  | zero => intro ⟨e, h, _⟩; omega
  | succ n ih =>
    intro ⟨e, he, hp⟩
    by_cases h : ∃ e, e < n ∧ P e
    · obtain ⟨e1, h1, h2, h3⟩ := ih h
      by_cases hn : P n ∧ r n ≤ r e1
      · refine ⟨n, by omega, hn.1, fun k hk hpk => ?_⟩
        by_cases e2 : k = n
        · subst e2; grind
        · have := h3 k (by omega) hpk; grind
      · refine ⟨e1, by omega, h2, fun k hk hpk => ?_⟩
        by_cases e2 : k = n
        · subst e2
          by_cases h5 : r k ≤ r e1
          · exact absurd ⟨hpk, h5⟩ hn
          · grind
        · exact h3 k (by omega) hpk
    · have : e = n := by
        by_cases e2 : e = n
        · exact e2
        · exact absurd ⟨e, by omega, hp⟩ h
      subst this
      refine ⟨e, by omega, hp, fun k hk hpk => ?_⟩
      by_cases e2 : k = e
      · subst e2; grind
      · exact absurd ⟨k, by omega, hpk⟩ h
def sup (n d : Nat) (R : Nat → Nat → Rat) (q : Nat → Rat) : Nat → Bool := fun e => decide (dq d (R e) q ≠ 0)
theorem sup_f {n d : Nat} {R : Nat → Nat → Rat} {q : Nat → Rat} {e : Nat} : sup n d R q e = false ↔ dq d (R e) q = 0 := by unfold sup; simp
theorem sup_t {n d : Nat} {R : Nat → Nat → Rat} {q : Nat → Rat} {e : Nat} : sup n d R q e = true ↔ dq d (R e) q ≠ 0 := by unfold sup; simp
theorem sq_pos {y : Rat} (hy : y ≠ 0) : 0 < y * y := by
  rcases (show y < 0 ∨ 0 < y by grind) with h | h
  · have := Rat.mul_pos (show 0 < -y by grind) (show 0 < -y by grind); grind
  · exact Rat.mul_pos h h
theorem sq_nn (y : Rat) : 0 ≤ y * y := by
  by_cases h : y = 0
  · rw [h, Rat.mul_zero]; exact Rat.le_refl
  · exact Rat.le_of_lt (sq_pos h)
theorem quo_pos {a b : Rat} (h : 0 < a * b) : 0 < a * b⁻¹ := by
  have hb : b ≠ 0 := fun w => by rw [w] at h; grind
  have h1 : b * b⁻¹ = 1 := Rat.mul_inv_cancel _ hb
  have h2 := Rat.mul_pos h (sq_pos (y := b⁻¹) (fun w => by rw [w] at h1; grind))
  generalize b⁻¹ = i at *
  have e : a * b * (i * i) = a * i * (b * i) := by grind
  rw [e, h1] at h2
  grind
/-- as much of one motion taken from another as signs bear -/
theorem cut_ex {n d : Nat} {R : Nat → Nat → Rat} {q x : Nat → Rat} (hs : ∀ e, e < n → dq d (R e) q = 0 → dq d (R e) x = 0) (hp : ∃ e, e < n ∧ 0 < dq d (R e) q * dq d (R e) x) : ∃ l : Rat, 0 < l ∧ (∀ e, e < n → 0 ≤ dq d (R e) (fun j => 1 * q j + (-l) * x j) * dq d (R e) q) ∧ (∀ e, e < n → dq d (R e) q = 0 → dq d (R e) (fun j => 1 * q j + (-l) * x j) = 0) ∧ ∃ e, e < n ∧ dq d (R e) q ≠ 0 ∧ dq d (R e) (fun j => 1 * q j + (-l) * x j) = 0 := by
  obtain ⟨e0, he0, hp0, hmin⟩ := le_ex (fun e => 0 < dq d (R e) q * dq d (R e) x) (fun e => dq d (R e) q * (dq d (R e) x)⁻¹) n hp
  have hx0 : dq d (R e0) x ≠ 0 := fun w => by rw [w] at hp0; grind
  have hi0 : dq d (R e0) x * (dq d (R e0) x)⁻¹ = 1 := Rat.mul_inv_cancel _ hx0
  refine ⟨dq d (R e0) q * (dq d (R e0) x)⁻¹, ?_, fun e he => ?_, fun e he h0 => ?_, ⟨e0, he0, fun w => by rw [w] at hp0; grind, ?_⟩⟩
  · exact quo_pos hp0
  · rw [dq_lin]
    have hl : 0 < dq d (R e0) q * (dq d (R e0) x)⁻¹ := quo_pos hp0
    by_cases hpe : 0 < dq d (R e) q * dq d (R e) x
    · have h1 := hmin e he hpe
      have hxe : dq d (R e) x ≠ 0 := fun w => by rw [w] at hpe; grind
      have hie : dq d (R e) x * (dq d (R e) x)⁻¹ = 1 := Rat.mul_inv_cancel _ hxe
      have h2 := Rat.mul_le_mul_of_nonneg_right h1 (show 0 ≤ dq d (R e) q * dq d (R e) x by grind)
      generalize dq d (R e0) q * (dq d (R e0) x)⁻¹ = l at *
      generalize (dq d (R e) x)⁻¹ = i at *
      have e5 : dq d (R e) q * i * (dq d (R e) q * dq d (R e) x) = (dq d (R e) x * i) * (dq d (R e) q * dq d (R e) q) := by grind
      rw [e5, hie] at h2
      grind
    · generalize dq d (R e0) q * (dq d (R e0) x)⁻¹ = l at *
      have h3 : 0 ≤ l * -(dq d (R e) q * dq d (R e) x) := Rat.mul_nonneg (by grind) (by grind)
      have h4 : 0 ≤ dq d (R e) q * dq d (R e) q := by
        by_cases h0 : dq d (R e) q = 0
        · rw [h0]; grind
        · exact Rat.le_of_lt (sq_pos h0)
      grind
  · rw [dq_lin, h0, hs e he h0]; grind
  · rw [dq_lin]
    generalize (dq d (R e0) x)⁻¹ = i at *
    grind
theorem sgn_tr {a b c : Rat} (h1 : 0 ≤ a * b) (h2 : 0 ≤ b * c) (h3 : b = 0 → a = 0) : 0 ≤ a * c := by
  by_cases h0 : b = 0
  · rw [h3 h0]; grind
  · rcases (show b < 0 ∨ 0 < b by grind) with hb | hb
    · have ha : a ≤ 0 := by
        by_cases w : a ≤ 0
        · exact w
        · have := Rat.mul_pos (show 0 < a by grind) (show 0 < -b by grind); grind
      have hc : c ≤ 0 := by
        by_cases w : c ≤ 0
        · exact w
        · have := Rat.mul_pos (show 0 < c by grind) (show 0 < -b by grind); grind
      have := Rat.mul_nonneg (show 0 ≤ -a by grind) (show 0 ≤ -c by grind); grind
    · have ha : 0 ≤ a := by
        by_cases w : 0 ≤ a
        · exact w
        · have := Rat.mul_pos (show 0 < -a by grind) hb; grind
      have hc : 0 ≤ c := by
        by_cases w : 0 ≤ c
        · exact w
        · have := Rat.mul_pos (show 0 < -c by grind) hb; grind
      exact Rat.mul_nonneg ha hc
/-- an elementary motion of a motion's signs -/
theorem el_ex {n d : Nat} {R : Nat → Nat → Rat} (hN : NL n d R) : ∀ (k : Nat) (q : Nat → Rat), cn n (sup n d R q) ≤ k → (∃ e, e < n ∧ dq d (R e) q ≠ 0) → ∃ x, El n d R x ∧ (∀ e, e < n → dq d (R e) q = 0 → dq d (R e) x = 0) ∧ ∀ e, e < n → 0 ≤ dq d (R e) x * dq d (R e) q := by
  intro k
  have hsq : ∀ y : Rat, 0 ≤ y * y := fun y => by
    rcases (show y ≤ 0 ∨ 0 ≤ y by grind) with h | h
    · have := Rat.mul_nonneg (show 0 ≤ -y by grind) (show 0 ≤ -y by grind); grind
    · exact Rat.mul_nonneg h h
  induction k with
  | zero =>
    intro q hk ⟨e, he, h0⟩
    have := cn_lt (n := n) (s := fun _ => false) (t := sup n d R q) (fun i _ h => by cases h) ⟨e, he, rfl, sup_t.mpr h0⟩
    omega
  | succ k ih =>
    intro q hk hne
    by_cases hE : El n d R q
    · exact ⟨q, hE, fun _ _ h => h, fun e _ => hsq _⟩
    · -- another one with no more twists
      have h1 : ∃ y : Nat → Rat, (∀ e, e < n → dq d (R e) q = 0 → dq d (R e) y = 0) ∧ ¬ ∃ l : Rat, ∀ j, j < d → y j = l * q j := by
        apply Classical.byContradiction
        intro w
        apply hE
        refine ⟨hne, fun y hy => ?_⟩
        apply Classical.byContradiction
        intro w2
        exact w ⟨y, hy, w2⟩
      obtain ⟨y, hy, hyl⟩ := h1
      have hy0 : ∃ e, e < n ∧ dq d (R e) y ≠ 0 := by
        apply Classical.byContradiction
        intro w
        apply hyl
        refine ⟨0, fun j hj => ?_⟩
        rw [hN y (fun e he => by
          apply Classical.byContradiction
          intro w2
          exact w ⟨e, he, w2⟩) j hj]
        grind
      obtain ⟨e1, he1, hy1⟩ := hy0
      have hq1 : dq d (R e1) q ≠ 0 := fun w => hy1 (hy e1 he1 w)
      -- their sum that leaves one end still
      have hx : ∃ x : Nat → Rat, (∀ e, e < n → dq d (R e) q = 0 → dq d (R e) x = 0) ∧ dq d (R e1) x = 0 ∧ ∃ e, e < n ∧ dq d (R e) x ≠ 0 := by
        refine ⟨fun j => dq d (R e1) y * q j + (- dq d (R e1) q) * y j, fun e he h0 => by rw [dq_lin, h0, hy e he h0]; grind, by rw [dq_lin]; grind, ?_⟩
        apply Classical.byContradiction
        intro w
        have h2 := hN (fun j => dq d (R e1) y * q j + (- dq d (R e1) q) * y j) (fun e he => by
          apply Classical.byContradiction
          intro w2
          exact w ⟨e, he, w2⟩)
        apply hyl
        have hi : dq d (R e1) q * (dq d (R e1) q)⁻¹ = 1 := Rat.mul_inv_cancel _ hq1
        refine ⟨dq d (R e1) y * (dq d (R e1) q)⁻¹, fun j hj => ?_⟩
        have h3 := h2 j hj
        generalize dq d (R e1) y = a at *
        generalize dq d (R e1) q = b at *
        generalize b⁻¹ = i at *
        have : i * (a * q j + -b * y j) = 0 := by rw [h3]; grind
        have e9 : i * (a * q j + -b * y j) = a * i * q j - (b * i) * y j := by grind
        rw [e9, hi] at this
        grind
      obtain ⟨x, hx1, hx2, e2, he2, hx3⟩ := hx
      have hq2 : dq d (R e2) q ≠ 0 := fun w => hx3 (hx1 e2 he2 w)
      -- with a sign that fits
      have hx' : ∃ x : Nat → Rat, (∀ e, e < n → dq d (R e) q = 0 → dq d (R e) x = 0) ∧ dq d (R e1) x = 0 ∧ 0 < dq d (R e2) q * dq d (R e2) x := by
        by_cases hp : 0 < dq d (R e2) q * dq d (R e2) x
        · exact ⟨x, hx1, hx2, hp⟩
        · refine ⟨fun j => (-1) * x j, fun e he h0 => by rw [dq_mul, hx1 e he h0]; grind, by rw [dq_mul, hx2]; grind, ?_⟩
          rw [dq_mul]
          have h0 : dq d (R e2) q * dq d (R e2) x ≠ 0 := fun w => by
            rcases Rat.mul_eq_zero.mp w with h | h
            · exact hq2 h
            · exact hx3 h
          grind
      obtain ⟨x, hx1, hx2, hx3⟩ := hx'
      obtain ⟨l, hl, c1, c2, e3, he3, c3, c4⟩ := cut_ex hx1 ⟨e2, he2, hx3⟩
      obtain ⟨w, w1, w2, w3⟩ := ih (fun j => 1 * q j + (-l) * x j) (by
        have := cn_lt (n := n) (s := sup n d R (fun j => 1 * q j + (-l) * x j)) (t := sup n d R q) (fun i hi h => by
          rw [sup_t] at h ⊢
          exact fun w => h (c2 i hi w)) ⟨e3, he3, sup_f.mpr c4, sup_t.mpr c3⟩
        omega) ⟨e1, he1, by rw [dq_lin, hx2]; grind⟩
      exact ⟨w, w1, fun e he h0 => w2 e he (c2 e he h0), fun e he => sgn_tr (w3 e he) (c1 e he) (w2 e he)⟩
/-- what holds of the elementary motions holds of all -/
theorem el_all {n d : Nat} {R : Nat → Nat → Rat} (hN : NL n d R) {c : Nat → Rat} (hc : ∀ e, e < n → 0 ≤ c e) {p : Nat → Rat} (hp : ∀ q, El n d R q → dq d p q ≤ stn d R c n q) : ∀ (k : Nat) (q : Nat → Rat), cn n (sup n d R q) ≤ k → dq d p q ≤ stn d R c n q := by
  intro k
  induction k with
  | zero =>
    intro q hk
    have hz : ∀ e, e < n → dq d (R e) q = 0 := by
      intro e he
      apply Classical.byContradiction
      intro h0
      have := cn_lt (n := n) (s := fun _ => false) (t := sup n d R q) (fun i _ h => by cases h) ⟨e, he, rfl, sup_t.mpr h0⟩
      omega
    rw [dq_zero (hN q hz)]
    exact stn_nn hc q
  | succ k ih =>
    intro q hk
    by_cases hne : ∃ e, e < n ∧ dq d (R e) q ≠ 0
    · obtain ⟨x, hE, hx1, hx2⟩ := el_ex hN _ q (Nat.le_refl _) hne
      obtain ⟨⟨e1, he1, hxe⟩, _⟩ := id hE
      have hqe : dq d (R e1) q ≠ 0 := fun w => hxe (hx1 e1 he1 w)
      have hpos : 0 < dq d (R e1) q * dq d (R e1) x := by
        have := hx2 e1 he1
        have h0 : dq d (R e1) x * dq d (R e1) q ≠ 0 := fun w => by
          rcases Rat.mul_eq_zero.mp w with h | h
          · exact hxe h
          · exact hqe h
        grind
      obtain ⟨l, hl, c1, c2, e3, he3, c3, c4⟩ := cut_ex hx1 ⟨e1, he1, hpos⟩
      have h1 := ih (fun j => 1 * q j + (-l) * x j) (by
        have := cn_lt (n := n) (s := sup n d R (fun j => 1 * q j + (-l) * x j)) (t := sup n d R q) (fun i hi h => by
          rw [sup_t] at h ⊢
          exact fun w => h (c2 i hi w)) ⟨e3, he3, sup_f.mpr c4, sup_t.mpr c3⟩
        omega)
      have h2 := hp x hE
      rw [dq_lin] at h1
      have h3 : stn d R c n q = stn d R c n (fun j => 1 * q j + (-l) * x j) + l * stn d R c n x := by
        unfold stn
        rw [← sQ_mul, ← sQ_add]
        refine sQ_congr (fun e he => ?_)
        have h4 : ab (dq d (R e) q) = ab (dq d (R e) (fun j => 1 * q j + (-l) * x j)) + ab (l * dq d (R e) x) := by
          have e5 : dq d (R e) q = dq d (R e) (fun j => 1 * q j + (-l) * x j) + l * dq d (R e) x := by rw [dq_lin]; grind
          have h6 : 0 ≤ dq d (R e) (fun j => 1 * q j + (-l) * x j) * (l * dq d (R e) x) := by
            have h7 : 0 ≤ dq d (R e) (fun j => 1 * q j + (-l) * x j) * dq d (R e) x := by
              by_cases h0 : dq d (R e) q = 0
              · rw [c2 e he h0]; grind
              · refine sgn_tr (c1 e he) (b := dq d (R e) q) ?_ (fun w => absurd w h0)
                have := hx2 e he; grind
            have := Rat.mul_nonneg (show 0 ≤ l by grind) h7
            grind
          calc ab (dq d (R e) q) = ab (dq d (R e) (fun j => 1 * q j + (-l) * x j) + l * dq d (R e) x) := by rw [← e5]
            _ = _ := ab_agree h6
        rw [h4, ab_mul, ab_of (show 0 ≤ l by grind)]
        grind
      rw [h3]
      have h8 := Rat.mul_le_mul_of_nonneg_left h2 (show 0 ≤ l by grind)
      grind
    · have hz : ∀ e, e < n → dq d (R e) q = 0 := fun e he => by
        apply Classical.byContradiction
        intro h0
        exact hne ⟨e, he, h0⟩
      rw [dq_zero (hN q hz)]
      exact stn_nn hc q
/-- loads are borne if they work no more than strain in elementary motions -/
theorem borne {n d : Nat} {R : Nat → Nat → Rat} (hN : NL n d R) {c : Nat → Rat} (hc : ∀ e, e < n → 0 ≤ c e) {p : Nat → Rat} (hp : ∀ q, El n d R q → dq d p q ≤ stn d R c n q) : ∃ z : Nat → Rat, (∀ e, e < n → ab (z e) ≤ c e) ∧ ∀ j, j < d → sQ n (fun e => z e * R e j) = p j := by
  obtain ⟨Q, hQ⟩ := fk n d R c hc
  exact hQ p (fun q _ => el_all hN hc hp _ q (Nat.le_refl _))
/-- and only then -/
theorem borne_le {n d : Nat} {R : Nat → Nat → Rat} {c : Nat → Rat} {p z : Nat → Rat} (hz : ∀ e, e < n → ab (z e) ≤ c e) (hp : ∀ j, j < d → sQ n (fun e => z e * R e j) = p j) (q : Nat → Rat) : dq d p q ≤ stn d R c n q := by
  have h1 : dq d p q = sQ n (fun e => z e * dq d (R e) q) := by
    unfold dq
    rw [sQ_congr (g := fun j => sQ n (fun e => z e * R e j * q j)) (fun j hj => by rw [← hp j hj, ← sQ_mulr]), sQ_comm]
    refine sQ_congr (fun e he => ?_)
    rw [← sQ_mul]
    exact sQ_congr (fun j _ => by grind)
  rw [h1]
  refine sQ_le (fun e he => ?_)
  have h2 := ab_le (z e * dq d (R e) q)
  rw [ab_mul] at h2
  have h3 := Rat.mul_le_mul_of_nonneg_right (hz e he) (ab_nn (dq d (R e) q))
  grind
