-- ===== what is asked of a frame, as numbers =====
/-- the ascending list of all mechanisms -/
def MLp (φ : FR) (L : List Nat) : Prop := L.Pairwise (· < ·) ∧ ∀ s, s ∈ L ↔ IsM φ s
theorem asc_u : ∀ (L M : List Nat), L.Pairwise (· < ·) → M.Pairwise (· < ·) → (∀ s, s ∈ L ↔ s ∈ M) → L = M := by
  intro L
  induction L with
  | nil =>
    intro M _ _ h
    cases M with
    | nil => rfl
    | cons b M => exact absurd ((h b).mpr List.mem_cons_self) List.not_mem_nil
  | cons a L ih =>
    intro M h1 h2 h
    cases M with
    | nil => exact absurd ((h a).mp List.mem_cons_self) List.not_mem_nil
    | cons b M =>
      obtain ⟨p1, p2⟩ := List.pairwise_cons.mp h1
      obtain ⟨r1, r2⟩ := List.pairwise_cons.mp h2
      have hab : a = b := by
        have u := (h a).mp List.mem_cons_self
        have v := (h b).mpr List.mem_cons_self
        rcases List.mem_cons.mp u with e | e
        · exact e
        · rcases List.mem_cons.mp v with e2 | e2
          · exact e2.symm
          · have := r1 a e; have := p1 b e2; omega
      subst hab
      rw [ih M p2 r2 (fun s => ?_)]
      constructor
      · intro hs
        rcases List.mem_cons.mp ((h s).mp (List.mem_cons_of_mem _ hs)) with e | e
        · subst e; have := p1 s hs; omega
        · exact e
      · intro hs
        rcases List.mem_cons.mp ((h s).mpr (List.mem_cons_of_mem _ hs)) with e | e
        · subst e; have := r1 s hs; omega
        · exact e
noncomputable def ML (φ : FR) : List Nat := @dite _ (∃ L, MLp φ L) (Classical.propDecidable _) (fun h => Classical.choose h) (fun _ => [])
theorem ML_of {φ : FR} {L : List Nat} (h : MLp φ L) : ML φ = L := by
  unfold ML
  have h2 : ∃ L, MLp φ L := ⟨L, h⟩
  rw [dif_pos h2]
  have h3 := Classical.choose_spec h2
  exact asc_u _ _ h3.1 h.1 (fun s => (h3.2 s).trans (h.2 s).symm)
/-- a motion of a mechanism -/
noncomputable def mo (φ : FR) (s : Nat) : Nat → Rat := @dite _ (IsM φ s) (Classical.propDecidable _) (fun h => Classical.choose h) (fun _ _ => 0)
theorem mo_is {φ : FR} {s : Nat} (h : IsM φ s) : ElF φ (mo φ s) ∧ s = mq φ (mo φ s) := by
  unfold mo; rw [dif_pos h]; exact Classical.choose_spec h
theorem mo_of {φ : FR} {s : Nat} {q : Nat → Rat} (h : ElF φ q) (hs : s = mq φ q) : ∃ l : Rat, l ≠ 0 ∧ ∀ j, j < dd φ → q j = l * mo φ s j := by
  obtain ⟨h1, h2⟩ := mo_is ⟨q, h, hs⟩
  obtain ⟨l, hl⟩ := el_same h1 (h2.symm.trans hs)
  refine ⟨l, fun w => ?_, hl⟩
  obtain ⟨e, he, hne⟩ := h.1
  apply hne
  exact dq_zero (fun j hj => by rw [hl j hj, w, Rat.zero_mul])
/-- twists against the lowest one -/
noncomputable def twv (φ : FR) (s e : Nat) : Rat := dq (dd φ) (Rq φ e) (mo φ s) * ((lenB φ (e / 2) : Int) : Rat)⁻¹
noncomputable def twR (φ : FR) (s e : Nat) : Rat := twv φ s e * (twv φ s (lwb s))⁻¹
/-- the bounds that a mechanism sets -/
def stdy (w x : Rat) : Rat := if w < 0 then -x else x
noncomputable def bdU (φ : FR) (c s : Nat) : Rat := (stn (dd φ) (Rq φ) (cq φ) (2 * nb φ) (mo φ s) - stdy (dq (dd φ) (pq φ c) (mo φ s)) (dq (dd φ) (pq φ 0) (mo φ s))) * (ab (dq (dd φ) (pq φ c) (mo φ s)))⁻¹
noncomputable def bdL (φ : FR) (c s : Nat) : Rat := (-stn (dd φ) (Rq φ) (cq φ) (2 * nb φ) (mo φ s) - stdy (dq (dd φ) (pq φ c) (mo φ s)) (dq (dd φ) (pq φ 0) (mo φ s))) * (ab (dq (dd φ) (pq φ c) (mo φ s)))⁻¹
theorem quo_sc {a b l : Rat} (hl : l ≠ 0) : (l * a) * (l * b)⁻¹ = a * b⁻¹ := by
  by_cases hb : b = 0
  · rw [hb, Rat.mul_zero, Rat.inv_zero, Rat.mul_zero, Rat.mul_zero]
  · have h1 := Rat.mul_inv_cancel _ hb
    have h2 := Rat.mul_inv_cancel (l * b) (fun w => by
      rcases Rat.mul_eq_zero.mp w with h | h
      · exact hl h
      · exact hb h)
    generalize (l * b)⁻¹ = i at *
    generalize b⁻¹ = k at *
    have e : l * a * i = a * (b * k) * l * i := by rw [h1, Rat.mul_one]; grind
    rw [e]
    have e2 : a * (b * k) * l * i = a * k * (l * b * i) := by grind
    rw [e2, h2, Rat.mul_one]
theorem ab_0 {x : Rat} : ab x = 0 ↔ x = 0 := by
  unfold ab
  split
  · constructor
    · intro h; grind
    · intro h; grind
  · exact Iff.rfl
theorem stdy_sc {l w x : Rat} (hl : l ≠ 0) (hw : w ≠ 0) : stdy (l * w) (l * x) = ab l * stdy w x := by
  unfold stdy
  rcases (show l < 0 ∨ 0 < l by grind) with h | h
  · have ha : ab l = -l := by unfold ab; rw [if_pos h]
    rw [ha]
    rcases (show w < 0 ∨ 0 < w by grind) with h2 | h2
    · have : 0 < l * w := by have := Rat.mul_pos (show 0 < -l by grind) (show 0 < -w by grind); grind
      rw [if_neg (by grind), if_pos h2]; grind
    · have : 0 < -(l * w) := by have := Rat.mul_pos (show 0 < -l by grind) h2; grind
      rw [if_pos (by grind), if_neg (by grind)]; grind
  · have ha : ab l = l := ab_of (by grind)
    rw [ha]
    rcases (show w < 0 ∨ 0 < w by grind) with h2 | h2
    · have : 0 < -(l * w) := by have := Rat.mul_pos h (show 0 < -w by grind); grind
      rw [if_pos (by grind), if_pos h2]; grind
    · have : 0 < l * w := Rat.mul_pos h h2
      rw [if_neg (by grind), if_neg (by grind)]
/-- any motion of the mechanism tells them -/
theorem twR_of {φ : FR} {s e : Nat} {q : Nat → Rat} (h : ElF φ q) (hs : s = mq φ q) : twR φ s e = (dq (dd φ) (Rq φ e) q * ((lenB φ (e / 2) : Int) : Rat)⁻¹) * (dq (dd φ) (Rq φ (lwb s)) q * ((lenB φ (lwb s / 2) : Int) : Rat)⁻¹)⁻¹ := by
  obtain ⟨l, hl, hq⟩ := mo_of h hs
  have h1 : ∀ e, dq (dd φ) (Rq φ e) q = l * dq (dd φ) (Rq φ e) (mo φ s) := fun e => by rw [← dq_mul]; exact dq_congr (fun _ _ => rfl) hq
  rw [h1 e, h1 (lwb s)]
  have e1 : ∀ a i : Rat, l * a * i = l * (a * i) := fun a i => Rat.mul_assoc l a i
  rw [e1 (dq (dd φ) (Rq φ e) (mo φ s)) _, e1 (dq (dd φ) (Rq φ (lwb s)) (mo φ s)) _, quo_sc hl]
  rfl
theorem bd_of {φ : FR} {c s : Nat} {q : Nat → Rat} (h : ElF φ q) (hs : s = mq φ q) : (dq (dd φ) (pq φ c) q = 0 ↔ dq (dd φ) (pq φ c) (mo φ s) = 0) ∧ (dq (dd φ) (pq φ c) q ≠ 0 → bdU φ c s = (stn (dd φ) (Rq φ) (cq φ) (2 * nb φ) q - stdy (dq (dd φ) (pq φ c) q) (dq (dd φ) (pq φ 0) q)) * (ab (dq (dd φ) (pq φ c) q))⁻¹ ∧ bdL φ c s = (-stn (dd φ) (Rq φ) (cq φ) (2 * nb φ) q - stdy (dq (dd φ) (pq φ c) q) (dq (dd φ) (pq φ 0) q)) * (ab (dq (dd φ) (pq φ c) q))⁻¹) := by
  obtain ⟨l, hl, hq⟩ := mo_of h hs
  have hz : dq (dd φ) (pq φ c) q = 0 ↔ dq (dd φ) (pq φ c) (mo φ s) = 0 := by
    rw [pq_mul hq, Rat.mul_eq_zero]; exact ⟨fun w => w.resolve_left hl, Or.inr⟩
  refine ⟨hz, fun hne => ?_⟩
  have hla : ab l ≠ 0 := fun w => hl (ab_0.mp w)
  have hne2 : dq (dd φ) (pq φ c) (mo φ s) ≠ 0 := fun w => hne (hz.mpr w)
  rw [pq_mul hq, pq_mul hq, cq_S, stn_mul hq, stdy_sc hl hne2, ab_mul, ← cq_S]
  unfold bdU bdL
  constructor
  · have e : ab l * stn (dd φ) (Rq φ) (cq φ) (2 * nb φ) (mo φ s) - ab l * stdy (dq (dd φ) (pq φ c) (mo φ s)) (dq (dd φ) (pq φ 0) (mo φ s)) = ab l * (stn (dd φ) (Rq φ) (cq φ) (2 * nb φ) (mo φ s) - stdy (dq (dd φ) (pq φ c) (mo φ s)) (dq (dd φ) (pq φ 0) (mo φ s))) := by grind
    rw [e, quo_sc hla]
  · have e : -(ab l * stn (dd φ) (Rq φ) (cq φ) (2 * nb φ) (mo φ s)) - ab l * stdy (dq (dd φ) (pq φ c) (mo φ s)) (dq (dd φ) (pq φ 0) (mo φ s)) = ab l * (-stn (dd φ) (Rq φ) (cq φ) (2 * nb φ) (mo φ s) - stdy (dq (dd φ) (pq φ c) (mo φ s)) (dq (dd φ) (pq φ 0) (mo φ s))) := by grind
    rw [e, quo_sc hla]
/-- the least factor, the extreme moments -/
noncomputable def sel (P : Rat → Prop) : Rat := @dite _ (∃ x, P x) (Classical.propDecidable _) (fun h => Classical.choose h) (fun _ => 0)
theorem sel_of {P : Rat → Prop} {x : Rat} (h : P x) (hu : ∀ y z, P y → P z → y = z) : sel P = x := by
  unfold sel
  have h2 : ∃ x, P x := ⟨x, h⟩
  rw [dif_pos h2]
  exact hu _ _ (Classical.choose_spec h2) h
/-- the greatest and the least of a set -/
def Grt (P : Rat → Prop) (x : Rat) : Prop := P x ∧ ∀ y, P y → y ≤ x
def Lst (P : Rat → Prop) (x : Rat) : Prop := P x ∧ ∀ y, P y → x ≤ y
theorem Grt_u {P : Rat → Prop} (y z : Rat) (h : Grt P y) (h2 : Grt P z) : y = z := by
  have a := h.2 z h2.1
  have b := h2.2 y h.1
  grind
theorem Lst_u {P : Rat → Prop} (y z : Rat) (h : Lst P y) (h2 : Lst P z) : y = z := by
  have a := h.2 z h2.1
  have b := h2.2 y h.1
  grind
noncomputable def LV (φ : FR) (c : Nat) : Rat := sel (Lst (FS φ c (φ.1 5)))
noncomputable def sdV (φ : FR) (c : Nat) (sd : Int) : Rat := if sd = 0 then GV φ c (φ.1 5) else LV φ c
noncomputable def mG (φ : FR) (c : Nat) (f : Rat) (e : Nat) : Rat := sel (Grt (MoS φ c f e))
noncomputable def mL (φ : FR) (c : Nat) (f : Rat) (e : Nat) : Rat := sel (Lst (MoS φ c f e))
/-- a part of a number in lowest terms -/
def ptR (x : Rat) (y : Int) : Int := if y = 0 then x.num else (x.den : Int)
def pt4 (x z : Rat) (y : Int) : Int := if y = 0 then x.num else if y = 1 then (x.den : Int) else if y = 2 then z.num else (z.den : Int)
theorem rn_q {g h : Int} : rn g h = ((g : Rat) * (h : Rat)⁻¹).num := by rw [q_div]; rfl
theorem rd_q {g h : Int} : rd g h = ((((g : Rat) * (h : Rat)⁻¹).den : Nat) : Int) := by rw [q_div]; rfl
/-- which factors a case has -/
noncomputable def rgF (φ : FR) (c : Nat) : Int := if cd (∃ f, FS φ c (φ.1 5) f) = false then 2 else if cd (∀ f, FS φ c (φ.1 5) f) = true then 1 else 0
noncomputable def erF (φ : FR) (c sd : Int) : Int := if (1 ≤ c ∧ c ≤ 2) ∧ 0 ≤ sd ∧ sd ≤ 1 then (if rk φ < dd φ then -3 else if rgF φ c.toNat = 0 then 0 else -5) else -2
