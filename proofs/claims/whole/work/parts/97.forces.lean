-- ===== forces that bear: what moments an end may have =====
/-- forces at the ends, within the strengths, that bear the loads of a case -/
def Fz (φ : FR) (c : Nat) (S : Nat → Int) (f : Rat) (z : Nat → Rat) : Prop := (∀ e, e < 2 * nb φ → ab (z e) ≤ cS φ S e) ∧ ∀ j, j < dd φ → sQ (2 * nb φ) (fun e => z e * Rq φ e j) = PF φ c f j
section
variable {N : Nat} {φ : FR} {pi : Nat → Nat}
theorem PF_q (c : Nat) (f : Rat) (q : Nat → Rat) : dq (dd φ) (PF φ c f) q = dq (dd φ) (pq φ 0) q + f * dq (dd φ) (pq φ c) q := by
  have := dq_lin_l (dd φ) q (pq φ 0) (pq φ c) 1 f
  rw [Rat.one_mul] at this
  rw [← this]
  exact dq_congr (fun j _ => by unfold PF; rw [Rat.one_mul]) (fun _ _ => rfl)
theorem dq_ng (d : Nat) (p q : Nat → Rat) : dq d p (fun j => (-1) * q j) = - dq d p q := by rw [dq_mul]; grind
theorem stn_ng (d n : Nat) (R : Nat → Nat → Rat) (c : Nat → Rat) (q : Nat → Rat) : stn d R c n (fun j => (-1) * q j) = stn d R c n q := by
  unfold stn
  exact sQ_congr (fun e _ => by rw [dq_ng, ab_neg])
theorem cS_nn (w : WF φ) {S : Nat → Int} (hS : ∀ b, b < nb φ → 0 ≤ S b) {e : Nat} (he : e < 2 * nb φ) : 0 ≤ cS φ S e := by
  have hlen := len_rg w (b := e / 2) (by omega)
  unfold cS
  exact Rat.mul_nonneg (Rat.intCast_nonneg.mpr (hS _ (by omega))) (Rat.le_of_lt (Rat.inv_pos.mpr (q_pos.mpr (by omega))))
theorem FS_z (w : WF φ) (hN : NLF φ) {c : Nat} {S : Nat → Int} (hS : ∀ b, b < nb φ → 0 ≤ S b) (f : Rat) : FS φ c S f ↔ ∃ z, Fz φ c S f z := by
  constructor
  · intro h
    obtain ⟨z, h1, h2⟩ := borne hN (c := cS φ S) (fun e he => cS_nn w hS he) (p := PF φ c f) (fun q hq => by
      have := (ab_iff.mp (h q hq)).1
      rw [PF_q]; exact this)
    exact ⟨z, h1, h2⟩
  · rintro ⟨z, h1, h2⟩ q hq
    rw [← PF_q, ab_iff]
    refine ⟨borne_le h1 h2 q, ?_⟩
    have := borne_le h1 h2 (fun j => (-1) * q j)
    rw [dq_ng, stn_ng] at this
    exact this
/-- one end taken out -/
def co (c : Nat → Rat) (e : Nat) : Nat → Rat := fun e' => if e' = e then 0 else c e'
theorem stn_co {n d : Nat} {R : Nat → Nat → Rat} {c : Nat → Rat} {e : Nat} (he : e < n) (q : Nat → Rat) : stn d R (co c e) n q = stn d R c n q - c e * ab (dq d (R e) q) := by
  have h : stn d R c n q = stn d R (co c e) n q + sQ n (fun e' => if e' = e then c e' * ab (dq d (R e') q) else 0) := by
    unfold stn
    rw [← sQ_add]
    refine sQ_congr (fun e' _ => ?_)
    unfold co
    by_cases h : e' = e
    · rw [if_pos h, if_pos h]; grind
    · rw [if_neg h, if_neg h]; grind
  rw [h, sQ_one (f := fun e' => if e' = e then c e' * ab (dq d (R e') q) else 0) (k := e) he (fun i _ hi => if_neg hi), if_pos rfl]
  grind
theorem MoS_z (w : WF φ) (hN : NLF φ) {c : Nat} {f : Rat} (hf : FS φ c (φ.1 5) f) {e : Nat} (he : e < 2 * nb φ) (m : Rat) : MoS φ c f e m ↔ ∃ z, Fz φ c (φ.1 5) f z ∧ z e * ((lenB φ (e / 2) : Int) : Rat) = m := by
  have hl := len_q w (b := e / 2) (by omega)
  have hl2 := len_rg w (b := e / 2) (by omega)
  have hlp : (0 : Rat) < ((lenB φ (e / 2) : Int) : Rat) := q_pos.mpr (by omega)
  have hi : ((lenB φ (e / 2) : Int) : Rat) * ((lenB φ (e / 2) : Int) : Rat)⁻¹ = 1 := Rat.mul_inv_cancel _ hl
  have hip := Rat.inv_pos.mpr hlp
  have hnn : ∀ {e : Nat}, e < 2 * nb φ → 0 ≤ cS φ (φ.1 5) e := fun he => cS_nn w (S := φ.1 5) (fun b hb => by have := (w.2.2.2.1 b hb).2.2.2.2; omega) he
  -- loads without the end's part
  have hp : ∀ (y : Rat) (q : Nat → Rat), dq (dd φ) (fun j => PF φ c f j - y * Rq φ e j) q = dq (dd φ) (PF φ c f) q - y * dq (dd φ) (Rq φ e) q := fun y q => by
    have := dq_lin_l (dd φ) q (PF φ c f) (Rq φ e) 1 (-y)
    rw [Rat.one_mul] at this
    have e2 : dq (dd φ) (fun j => PF φ c f j - y * Rq φ e j) q = dq (dd φ) (fun j => 1 * PF φ c f j + -y * Rq φ e j) q := dq_congr (fun j _ => by grind) (fun _ _ => rfl)
    rw [e2, this]; grind
  constructor
  · rintro ⟨h0, h1⟩
    obtain ⟨y, hy⟩ : ∃ y, y = m * ((lenB φ (e / 2) : Int) : Rat)⁻¹ := ⟨_, rfl⟩
    obtain ⟨z, z1, z2⟩ := borne hN (c := co (cq φ) e) (fun e' he' => by
      unfold co
      split
      · exact Rat.le_refl
      · rw [cq_S]; exact hnn he') (p := fun j => PF φ c f j - y * Rq φ e j) (fun q hq => by
        rw [hp, stn_co he]
        by_cases hne : dq (dd φ) (Rq φ e) q = 0
        · rw [hne, ab_z, Rat.mul_zero, Rat.mul_zero, PF_q]
          have := (ab_iff.mp (hf q hq)).1
          rw [← cq_S] at this
          grind
        · have := (ab_iff.mp (h1 q hq hne)).1
          rw [← hy] at this
          exact this)
    refine ⟨fun e' => if e' = e then y else z e', ⟨fun e' he' => ?_, fun j hj => ?_⟩, ?_⟩
    · dsimp only
      have := z1 e' he'
      unfold co at this
      by_cases q : e' = e
      · subst q
        rw [if_pos rfl, hy, ab_mul, ab_of (Rat.le_of_lt hip)]
        exact Rat.mul_le_mul_of_nonneg_right h0 (Rat.le_of_lt hip)
      · rw [if_neg q] at this ⊢
        rw [← cq_S]; exact this
    · have hz := z2 j hj
      have hze : z e = 0 := by
        have := z1 e he
        unfold co at this
        rw [if_pos rfl] at this
        have h2 := ab_nn (z e)
        exact ab_0.mp (by grind)
      have e1 : sQ (2 * nb φ) (fun e' => (if e' = e then y else z e') * Rq φ e' j) = sQ (2 * nb φ) (fun e' => z e' * Rq φ e' j) + sQ (2 * nb φ) (fun e' => if e' = e then y * Rq φ e' j else 0) := by
        rw [← sQ_add]
        refine sQ_congr (fun e' _ => ?_)
        by_cases q : e' = e
        · subst q; rw [if_pos rfl, if_pos rfl, hze]; grind
        · rw [if_neg q, if_neg q]; grind
      dsimp only
      rw [e1, hz, sQ_one (f := fun e' => if e' = e then y * Rq φ e' j else 0) (k := e) he (fun i _ hi => if_neg hi), if_pos rfl]
      grind
    · dsimp only
      rw [if_pos rfl, hy, Rat.mul_assoc, Rat.mul_comm _ ((lenB φ (e / 2) : Int) : Rat), hi, Rat.mul_one]
  · rintro ⟨z, ⟨z1, z2⟩, rfl⟩
    have h0 := z1 e he
    have e1 : z e * ((lenB φ (e / 2) : Int) : Rat) * ((lenB φ (e / 2) : Int) : Rat)⁻¹ = z e := by rw [Rat.mul_assoc, hi, Rat.mul_one]
    refine ⟨?_, fun q hq hne => ?_⟩
    · rw [ab_mul, ab_of (Rat.le_of_lt hlp)]
      have h2 := Rat.mul_le_mul_of_nonneg_right h0 (Rat.le_of_lt hlp)
      unfold cS at h2
      rw [Rat.mul_assoc, Rat.mul_comm (((lenB φ (e / 2) : Int) : Rat)⁻¹) ((lenB φ (e / 2) : Int) : Rat), hi, Rat.mul_one] at h2
      exact h2
    · rw [e1, ← stn_co he, ← hp]
      have b1 : ∀ q, dq (dd φ) (fun j => PF φ c f j - z e * Rq φ e j) q ≤ stn (dd φ) (Rq φ) (co (cq φ) e) (2 * nb φ) q := fun q => borne_le (z := fun e' => if e' = e then 0 else z e') (fun e' he' => by
        unfold co
        by_cases q : e' = e
        · rw [if_pos q, if_pos q, ab_z]; exact Rat.le_refl
        · rw [if_neg q, if_neg q, cq_S]; exact z1 e' he') (fun j hj => by
        rw [← z2 j hj]
        have e3 : sQ (2 * nb φ) (fun e' => z e' * Rq φ e' j) = sQ (2 * nb φ) (fun e' => (if e' = e then 0 else z e') * Rq φ e' j) + sQ (2 * nb φ) (fun e' => if e' = e then z e' * Rq φ e' j else 0) := by
          rw [← sQ_add]
          refine sQ_congr (fun e' _ => ?_)
          by_cases q : e' = e
          · rw [if_pos q, if_pos q]; grind
          · rw [if_neg q, if_neg q]; grind
        rw [e3, sQ_one (f := fun e' => if e' = e then z e' * Rq φ e' j else 0) (k := e) he (fun i _ hi => if_neg hi), if_pos rfl]
        grind) q
      rw [ab_iff]
      refine ⟨b1 q, ?_⟩
      have := b1 (fun j => (-1) * q j)
      rw [dq_ng, stn_ng] at this
      exact this
theorem MoS_ne (w : WF φ) (hN : NLF φ) {c : Nat} {f : Rat} (hf : FS φ c (φ.1 5) f) {e : Nat} (he : e < 2 * nb φ) : ∃ m, MoS φ c f e m := by
  obtain ⟨z, hz⟩ := (FS_z w hN (fun b hb => by have := (w.2.2.2.1 b hb).2.2.2.2; omega) f).mp hf
  exact ⟨_, (MoS_z w hN hf he _).mpr ⟨z, hz, rfl⟩⟩
end
