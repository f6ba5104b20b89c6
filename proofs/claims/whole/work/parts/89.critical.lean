-- ===== the class: critical mechanisms, moments of ends =====
/-- a mechanism is just overcome by a case at a factor -/
def Crit (φ : FR) (c : Nat) (f : Rat) (s : Nat) : Prop := ∃ q, ElF φ q ∧ s = mq φ q ∧ ab (dq (dd φ) (PF φ c f) q) = stn (dd φ) (Rq φ) (cq φ) (2 * nb φ) q
noncomputable def crb (φ : FR) (c : Nat) (f : Rat) (s : Nat) : Bool := @decide (Crit φ c f s) (Classical.propDecidable _)
theorem crb_t {φ : FR} {c : Nat} {f : Rat} {s : Nat} : crb φ c f s = true ↔ Crit φ c f s := by unfold crb; exact @decide_eq_true_iff _ (Classical.propDecidable _)
/-- the first place where something holds, or else -6 -/
def fst1 (p : Nat → Bool) : Nat → Nat → Int
  | 0, _ => -6
  | n + 1, k => if p k then (k : Int) else fst1 p n (k + 1)
def nth (L : List Nat) (k : Nat) : Nat := (L[k]?).getD 0
section
variable {N : Nat} {φ : FR} {pi : Nat → Nat}
theorem nth_of {L : List Nat} {k s : Nat} (h : L[k]? = some s) : nth L k = s := by unfold nth; rw [h]; rfl
theorem PF_mul {c : Nat} {f : Rat} {q q' : Nat → Rat} {l : Rat} (h : ∀ j, j < dd φ → q' j = l * q j) : dq (dd φ) (PF φ c f) q' = l * dq (dd φ) (PF φ c f) q := by
  rw [← dq_mul]; exact dq_congr (fun _ _ => rfl) h
/-- the numbers decide -/
theorem crit_iff {σ : ZS} {k s c : Nat} (hc : c < 3) {q : Nat → Rat} {r : Nat → Int} {St : Int} {W : Nat → Int} (h : CW φ pi σ k s q r St W) {u v : Int} (hv : 0 < v) : (W 0 * v + W c * u).natAbs = St * v ↔ Crit φ c ((u : Rat) * (v : Rat)⁻¹) (mq φ q) := by
  obtain ⟨_, _, hel, _, _, ⟨_, a2, _, _⟩, a5⟩ := h
  have hq := lw_q (c := c) (u := u) hv (a5 0 (by omega)).2.1 (a5 c hc).2.1
  have hvq := q_pos.mpr hv
  have key : ((W 0 * v + W c * u).natAbs : Int) = St * v ↔ ab (dq (dd φ) (PF φ c ((u : Rat) * (v : Rat)⁻¹)) q) = stn (dd φ) (Rq φ) (cq φ) (2 * nb φ) q := by
    rw [← a2, ← Rat.intCast_inj, ← ab_int, hq, ab_mul, ab_of (Rat.le_of_lt hvq), Rat.intCast_mul]
    constructor
    · intro h
      have hi : (v : Rat) * (v : Rat)⁻¹ = 1 := Rat.mul_inv_cancel _ (fun w => by rw [w] at hvq; grind)
      have h2 : ab (dq (dd φ) (PF φ c ((u : Rat) * (v : Rat)⁻¹)) q) * (v : Rat) * (v : Rat)⁻¹ = (St : Rat) * (v : Rat) * (v : Rat)⁻¹ := by rw [h]
      rw [Rat.mul_assoc, hi, Rat.mul_one, Rat.mul_assoc, hi, Rat.mul_one] at h2
      exact h2
    · intro h; rw [h]
  rw [key]
  constructor
  · intro h; exact ⟨q, hel, rfl, h⟩
  · rintro ⟨q', h1, h2, h3⟩
    obtain ⟨l, hl⟩ := el_same h1 h2.symm
    rw [PF_mul hl, cq_S, stn_mul hl, ab_mul, ← cq_S, h3]
theorem s_crit1 {σ : ZS} {L : List Nat} (hM : CMe φ pi σ L) (hB : CBl φ pi σ L) {c : Nat} (hc : c < 3) {u v : Int} (hl : LmL σ c u v) {k : Nat} (hk : k < L.length) : f_X0_isCritical N (nt (k : Nat)) σ = some (nt (if crb φ c ((u : Rat) * (v : Rat)⁻¹) (nth L k) = true then 1 else 0), σ) := by
  have hL := hM.2.2.1
  obtain ⟨q, r, St, W, hw⟩ := hB.2.2 k _ (List.getElem?_eq_getElem hk)
  rw [s_isCritical (by omega) hc hw hl]
  congr 3
  have h1 := crit_iff hc hw (u := u) hl.2.2.2.1
  have h2 : nth L k = mq φ q := (nth_of (List.getElem?_eq_getElem hk)).trans hw.2.2.2.1
  by_cases e : ((W 0 * v + W c * u).natAbs : Int) = St * v
  · rw [if_pos e, if_pos (crb_t.mpr (by rw [h2]; exact h1.mp e))]
  · rw [if_neg e, if_neg (fun w => e (h1.mpr (by rw [← h2]; exact crb_t.mp w)))]
theorem s_criticalCount (hN : 1200 ≤ N) {σ : ZS} {L : List Nat} (hM : CMe φ pi σ L) (hB : CBl φ pi σ L) {c : Nat} (hc : c < 3) {u v : Int} (hl : LmL σ c u v) : f_X0_criticalCount N σ = some (nt (cn L.length (fun k => crb φ c ((u : Rat) * (v : Rat)⁻¹) (nth L k)) : Nat), σ) := by
  have hL := hM.2.2.1
  have g63 : gI σ 6 3 = nt ((L.length : Nat) : Int) := hM.2.2.2.1
  have k1 := lp_go (fun n t (x : Nat) => f_X0_criticalCount_h4 N n (nt (x : Nat)) (nt (t : Nat)) σ) (fun t => cn t (fun k => crb φ c ((u : Rat) * (v : Rat)⁻¹) (nth L k))) L.length (fun n t ht => by
    have hb : ∀ x y : Nat, f_X0_criticalCount_b29 N (fun x1_ x2_ σ_ => f_X0_criticalCount_h4 N n x1_ x2_ σ_) (nt (t : Nat)) (nt (x : Nat)) (nt (y : Nat)) σ = f_X0_criticalCount_h4 N n (nt ((x + y : Nat) : Int)) (nt ((t + 1 : Nat) : Int)) σ := fun x y => by
      rw [f_X0_criticalCount_b29, nt_add, bd_eq, n_1, nt_add, bd_eq]; rfl
    rw [f_X0_criticalCount_h4, g63, le_f (by omega) (by omega) (by omega), s_crit1 hM hB hc hl ht, obd_some, br_p, cn_s]
    by_cases e : crb φ c ((u : Rat) * (v : Rat)⁻¹) (nth L t) = true
    · rw [if_pos e]
      have := hb (cn t (fun k => crb φ c ((u : Rat) * (v : Rat)⁻¹) (nth L k))) 1
      rw [if_pos e]
      exact this
    · rw [if_neg e]
      have := hb (cn t (fun k => crb φ c ((u : Rat) * (v : Rat)⁻¹) (nth L k))) 0
      rw [if_neg e]
      exact this) L.length 0 N (by omega) (by omega)
  obtain ⟨m, em⟩ : ∃ m, N - L.length = m + 1 := ⟨N - L.length - 1, by omega⟩
  have k1 : f_X0_criticalCount_h4 N N (0 : Int32) (0 : Int32) σ = f_X0_criticalCount_h4 N (N - L.length) (nt (cn L.length (fun k => crb φ c ((u : Rat) * (v : Rat)⁻¹) (nth L k)) : Nat)) (nt (L.length : Nat)) σ := k1
  unfold f_X0_criticalCount
  rw [k1, em, f_X0_criticalCount_h4, g63, le_t (by omega) (by omega) (by omega)]
theorem s_lowestCritical (hN : 1200 ≤ N) {σ : ZS} {L : List Nat} (hM : CMe φ pi σ L) (hB : CBl φ pi σ L) {c : Nat} (hc : c < 3) {u v : Int} (hl : LmL σ c u v) : f_X0_lowestCritical N σ = some (nt (fst1 (fun k => crb φ c ((u : Rat) * (v : Rat)⁻¹) (nth L k)) L.length 0), σ) := by
  have hL := hM.2.2.1
  have g63 : gI σ 6 3 = nt ((L.length : Nat) : Int) := hM.2.2.2.1
  have key : ∀ (j t m : Nat), t + j = L.length → j + 1 ≤ m → f_X0_lowestCritical_h2 N m (nt (t : Nat)) σ = some (nt (fst1 (fun k => crb φ c ((u : Rat) * (v : Rat)⁻¹) (nth L k)) j t), σ) := by
    intro j
    induction j with
    | zero =>
      intro t m ht hm
      obtain ⟨m, rfl⟩ : ∃ k, m = k + 1 := ⟨m - 1, by omega⟩
      rw [f_X0_lowestCritical_h2, g63, le_t (by omega) (by omega) (by omega)]
      rfl
    | succ j ih =>
      intro t m ht hm
      obtain ⟨m, rfl⟩ : ∃ k, m = k + 1 := ⟨m - 1, by omega⟩
      rw [f_X0_lowestCritical_h2, g63, le_f (by omega) (by omega) (by omega), s_crit1 hM hB hc hl (by omega), obd_some, br_p, fst1]
      by_cases e : crb φ c ((u : Rat) * (v : Rat)⁻¹) (nth L t) = true
      · rw [if_pos e, if_pos e]
      · rw [if_neg e, if_neg e, n_1, nt_add, bd_eq]
        exact ih (t + 1) m (by omega) (by omega)
  exact key L.length 0 N (by omega) (by omega)
end
