-- ===== a way is a mechanism; which motions a search still finds =====
section
variable {N : Nat} {σ : ZS} {φ : FR}
/-- what the reference keeps of a mechanism -/
def MotM (φ : FR) (u : Nat → Int) (s : Nat) : Prop := ElF φ (fun j => (u j : Rat)) ∧ s = mq φ (fun j => (u j : Rat)) ∧ (∀ j, j < ds φ → (u j).natAbs ≤ 524288) ∧ (∀ j, j < dd φ → (u j).natAbs ≤ 67108864) ∧ ∀ e, e < 2 * nb φ → (tw φ e u).natAbs ≤ 524288
theorem tw_alg {a b : Int} {u x : Nat → Int} (h : ∀ j, j < dd φ → a * u j = b * x j) (e : Nat) : a * tw φ e u = b * tw φ e x := by
  unfold tw
  rw [← sZ_mul, ← sZ_mul]
  refine sZ_congr (fun j hj => ?_)
  try dsimp only
  calc a * (Rz φ e j * u j) = Rz φ e j * (a * u j) := by grind
    _ = Rz φ e j * (b * x j) := by rw [h j hj]
    _ = b * (Rz φ e j * x j) := by grind
theorem alg_rat {d : Nat} {u x : Nat → Int} {a b : Int} (b0 : b ≠ 0) (h : ∀ j, j < d → a * u j = b * x j) : ∀ j, j < d → ((x j : Int) : Rat) = (a : Rat) * (b : Rat)⁻¹ * (u j : Rat) := fun j hj => by
  have h1 := h j hj
  have h2 : ((a * u j : Int) : Rat) = ((b * x j : Int) : Rat) := by rw [h1]
  rw [Rat.intCast_mul, Rat.intCast_mul] at h2
  have hi : (b : Rat) * (b : Rat)⁻¹ = 1 := Rat.mul_inv_cancel _ (fun q => b0 (q_0.mp q))
  generalize (b : Rat)⁻¹ = i at *
  have h3 : i * ((b : Rat) * (x j : Rat)) = ((b : Rat) * i) * (x j : Rat) := by grind
  rw [hi, ← h2] at h3
  grind
theorem xv_self {Y : Nat → Nat} {f : Nat} (h : Y f = 12 + f) : xv φ Y f f = Dt φ Y := by
  unfold xv Dt
  refine dt_congr (fun i hi j hj => ?_)
  unfold up
  by_cases q : i = f
  · rw [if_pos q, q]
    unfold Mx
    rw [h]
    unfold fu
    rw [if_neg (by omega), show 12 + f - 12 = f by omega]
  · rw [if_neg q]
theorem way_mech (w : WF φ) (hNL : NLF φ) {l : Nat} {E P : Nat → Nat} (h : SP φ l E P) (hl : l + 1 = dd φ) {f : Nat} (hf : f < dd φ) (hfu : YS E P l f = 12 + f) {u : Nat → Int} (hg : gz (dd φ) u = 1) (ha : alg (dd φ) u (xv φ (YS E P l) f)) : MotM φ u (mq φ (fun j => (u j : Rat))) ∧ (∀ k, k < l → tw φ (E k) u = 0) ∧ ∀ q : Nat → Rat, (∀ k, k < l → dq (dd φ) (Rq φ (E k)) q = 0) → ∃ r : Rat, ∀ j, j < dd φ → q j = r * (u j : Rat) := by
  have hw2 := w.2.1
  obtain ⟨a, b, a0, b0, e⟩ := ha
  have hD := Dt_YS w h
  have hxf : xv φ (YS E P l) f f = Dt φ (YS E P l) := xv_self hfu
  obtain ⟨f', hf', hm, hall'⟩ := inj_miss (SP_inj w h) (fun k hk => by have := (h k hk).2.1; omega)
  have hff : f = f' := by
    apply Classical.byContradiction
    intro q
    obtain ⟨k, h1, h2⟩ := hall' f (by omega) q
    have h3 := YS_at w h k h1
    have h4 := (h k h1).1
    rw [h2] at h3; omega
  have hall : ∀ j, j < dd φ → j ≠ f → ∃ k, k < l ∧ P k = j := fun j hj hjf => hall' j (by omega) (by omega)
  have hYe : ∀ j, j < dd φ → j ≠ f → ∃ k, k < l ∧ YS E P l j = E k := fun j hj hjf => by
    obtain ⟨k, h1, rfl⟩ := hall j hj hjf
    exact ⟨k, h1, YS_at w h k h1⟩
  have hxE : ∀ k, k < l → tw φ (E k) (xv φ (YS E P l) f) = 0 := fun k hk => by
    obtain ⟨h1, h2, _⟩ := h k hk
    have h3 := YS_at w h k hk
    have := psi_x w (Y := YS E P l) (l := P k) (k := f) h2 hf (by rw [h3]; exact h1)
    rw [h3, if_neg (fun q => by rw [q] at h3; omega)] at this
    exact this
  -- sizes
  have okE : ∀ m c, okc φ m c → ∀ j, j < dd φ → okc φ m (upN (YS E P l) f c j) := fun m c hc j hj => by
    unfold upN
    by_cases q : j = f
    · rw [if_pos q]; exact hc
    · obtain ⟨k, h1, h2⟩ := hYe j hj q
      rw [if_neg q, h2]
      exact Or.inl (h k h1).1
  have hds := ds_le (φ := φ)
  have hx1 : ∀ j, j < ds φ → (xv φ (YS E P l) f j).natAbs ≤ 524288 := fun j hj => by
    unfold xv
    rw [← Mx_un]
    exact dt_few w (okE (ds φ) _ (Or.inr ⟨by omega, by omega⟩))
  have hx2 : ∀ j, j < dd φ → (xv φ (YS E P l) f j).natAbs ≤ 67108864 := fun j hj => by
    unfold xv
    rw [← Mx_un]
    exact dt_any w (okE (dd φ) _ (Or.inr ⟨by omega, by omega⟩))
  have hx3 : ∀ i, i < 2 * nb φ → (tw φ i (xv φ (YS E P l) f)).natAbs ≤ 524288 := fun i hi => by
    rw [tw_xv _ hf, ← Mx_up w _ f hi]
    exact dt_few w (okE (ds φ) _ (Or.inl hi))
  have hle := prim_le hg a0 b0 e
  have hab : b.natAbs ≤ a.natAbs := by
    have h1 := e f hf
    have h2 := hle f hf
    have h3 : a.natAbs * (u f).natAbs = b.natAbs * (xv φ (YS E P l) f f).natAbs := by rw [← Int.natAbs_mul, ← Int.natAbs_mul, h1]
    have h4 : xv φ (YS E P l) f f ≠ 0 := by rw [hxf]; exact hD
    have h5 : 0 < (xv φ (YS E P l) f f).natAbs := by omega
    generalize (xv φ (YS E P l) f f).natAbs = X at *
    have h6 : b.natAbs * X ≤ a.natAbs * X := by rw [← h3]; exact Nat.mul_le_mul_left _ h2
    exact Nat.le_of_mul_le_mul_right h6 h5
  have htw : ∀ i, a * tw φ i u = b * tw φ i (xv φ (YS E P l) f) := tw_alg e
  have htwb : ∀ i, i < 2 * nb φ → (tw φ i u).natAbs ≤ 524288 := fun i hi => by
    have h1 := htw i
    have h3 : a.natAbs * (tw φ i u).natAbs = b.natAbs * (tw φ i (xv φ (YS E P l) f)).natAbs := by rw [← Int.natAbs_mul, ← Int.natAbs_mul, h1]
    have h4 : a.natAbs * (tw φ i u).natAbs ≤ a.natAbs * (tw φ i (xv φ (YS E P l) f)).natAbs := by rw [h3]; exact Nat.mul_le_mul_right _ hab
    exact Nat.le_trans (Nat.le_of_mul_le_mul_left h4 (by omega)) (hx3 i hi)
  -- an end that twists
  obtain ⟨es, hes1, hes2⟩ : ∃ i, i < 2 * nb φ ∧ tw φ i (xv φ (YS E P l) f) ≠ 0 := by
    apply Classical.byContradiction
    intro q
    have h1 := hNL (fun j => (xv φ (YS E P l) f j : Rat)) (fun i hi => by
      rw [tw_q0]
      apply Classical.byContradiction
      intro q2
      exact q ⟨i, hi, q2⟩) f hf
    have h1 : ((xv φ (YS E P l) f f : Int) : Rat) = 0 := h1
    rw [q_0, hxf] at h1
    exact hD h1
  have hAE : AE φ (upN (YS E P l) f es) := by
    refine ⟨fun j hj => ?_, ?_⟩
    · unfold upN
      by_cases q : j = f
      · rw [if_pos q]; exact hes1
      · obtain ⟨k, h1, h2⟩ := hYe j hj q
        rw [if_neg q, h2]; exact (h k h1).1
    · rw [D_up w _ hf hes1]; exact hes2
  have hker : ∀ q : Nat → Rat, (∀ k, k < l → dq (dd φ) (Rq φ (E k)) q = 0) → ∃ r : Rat, ∀ j, j < dd φ → q j = r * (u j : Rat) := fun q hq => by
    obtain ⟨r, hr⟩ := inV_1 w (jd := fun _ => f) hAE hf (q := q) (fun i hi hne => by
      have hif : i ≠ f := fun q2 => hne 0 (by omega) q2.symm
      obtain ⟨k, h1, h2⟩ := hYe i hi hif
      unfold upN
      rw [if_neg hif, h2]
      exact hq k h1)
    have hr : ∀ j, j < dd φ → q j = r * (xv φ (upN (YS E P l) f es) f j : Rat) := hr
    rw [xv_up w _ hes1] at hr
    have h2 := alg_rat b0 e
    exact ⟨r * ((a : Rat) * (b : Rat)⁻¹), fun j hj => by rw [hr j hj, h2 j hj]; grind⟩
  have huE : ∀ k, k < l → tw φ (E k) u = 0 := fun k hk => by
    have h1 := htw (E k)
    rw [hxE k hk, Int.mul_zero] at h1
    exact (Int.mul_eq_zero.mp h1).resolve_left a0
  refine ⟨⟨⟨⟨es, hes1, fun q => ?_⟩, fun q' hq' => ?_⟩, rfl, fun j hj => Nat.le_trans (hle j (by omega)) (hx1 j hj), fun j hj => Nat.le_trans (hle j hj) (hx2 j hj), htwb⟩, huE, hker⟩
  · rw [tw_q0] at q
    have h1 := htw es
    rw [q, Int.mul_zero] at h1
    rcases Int.mul_eq_zero.mp h1.symm with h | h
    · exact b0 h
    · exact hes2 h
  · exact hker q' (fun k hk => hq' (E k) (h k hk).1 (by rw [tw_q0]; exact huE k hk))
/-- a motion that the ends put, and those from one on, tell -/
def Dtm (φ : FR) (L : Nat) (E : Nat → Nat) (t : Nat) (q : Nat → Rat) : Prop := (∀ k, k < L → dq (dd φ) (Rq φ (E k)) q = 0) ∧ ∀ q' : Nat → Rat, (∀ k, k < L → dq (dd φ) (Rq φ (E k)) q' = 0) → (∀ e, t ≤ e → e < 2 * nb φ → dq (dd φ) (Rq φ e) q = 0 → dq (dd φ) (Rq φ e) q' = 0) → ∃ r : Rat, ∀ j, j < dd φ → q' j = r * q j
theorem Dtm_0 {E : Nat → Nat} {q : Nat → Rat} (h : ElF φ q) : Dtm φ 0 E 0 q := ⟨fun k hk => absurd hk (Nat.not_lt_zero _), fun q' _ h2 => h.2 q' (fun e he => h2 e (Nat.zero_le _) he)⟩
theorem Dtm_skip {L t : Nat} {E : Nat → Nat} {q : Nat → Rat} (h : Dtm φ L E t q) (ht : dq (dd φ) (Rq φ t) q ≠ 0) : Dtm φ L E (t + 1) q := ⟨h.1, fun q' h1 h2 => h.2 q' h1 (fun e he he2 hz => by
  by_cases q2 : e = t
  · rw [q2] at hz; exact absurd hz ht
  · exact h2 e (by omega) he2 hz)⟩
theorem Dtm_dep {L t : Nat} {E : Nat → Nat} {q : Nat → Rat} (h : Dtm φ L E t q) (ht : ∀ q' : Nat → Rat, (∀ k, k < L → dq (dd φ) (Rq φ (E k)) q' = 0) → dq (dd φ) (Rq φ t) q' = 0) : Dtm φ L E (t + 1) q := ⟨h.1, fun q' h1 h2 => h.2 q' h1 (fun e he he2 hz => by
  by_cases q2 : e = t
  · rw [q2]; exact ht q' h1
  · exact h2 e (by omega) he2 hz)⟩
theorem Dtm_put {L t : Nat} {E : Nat → Nat} {q : Nat → Rat} (h : Dtm φ L E t q) (ht : dq (dd φ) (Rq φ t) q = 0) : Dtm φ (L + 1) (upN E L t) (t + 1) q := by
  refine ⟨fun k hk => ?_, fun q' h1 h2 => h.2 q' (fun k hk => ?_) (fun e he he2 hz => ?_)⟩
  · unfold upN
    by_cases q2 : k = L
    · rw [if_pos q2]; exact ht
    · rw [if_neg q2]; exact h.1 k (by omega)
  · have := h1 k (by omega)
    unfold upN at this
    rw [if_neg (by omega)] at this
    exact this
  · by_cases q2 : e = t
    · have := h1 L (by omega)
      unfold upN at this
      rw [if_pos rfl] at this
      rw [q2]; exact this
    · exact h2 e (by omega) he2 hz
/-- too few ends are left -/
theorem Dtm_few {L t : Nat} {E : Nat → Nat} {q : Nat → Rat} (h : Dtm φ L E t q) (hq : ∃ j, j < dd φ ∧ q j ≠ 0) (ht : t ≤ 2 * nb φ) (hf : L + (2 * nb φ - t) + 1 < dd φ) : False := by
  obtain ⟨j0, hj0, hq0⟩ := hq
  obtain ⟨y, ⟨j, hj, hy⟩, hy2⟩ := li_ker (L + (2 * nb φ - t) + 1) (dd φ) (fun i => if i < L then Rq φ (E i) else if i < L + (2 * nb φ - t) then Rq φ (t + (i - L)) else uq j0) (fun _ => true) (Nat.lt_of_le_of_lt (cn_bd _ _) hf)
  obtain ⟨r, hr⟩ := h.2 y (fun k hk => by
    have := hy2 k (by omega) rfl
    try dsimp only at this
    rw [if_pos hk] at this
    exact this) (fun e he he2 _ => by
    have := hy2 (L + (e - t)) (by omega) rfl
    try dsimp only at this
    rw [if_neg (by omega), if_pos (by omega), show t + (L + (e - t) - L) = e by omega] at this
    exact this)
  have h1 := hy2 (L + (2 * nb φ - t)) (by omega) rfl
  try dsimp only at h1
  rw [if_neg (by omega), if_neg (by omega), dq_comm, dq_uq hj0] at h1
  rw [hr j0 hj0] at h1
  rcases Rat.mul_eq_zero.mp h1 with h2 | h2
  · exact hy (by rw [hr j hj, h2, Rat.zero_mul])
  · exact hq0 h2
/-- whole motions and their quotients vanish alike -/
theorem dep_q {L t : Nat} {E : Nat → Nat} (ht : ∀ x : Nat → Int, (∀ k, k < L → tw φ (E k) x = 0) → tw φ t x = 0) (q : Nat → Rat) (hq : ∀ k, k < L → dq (dd φ) (Rq φ (E k)) q = 0) : dq (dd φ) (Rq φ t) q = 0 := by
  obtain ⟨D, x, hD, hx⟩ := int_sc (dd φ) q
  have h1 : ∀ e, ((tw φ e x : Int) : Rat) = (D : Rat) * dq (dd φ) (Rq φ e) q := fun e => by
    rw [← tw_q, ← dq_mul]
    exact dq_congr (fun _ _ => rfl) hx
  have h2 := ht x (fun k hk => by
    have := h1 (E k)
    rw [hq k hk, Rat.mul_zero, q_0] at this
    exact this)
  have h3 := h1 t
  rw [h2] at h3
  have h4 : (D : Rat) ≠ 0 := fun q2 => by rw [q_0] at q2; omega
  have h5 : ((0 : Int) : Rat) = 0 := rfl
  rw [h5] at h3
  exact (Rat.mul_eq_zero.mp h3.symm).resolve_left h4
end
