-- ===== corners as quotients =====
theorem ab_inv {D : Int} (hD : D ≠ 0) : ab (((D : Int) : Rat)⁻¹) = (((D.natAbs : Int) : Rat))⁻¹ := by
  have h0 : ((D : Int) : Rat) ≠ 0 := fun q => hD (q_0.mp q)
  have h1 : ab (((D : Int) : Rat)⁻¹) * (((D.natAbs : Int)) : Rat) = 1 := by
    rw [← ab_int, ← ab_mul, Rat.inv_mul_cancel _ h0]
    exact ab_of (by decide)
  have h2 : (((D.natAbs : Int)) : Rat) ≠ 0 := fun q => by have := q_0.mp q; omega
  have h3 := Rat.mul_inv_cancel _ h2
  generalize (((D.natAbs : Int)) : Rat)⁻¹ = i at *
  generalize (((D.natAbs : Int)) : Rat) = a at *
  generalize ab (((D : Int) : Rat)⁻¹) = b at *
  have h4 : b * (a * i) = (b * a) * i := by grind
  rw [h3, h1] at h4
  grind
theorem q_able {v D s l : Int} (hD : D ≠ 0) (hl : 0 < l) : ab ((v : Rat) * (D : Rat)⁻¹) ≤ (s : Rat) * (l : Rat)⁻¹ ↔ (v.natAbs : Int) * l ≤ s * D.natAbs := by
  have hDn : (0 : Int) < D.natAbs := by omega
  rw [← q_quo hl, ab_mul, ab_int, ab_inv hD]
  have h1 : ((v.natAbs : Int) : Rat) * (((D.natAbs : Int) : Rat))⁻¹ * (l : Rat) = (((v.natAbs : Int) * l : Int) : Rat) * (((D.natAbs : Int) : Rat))⁻¹ := by
    rw [Rat.intCast_mul]; grind
  rw [h1, ← q_quo2 hDn, ← Rat.intCast_mul, q_le]
section
variable {N : Nat} {σ : ZS} {φ : FR}
/-- the measure of a corner's numbers -/
noncomputable def DnI (φ : FR) (P : Nat → Nat → Int) (by_ : Int) : Int := 12 * by_ * dt (dd φ) P
noncomputable def zq (φ : FR) (Cm : Nat) (P : Nat → Nat → Int) (pi : Nat → Nat) (S T : Nat → Int) (by_ : Int) (g e : Nat) : Rat := (zIn φ Cm P pi S T by_ g e : Rat) * (DnI φ P by_ : Rat)⁻¹
noncomputable def yq (φ : FR) (Cm : Nat) (P : Nat → Nat → Int) (pi : Nat → Nat) (S T : Nat → Int) (by_ : Int) (c g : Nat) : Rat := (yIn φ Cm P pi S T by_ c g : Rat) * (DnI φ P by_ : Rat)⁻¹
theorem DnI_ne {s : ZS} {Cm : Nat} {P : Nat → Nat → Int} {pi : Nat → Nat} {B1 B2 : Nat} (hV : SLV φ s Cm P pi B1 B2) {by_ : Int} (hby : 0 < by_) : DnI φ P by_ ≠ 0 := Int.mul_ne_zero (by omega) hV.1.2.2.1
theorem crn_q (w : WF φ) {s : ZS} {Cm c : Nat} (hc : c < 3) (hends : ∀ k, k < 12 → Cm.testBit k = true → k < 2 * nb φ) (hL : OneL Cm c) {P : Nat → Nat → Int} {pi : Nat → Nat} {B1 B2 : Nat} (hV : SLV φ s Cm P pi B1 B2) (S T : Nat → Int) {by_ : Int} (hby : 0 < by_) (g : Nat) {j : Nat} (hj : j < dd φ) : sQ (2 * nb φ) (fun e => zq φ Cm P pi S T by_ g e * Rq φ e j) + yq φ Cm P pi S T by_ c g * pq φ c j = ((T 0 : Rat) * pq φ 0 j + (T 1 : Rat) * pq φ 1 j + (T 2 : Rat) * pq φ 2 j) * (by_ : Rat)⁻¹ := by
  have h1 := crn_int w hc hends hL hV S T by_ g hj
  have hP := hV.1.2.2.1
  have h2 : ((sZ (2 * nb φ) (fun e => zIn φ Cm P pi S T by_ g e * Rz φ e j) + yIn φ Cm P pi S T by_ c g * pz φ c j : Int) : Rat) = ((dt (dd φ) P * (12 * (T 0 * pz φ 0 j + T 1 * pz φ 1 j + T 2 * pz φ 2 j)) : Int) : Rat) := by rw [h1]
  rw [Rat.intCast_add, sZQ, Rat.intCast_mul, Rat.intCast_mul, Rat.intCast_mul, Rat.intCast_add, Rat.intCast_add, Rat.intCast_mul, Rat.intCast_mul, Rat.intCast_mul] at h2
  have h3 : sQ (2 * nb φ) (fun e => zq φ Cm P pi S T by_ g e * Rq φ e j) = (DnI φ P by_ : Rat)⁻¹ * sQ (2 * nb φ) (fun e => ((zIn φ Cm P pi S T by_ g e * Rz φ e j : Int) : Rat)) := by
    rw [← sQ_mul]
    refine sQ_congr (fun e _ => ?_)
    try dsimp only
    unfold zq Rq
    rw [Rat.intCast_mul]
    grind
  rw [h3]
  unfold yq pq DnI
  have hb0 : ((by_ : Int) : Rat) ≠ 0 := fun q => by have := q_0.mp q; omega
  have hP0 : ((dt (dd φ) P : Int) : Rat) ≠ 0 := fun q => hP (q_0.mp q)
  rw [Rat.intCast_mul, Rat.intCast_mul]
  have h12 : ((12 : Int) : Rat) = 12 := rfl
  rw [h12] at h2 ⊢
  generalize ((dt (dd φ) P : Int) : Rat) = B at *
  generalize ((by_ : Int) : Rat) = b at *
  have hDi : (12 * b * B) * (12 * b * B)⁻¹ = 1 := Rat.mul_inv_cancel _ (fun q => by
    rcases Rat.mul_eq_zero.mp q with q | q
    · rcases Rat.mul_eq_zero.mp q with q | q
      · exact absurd q (by decide)
      · exact hb0 q
    · exact hP0 q)
  have hbi : b * b⁻¹ = 1 := Rat.mul_inv_cancel _ hb0
  generalize (12 * b * B)⁻¹ = i at *
  generalize b⁻¹ = bi at *
  generalize sQ (2 * nb φ) (fun e => ((zIn φ Cm P pi S T by_ g e * Rz φ e j : Int) : Rat)) = X at *
  generalize ((yIn φ Cm P pi S T by_ c g : Int) : Rat) = Yy at *
  generalize ((pz φ c j : Int) : Rat) = pc at *
  generalize ((T 0 : Int) : Rat) * ((pz φ 0 j : Int) : Rat) + ((T 1 : Int) : Rat) * ((pz φ 1 j : Int) : Rat) + ((T 2 : Int) : Rat) * ((pz φ 2 j : Int) : Rat) = q at *
  have e1 : i * X + Yy * i * pc = i * (X + Yy * pc) := by grind
  rw [e1, h2]
  have e2 : i * (B * (12 * q)) * (b * bi) = (12 * b * B * i) * (q * bi) := by grind
  rw [hbi, hDi] at e2
  grind
theorem cS_tco (w : WF φ) (S : Nat → Int) {P : Nat → Nat → Int} (hP : dt (dd φ) P ≠ 0) {by_ : Int} (hby : 0 < by_) {e : Nat} (he : e < 2 * nb φ) (x : Int) : ((dt (dd φ) P * (x * tco φ S by_ e) : Int) : Rat) * (DnI φ P by_ : Rat)⁻¹ = (x : Rat) * cS φ S e := by
  have hb2 : e / 2 < nb φ := by omega
  have hl := len_q w hb2
  have h1 := (len_12 w hb2).1
  have h2 : ((12 / lenB φ (e / 2) * lenB φ (e / 2) : Int) : Rat) = ((12 : Int) : Rat) := by rw [h1]
  have hD : ((DnI φ P by_ : Int) : Rat) ≠ 0 := fun q => by
    have := q_0.mp q
    exact Int.mul_ne_zero (a := 12 * by_) (by omega) hP this
  have hDi := Rat.mul_inv_cancel _ hD
  have hli := Rat.mul_inv_cancel _ hl
  rw [Rat.intCast_mul] at h2
  have h3 : ((12 : Int) : Rat) = 12 := rfl
  rw [h3] at h2
  unfold cS tco
  have h4 : ((DnI φ P by_ : Int) : Rat) = 12 * (by_ : Rat) * (dt (dd φ) P : Rat) := by
    unfold DnI
    rw [Rat.intCast_mul, Rat.intCast_mul, h3]
  rw [Rat.intCast_mul, Rat.intCast_mul, Rat.intCast_mul, Rat.intCast_mul]
  rw [h4] at hDi ⊢
  generalize (12 * (by_ : Rat) * (dt (dd φ) P : Rat))⁻¹ = i at *
  generalize ((lenB φ (e / 2) : Int) : Rat)⁻¹ = li at *
  generalize ((lenB φ (e / 2) : Int) : Rat) = l at *
  generalize ((12 / lenB φ (e / 2) : Int) : Rat) = q12 at *
  generalize ((dt (dd φ) P : Int) : Rat) = B at *
  generalize ((by_ : Int) : Rat) = b at *
  generalize ((S (e / 2) : Int) : Rat) = s at *
  generalize ((x : Int) : Rat) = xx at *
  have e1 : B * (xx * (b * q12 * s)) * i * (l * li) = xx * s * (q12 * l) * (b * B * i) * li := by grind
  rw [hli, h2] at e1
  have e2 : xx * s * 12 * (b * B * i) * li = xx * (s * li) * (12 * b * B * i) := by grind
  rw [e2, hDi] at e1
  grind
theorem crn_free (w : WF φ) {s : ZS} {Cm : Nat} {P : Nat → Nat → Int} {pi : Nat → Nat} {B1 B2 : Nat} (hV : SLV φ s Cm P pi B1 B2) (S T : Nat → Int) {by_ : Int} (hby : 0 < by_) (g : Nat) {e : Nat} (he : e < 2 * nb φ) (hb : ¬ Cm.testBit e = true) : zq φ Cm P pi S T by_ g e = (sgn g (cn e (ff Cm)) : Rat) * cS φ S e := by
  unfold zq zIn
  rw [if_neg hb]
  exact cS_tco w S hV.1.2.2.1 hby he _
theorem ab_sgn (g k : Nat) {x : Rat} (hx : 0 ≤ x) : ab ((sgn g k : Rat) * x) = x := by
  unfold sgn
  split
  · have : (((-1 : Int)) : Rat) * x = -x := by
      have : (((-1 : Int)) : Rat) = -1 := rfl
      rw [this]; grind
    rw [this, ab_neg, ab_of hx]
  · have : (((1 : Int)) : Rat) * x = x := by
      have : (((1 : Int)) : Rat) = 1 := rfl
      rw [this, Rat.one_mul]
    rw [this, ab_of hx]
theorem crn_win (w : WF φ) {s : ZS} {Cm : Nat} {P : Nat → Nat → Int} {pi : Nat → Nat} {B1 B2 : Nat} (hV : SLV φ s Cm P pi B1 B2) {S : Nat → Int} (hS : ∀ b, b < nb φ → 0 ≤ S b) (T : Nat → Int) {by_ : Int} (hby : 0 < by_) (g : Nat) : Win φ Cm P pi S T by_ g ↔ ∀ e, e < 2 * nb φ → ab (zq φ Cm P pi S T by_ g e) ≤ cS φ S e := by
  have hone : ∀ e, e < 2 * nb φ → Cm.testBit e = true → (((val φ Cm P pi S T by_ (cn e (bt Cm)) g).natAbs : Int) ≤ mst φ P S by_ e ↔ ab (zq φ Cm P pi S T by_ g e) ≤ cS φ S e) := fun e he hb => by
    have hb2 : e / 2 < nb φ := by omega
    have hlen := (len_rg w hb2).1
    have h1 := (len_12 w hb2).1
    unfold zq zIn cS
    rw [if_pos hb, q_able (DnI_ne hV hby) (by omega)]
    unfold mst DnI
    have h2 : ((12 * by_ * dt (dd φ) P).natAbs : Int) = 12 * by_ * ((dt (dd φ) P).natAbs : Int) := by
      rw [Int.natAbs_mul, Int.natAbs_mul]
      have : ((by_.natAbs : Nat) : Int) = by_ := by omega
      rw [Int.natCast_mul, Int.natCast_mul, this]; rfl
    rw [h2]
    generalize ((val φ Cm P pi S T by_ (cn e (bt Cm)) g).natAbs : Int) = v
    generalize ((dt (dd φ) P).natAbs : Int) = B
    generalize S (e / 2) = s
    generalize 12 / lenB φ (e / 2) = q at *
    generalize lenB φ (e / 2) = l at *
    have h3 : s * (12 * by_ * B) = (q * by_ * B * s) * l := by
      rw [← h1]; grind
    rw [h3]
    constructor
    · intro h; exact Int.mul_le_mul_of_nonneg_right h (by omega)
    · intro h; exact Int.le_of_mul_le_mul_right h (by omega)
  constructor
  · intro h e he
    by_cases hb : Cm.testBit e = true
    · exact (hone e he hb).mp (h e he hb)
    · rw [crn_free w hV S T hby g he hb, ab_sgn _ _ (cS_nn w hS he)]
      exact Rat.le_refl
  · intro h e he hb
    exact (hone e he hb).mpr (h e he)
/-- columns of a set are other than one another -/
def IndC (φ : FR) (Cm c : Nat) : Prop := ∀ (dl_ : Nat → Rat) (et : Rat), (∀ e, e < 2 * nb φ → Cm.testBit e = false → dl_ e = 0) → (Cm.testBit (12 + c) = false → et = 0) → (∀ j, j < dd φ → sQ (2 * nb φ) (fun e => dl_ e * Rq φ e j) + et * pq φ c j = 0) → (∀ e, e < 2 * nb φ → dl_ e = 0) ∧ et = 0
theorem ind_dep (w : WF φ) {Cm c : Nat} (hc : c < 3) (hends : ∀ k, k < 12 → Cm.testBit k = true → k < 2 * nb φ) (hL : OneL Cm c) (hI : IndC φ Cm c) : ¬ Dep φ Cm := fun ⟨y, ⟨k, hk, hky⟩, hy0, hy⟩ => by
  have hw2 := w.2.1
  obtain ⟨h1, h2⟩ := hI (fun e => (y e : Rat)) (y (12 + c) : Rat) (fun e _ hb => by try dsimp only
                                                                                    rw [hy0 e hb]; rfl) (fun hb => by rw [hy0 _ hb]; rfl) (fun j hj => by
    have h3 := sum15 w hc hends hL hy0 j
    rw [hy j hj] at h3
    have h4 : ((0 : Int) : Rat) = ((sZ (2 * nb φ) (fun e => y e * Rz φ e j) + y (12 + c) * pz φ c j : Int) : Rat) := by rw [← h3]
    rw [Rat.intCast_add, sZQ, Rat.intCast_mul] at h4
    have h5 : sQ (2 * nb φ) (fun e => (y e : Rat) * Rq φ e j) = sQ (2 * nb φ) (fun e => ((y e * Rz φ e j : Int) : Rat)) := sQ_congr (fun e _ => by
      try dsimp only
      rw [Rat.intCast_mul]; rfl)
    try dsimp only
    rw [h5]
    exact h4.symm)
  apply hky
  by_cases q : Cm.testBit k = true
  · by_cases q2 : k < 12
    · have := h1 k (hends k q2 q)
      exact q_0.mp this
    · have := hL k (by omega) hk q
      rw [this]
      exact q_0.mp h2
  · exact hy0 k (by
      cases hq : Cm.testBit k with
      | false => rfl
      | true => exact absurd hq q)
/-- every corner comes at some signs -/
theorem crn_all (w : WF φ) {s : ZS} {Cm c : Nat} (hc : c < 3) (hends : ∀ k, k < 12 → Cm.testBit k = true → k < 2 * nb φ) (hL : OneL Cm c) {P : Nat → Nat → Int} {pi : Nat → Nat} {B1 B2 : Nat} (hV : SLV φ s Cm P pi B1 B2) (hI : IndC φ Cm c) {S : Nat → Int} (T : Nat → Int) {by_ : Int} (hby : 0 < by_) {x : Nat → Rat} {et : Rat} (hx : ∀ e, e < 2 * nb φ → Cm.testBit e = false → ab (x e) = cS φ S e) (het : Cm.testBit (12 + c) = false → et = 0) (heq : ∀ j, j < dd φ → sQ (2 * nb φ) (fun e => x e * Rq φ e j) + et * pq φ c j = ((T 0 : Rat) * pq φ 0 j + (T 1 : Rat) * pq φ 1 j + (T 2 : Rat) * pq φ 2 j) * (by_ : Rat)⁻¹) : ∃ g, g < 2 ^ cn (2 * nb φ) (ff Cm) ∧ (∀ e, e < 2 * nb φ → zq φ Cm P pi S T by_ g e = x e) ∧ yq φ Cm P pi S T by_ c g = et := by
  obtain ⟨g, hg⟩ : ∃ g, g = mkd (fun k => decide (x (fre φ Cm k) < 0)) 0 (cn (2 * nb φ) (ff Cm)) := ⟨_, rfl⟩
  have hfr : ∀ e, e < 2 * nb φ → Cm.testBit e = false → zq φ Cm P pi S T by_ g e = x e := fun e he hb => by
    have hf : ff Cm e = true := by unfold ff; rw [hb]; rfl
    obtain ⟨h1, h2⟩ := fre_at (φ := φ) he hf
    rw [crn_free w hV S T hby g he (by rw [hb]; decide)]
    have hbit : g.testBit (cn e (ff Cm)) = decide (x e < 0) := by
      rw [hg, mkd_bit, Nat.zero_add, h2, decide_eq_true h1, Bool.true_and]
    have h3 := hx e he hb
    unfold sgn
    rw [hbit]
    by_cases q : x e < 0
    · rw [decide_eq_true q, if_pos rfl, ← h3]
      have h4 : ab (x e) = - x e := by unfold ab; rw [if_pos q]
      have h5 : (((-1 : Int)) : Rat) = -1 := rfl
      rw [h4, h5]; grind
    · rw [decide_eq_false q, if_neg (by decide), ← h3]
      have h4 : ab (x e) = x e := by unfold ab; rw [if_neg q]
      have h5 : (((1 : Int)) : Rat) = 1 := rfl
      rw [h4, h5, Rat.one_mul]
  obtain ⟨h1, h2⟩ := hI (fun e => x e - zq φ Cm P pi S T by_ g e) (et - yq φ Cm P pi S T by_ c g) (fun e he hb => by
    try dsimp only
    rw [hfr e he hb]; grind) (fun hb => by
    have : yq φ Cm P pi S T by_ c g = 0 := by
      unfold yq yIn
      rw [if_neg (by rw [hb]; decide)]
      exact Rat.zero_mul _
    rw [het hb, this]; grind) (fun j hj => by
    have a1 := crn_q w hc hends hL hV S T hby g hj
    have a2 := heq j hj
    have a3 : sQ (2 * nb φ) (fun e => (x e - zq φ Cm P pi S T by_ g e) * Rq φ e j) = sQ (2 * nb φ) (fun e => x e * Rq φ e j) - sQ (2 * nb φ) (fun e => zq φ Cm P pi S T by_ g e * Rq φ e j) := by
      rw [← sQ_sub]
      exact sQ_congr (fun e _ => by try dsimp only
                                    grind)
    try dsimp only
    rw [a3]
    rw [← a1] at a2
    grind)
  refine ⟨g, by rw [hg]; exact mkd_lt _ _ _, fun e he => ?_, ?_⟩
  · have := h1 e he
    try dsimp only at this
    grind
  · grind
end
