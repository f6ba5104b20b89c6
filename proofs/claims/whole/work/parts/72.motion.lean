-- ===== the class's rows: motions by determinants =====
noncomputable def tw (φ : FR) (e : Nat) (x : Nat → Int) : Int := sZ (dd φ) (fun j => Rz φ e j * x j)
/-- what a row's entry reads of a motion: twelve times a twist, twelve times a shift -/
noncomputable def fvK (φ : FR) (pi : Nat → Nat) (k : Nat) : Nat → Int := if k < 2 * nb φ then (fun j => 12 / lenB φ (k / 2) * Rz φ k j) else (fun j => 12 * un (pi (k - 2 * nb φ)) j)
noncomputable def xv (φ : FR) (Y : Nat → Nat) (k : Nat) : Nat → Int := fun j => dt (dd φ) (up (Mx φ Y) k (un j))
/-- an entry of the row of a motion -/
noncomputable def T12 (φ : FR) (pi : Nat → Nat) (x : Nat → Int) (k : Nat) : Int := sZ (dd φ) (fun j => fvK φ pi k j * x j)
noncomputable def wd (φ : FR) : Nat := 2 * nb φ + ds φ
def upN (Y : Nat → Nat) (k c : Nat) : Nat → Nat := fun i => if i = k then c else Y i
noncomputable def Dt (φ : FR) (Y : Nat → Nat) : Int := dt (dd φ) (Mx φ Y)
/-- along: one is a multiple of the other -/
def alg (w : Nat) (r t : Nat → Int) : Prop := ∃ a b : Int, a ≠ 0 ∧ b ≠ 0 ∧ ∀ k, k < w → a * r k = b * t k
def RI (φ : FR) (pi : Nat → Nat) (σ : ZS) (c : Nat) (Y : Nat → Nat) (k : Nat) : Prop := ∃ r : Nat → Int, Row σ c (wd φ) r ∧ alg (wd φ) r (T12 φ pi (xv φ Y k)) ∧ (gz (wd φ) r = 1 ∨ ∀ k', k' < wd φ → r k' = 0)
section
variable {φ : FR} {pi : Nat → Nat}
theorem wd_le (w : WF φ) : wd φ ≤ 26 := by
  have h1 : ds φ ≤ 14 := cn_bd _ 14
  have := w.2.1
  unfold wd; omega
theorem Mx_up (w : WF φ) (Y : Nat → Nat) (k : Nat) {e : Nat} (he : e < 2 * nb φ) : Mx φ (upN Y k e) = up (Mx φ Y) k (Rz φ e) := by
  have := w.2.1
  funext i
  unfold Mx upN up
  by_cases h : i = k
  · rw [if_pos h, if_pos h]; unfold fu; rw [if_pos (by omega)]
  · rw [if_neg h, if_neg h]
theorem Mx_un (Y : Nat → Nat) (k j : Nat) : Mx φ (upN Y k (12 + j)) = up (Mx φ Y) k (un j) := by
  funext i
  unfold Mx upN up
  by_cases h : i = k
  · rw [if_pos h, if_pos h]; unfold fu; rw [if_neg (by omega), show 12 + j - 12 = j by omega]
  · rw [if_neg h, if_neg h]
theorem tw_xv (Y : Nat → Nat) {k : Nat} (hk : k < dd φ) (e : Nat) : tw φ e (xv φ Y k) = dt (dd φ) (up (Mx φ Y) k (Rz φ e)) := dt_adj (dd φ) (Mx φ Y) k hk (Rz φ e)
theorem T_xv (Y : Nat → Nat) {k : Nat} (hk : k < dd φ) (k' : Nat) : T12 φ pi (xv φ Y k) k' = dt (dd φ) (up (Mx φ Y) k (fvK φ pi k')) := dt_adj (dd φ) (Mx φ Y) k hk (fvK φ pi k')
theorem T_tw {e : Nat} (he : e < 2 * nb φ) (x : Nat → Int) : T12 φ pi x e = 12 / lenB φ (e / 2) * tw φ e x := by
  unfold T12 tw fvK
  rw [if_pos he, ← sZ_mul]
  exact sZ_congr (fun j _ => by rw [Int.mul_assoc])
theorem T_sh (w : WF φ) {g : Nat} (hg : g < ds φ) (hpi : pi g < dd φ) (x : Nat → Int) : T12 φ pi x (2 * nb φ + g) = 12 * x (pi g) := by
  unfold T12 fvK
  rw [if_neg (by omega), show 2 * nb φ + g - 2 * nb φ = g by omega, sZ_one (k := pi g) hpi (fun i _ h => by rw [show un (pi g) i = 0 from if_neg h]; omega), show un (pi g) (pi g) = 1 from if_pos rfl]; omega
theorem D_up (w : WF φ) (Y : Nat → Nat) {k e : Nat} (hk : k < dd φ) (he : e < 2 * nb φ) : Dt φ (upN Y k e) = tw φ e (xv φ Y k) := by
  unfold Dt; rw [Mx_up w Y k he, tw_xv Y hk]
theorem xv_up (w : WF φ) (Y : Nat → Nat) {k e : Nat} (he : e < 2 * nb φ) : xv φ (upN Y k e) k = xv φ Y k := by
  funext j
  unfold xv; rw [Mx_up w Y k he, up_up]
theorem okc_up {Y : Nat → Nat} {m k c : Nat} (hY : ∀ i, i < dd φ → okc φ m (Y i)) (hc : okc φ m c) : ∀ i, i < dd φ → okc φ m (upN Y k c i) := by
  intro i hi
  unfold upN
  split
  · exact hc
  · exact hY i hi
theorem dt_row (w : WF φ) {Y : Nat → Nat} (hY : ∀ i, i < dd φ → okc φ (dd φ) (Y i)) (hpi : ∀ g, g < ds φ → pi g < dd φ) {k k' : Nat} (hk : k < dd φ) (hk' : k' < wd φ) : (T12 φ pi (xv φ Y k) k').natAbs ≤ 805306368 := by
  by_cases h : k' < 2 * nb φ
  · rw [T_tw h, tw_xv Y hk, ← Mx_up w Y k h, Int.natAbs_mul]
    have h1 := dt_any w (okc_up (k := k) hY (Or.inl h))
    have h2 := (len_12 w (b := k' / 2) (by omega)).2
    have h3 : (12 / lenB φ (k' / 2)).natAbs ≤ 12 := by omega
    calc (12 / lenB φ (k' / 2)).natAbs * _ ≤ 12 * 67108864 := Nat.mul_le_mul h3 h1
      _ = 805306368 := by decide
  · unfold wd at hk'
    obtain ⟨g, rfl⟩ : ∃ g, k' = 2 * nb φ + g := ⟨k' - 2 * nb φ, by omega⟩
    have hg : g < ds φ := by omega
    rw [T_sh w hg (hpi g hg), Int.natAbs_mul]
    unfold xv
    rw [← Mx_un]
    have h1 := dt_any w (okc_up (k := k) hY (c := 12 + pi g) (Or.inr ⟨by omega, by have := hpi g hg; omega⟩))
    calc (12 : Int).natAbs * _ ≤ 12 * 67108864 := Nat.mul_le_mul (by decide) h1
      _ = 805306368 := by decide
theorem alg_bd (w : WF φ) {Y : Nat → Nat} (hY : ∀ i, i < dd φ → okc φ (dd φ) (Y i)) (hpi : ∀ g, g < ds φ → pi g < dd φ) {k : Nat} (hk : k < dd φ) {r : Nat → Int} (ha : alg (wd φ) r (T12 φ pi (xv φ Y k))) (hg : gz (wd φ) r = 1 ∨ ∀ k', k' < wd φ → r k' = 0) : ∀ k', k' < wd φ → (r k').natAbs ≤ 805306368 := by
  intro k' hk'
  rcases hg with h | h
  · obtain ⟨a, b, a0, b0, e⟩ := ha
    exact Nat.le_trans (prim_le h a0 b0 e k' hk') (dt_row w hY hpi hk hk')
  · rw [h k' hk']; omega
/-- an end twists in a row just as in its motion -/
theorem alg_z (w : WF φ) {x r : Nat → Int} (ha : alg (wd φ) r (T12 φ pi x)) {e : Nat} (he : e < 2 * nb φ) : r e = 0 ↔ tw φ e x = 0 := by
  obtain ⟨a, b, a0, b0, h⟩ := ha
  have h1 := h e (by unfold wd; omega)
  rw [T_tw he] at h1
  have h2 := (len_12 w (b := e / 2) (by omega)).2
  constructor
  · intro q
    rw [q, Int.mul_zero] at h1
    rcases Int.mul_eq_zero.mp h1.symm with q2 | q2
    · exact absurd q2 b0
    · rcases Int.mul_eq_zero.mp q2 with q3 | q3
      · omega
      · exact q3
  · intro q
    rw [q, Int.mul_zero, Int.mul_zero] at h1
    exact (Int.mul_eq_zero.mp h1).resolve_left a0
theorem RI_o {σ τ : ZS} {c : Nat} {Y : Nat → Nat} {k : Nat} (h : RI φ pi σ c Y k) (e : τ.2 c = σ.2 c) : RI φ pi τ c Y k := by
  obtain ⟨r, h1, h2, h3⟩ := h
  exact ⟨r, Row_o h1 e, h2, h3⟩
theorem RI_pivot (w : WF φ) {σ : ZS} {c : Nat} {Y : Nat → Nat} {k e : Nat} (he : e < 2 * nb φ) (h : RI φ pi σ c Y k) : RI φ pi σ c (upN Y k e) k := by
  obtain ⟨r, h1, h2, h3⟩ := h
  exact ⟨r, h1, by rw [xv_up w Y he]; exact h2, h3⟩
theorem ring1 {a a2 g P v al b D X' r be p b2 X Yv Q : Int} (h1 : g * v = al * r - be * p) (h2 : a * r = b * X) (h3 : a2 * p = b2 * Yv) (h4 : al * a2 * b * Q = be * a * b2 * P) (h5 : D * X' = X * P - Q * Yv) : a * a2 * g * P * v = al * a2 * b * D * X' := by
  have e1 : a * a2 * g * P * v = a * a2 * P * (g * v) := by grind
  have e2 : a * a2 * P * (al * r - be * p) = al * a2 * P * (a * r) - be * a * P * (a2 * p) := by grind
  have e3 : al * a2 * P * (b * X) - be * a * P * (b2 * Yv) = al * a2 * b * P * X - (be * a * b2 * P) * Yv := by grind
  have e4 : al * a2 * b * D * X' = al * a2 * b * (D * X') := by grind
  rw [e1, h1, e2, h2, h3, e3, ← h4, e4, h5]
  grind
theorem RI_cancel (w : WF φ) {N : Nat} (hN : 200 ≤ N) {σ : ZS} {Y : Nat → Nat} (hY : ∀ i, i < dd φ → okc φ (dd φ) (Y i)) (hD : Dt φ Y ≠ 0) (hpi : ∀ g, g < ds φ → pi g < dd φ) {k kp e c1 c2 c4 : Nat} (hk : k < dd φ) (hkp : kp < dd φ) (hne : k ≠ kp) (he : e < 2 * nb φ) (hP : tw φ e (xv φ Y kp) ≠ 0) (t1 : tg c1 = 2 ∧ ln c1 = 26) (t2 : tg c2 = 2 ∧ ln c2 = 26) (t4 : tg c4 = 2 ∧ ln c4 = 26) (hE : gI σ 5 5 = nt ((2 * nb φ : Nat) : Int)) (hS : gI σ 5 6 = nt ((ds φ : Nat) : Int)) (h1 : RI φ pi σ c1 Y k) (h2 : RI φ pi σ c2 Y kp) : ∃ τ, f_X4_cancel N c1 c2 (nt (e : Nat)) c4 σ = some ((), τ) ∧ RI φ pi τ c4 (upN Y kp e) k ∧ τ.1 = σ.1 ∧ ∀ d, d ≠ c4 → τ.2 d = σ.2 d := by
  obtain ⟨r, r1, r2, r3⟩ := h1
  obtain ⟨p, p1, p2, p3⟩ := h2
  have rb := alg_bd w hY hpi hk r2 r3
  have pb := alg_bd w hY hpi hkp p2 p3
  have hew : e < wd φ := by unfold wd; omega
  have hpe : p e ≠ 0 := fun q => hP ((alg_z w p2 he).mp q)
  obtain ⟨τ, v, g, al, be, q1, q2, q3, q4, q5, q6, q7, q8, q9⟩ := s_cancel (σ := σ) hN t1 t2 t4 (wd_le w) hew hE hS (by unfold wd; rfl) r1 p1 hpe (fun k' h => Nat.le_trans (rb k' h) (by decide)) (fun k' h => Nat.le_trans (pb k' h) (by decide))
  refine ⟨τ, q1, ⟨v, q2, ?_, q9⟩, q3, q4⟩
  obtain ⟨a, b, a0, b0, ha⟩ := r2
  obtain ⟨a2, b2, a20, b20, ha2⟩ := p2
  have hl := (len_12 w (b := e / 2) (by omega)).2
  obtain ⟨P, hPd⟩ : ∃ P, P = tw φ e (xv φ Y kp) := ⟨_, rfl⟩
  obtain ⟨Q, hQd⟩ : ∃ Q, Q = tw φ e (xv φ Y k) := ⟨_, rfl⟩
  have h4 : al * a2 * b * Q = be * a * b2 * P := by
    have e1 := ha e hew
    have e2 := ha2 e hew
    rw [T_tw he, ← hQd] at e1
    rw [T_tw he, ← hPd] at e2
    have hc : (12 / lenB φ (e / 2)) * (al * a2 * b * Q) = (12 / lenB φ (e / 2)) * (be * a * b2 * P) := by
      generalize 12 / lenB φ (e / 2) = c at *
      have f1 : c * (al * a2 * b * Q) = al * a2 * (b * (c * Q)) := by grind
      have f2 : c * (be * a * b2 * P) = be * a * (b2 * (c * P)) := by grind
      rw [f1, f2, ← e1, ← e2]
      have f3 : al * a2 * (a * r e) = a * a2 * (al * r e) := by grind
      have f4 : be * a * (a2 * p e) = a * a2 * (be * p e) := by grind
      rw [f3, f4, q7]
    exact Int.eq_of_mul_eq_mul_left (by omega) hc
  refine ⟨a * a2 * g * P, al * a2 * b * Dt φ Y, ?_, ?_, fun k' hk' => ?_⟩
  · rw [← hPd] at hP
    exact Int.mul_ne_zero (Int.mul_ne_zero (Int.mul_ne_zero a0 a20) q5) hP
  · exact Int.mul_ne_zero (Int.mul_ne_zero (Int.mul_ne_zero q6 a20) b0) hD
  · refine ring1 (q8 k' hk') (ha k' hk') (ha2 k' hk') h4 ?_
    have h6 := dt_two (dd φ) (Mx φ Y) kp k hkp hk (fun q => hne q.symm) (Rz φ e) (fvK φ pi k')
    rw [← Mx_up w Y kp he] at h6
    rw [T_xv (upN Y kp e) hk, T_xv Y hk, T_xv Y hkp, hPd, hQd, tw_xv Y hkp, tw_xv Y hk]
    unfold Dt
    rw [h6, ← Mx_up w Y kp he]
/-- a twist by others: Cramer, for the functionals of codes -/
theorem tw_cr (Y : Nat → Nat) (e : Nat) (q : Nat → Int) : Dt φ Y * tw φ e q = sZ (dd φ) (fun l => dt (dd φ) (up (Mx φ Y) l (Rz φ e)) * sZ (dd φ) (fun j => fu φ (Y l) j * q j)) := dt_vec (dd φ) (Mx φ Y) (Rz φ e) q
end
