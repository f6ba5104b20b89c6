-- ===== the class finds the mechanisms, weighs them =====
/-- the list of all mechanisms, in its cells -/
def CMe (φ : FR) (pi : Nat → Nat) (σ : ZS) (L : List Nat) : Prop := L.Pairwise (· < ·) ∧ (∀ s, s ∈ L ↔ IsM φ s) ∧ L.length ≤ 924 ∧ gI σ 6 3 = nt ((L.length : Nat) : Int) ∧ ∀ k s, L[k]? = some s → gI σ 59 k = nt (s : Nat) ∧ ∃ r, Row σ (143 + k) (wd φ) r ∧ MotR φ pi r s
abbrev NLF (φ : FR) : Prop := NL (2 * nb φ) (dd φ) (Rq φ)
/-- what the class knows of a shape -/
def CSp (φ : FR) (σ : ZS) : Prop := ∃ pi, Sz φ σ (rk φ) ∧ CSh φ σ pi ∧ (rk φ = dd φ → NLF φ ∧ ∃ L, CMe φ pi σ L) ∧ (rk φ < dd φ → gI σ 6 3 = nt 0)
theorem rk_le {φ : FR} : rk φ ≤ 2 * nb φ := cn_bd _ _
section
variable {N : Nat} {φ : FR} {pi : Nat → Nat}
theorem RD_rk (w : WF φ) {σ : ZS} {Y idx : Nat → Nat} (h : RD φ pi σ (rk φ) (2 * nb φ) Y idx) : rk φ ≤ dd φ := h.2.2.2.2.2.2.2.1
theorem s_find (w : WF φ) (hN : 200 ≤ N) {σ : ZS} {Y idx : Nat → Nat} (hS : Sz φ σ (rk φ)) (hR : RD φ pi σ (rk φ) (2 * nb φ) Y idx) (hC : CSh φ σ pi) : ∃ τ, f_X3_find N σ = some ((), τ) ∧ CSp φ τ ∧ (∀ c, c ≠ 59 → c ≠ 6 → τ.1 c = σ.1 c) ∧ (∀ k, k ≠ 3 → gI τ 6 k = gI σ 6 k) ∧ ∀ c, (c < 65 ∨ 1067 ≤ c) → τ.2 c = σ.2 c := by
  have hw2 := w.2.1
  have hdd := dd_le (φ := φ)
  have hrd := RD_rk w hR
  have hrk := rk_le (φ := φ)
  unfold f_X3_find
  rw [n_0, bd_eq]
  have hl : f_X4_looseness N (sI σ 6 3 (nt 0)) = some (nt ((dd φ : Nat) - (rk φ : Nat)), sI σ 6 3 (nt 0)) := by
    unfold f_X4_looseness
    rw [gI_sI_c (by omega), gI_sI_c (by omega), hS.1, hS.2.1, nt_sub]
  have hCsh : ∀ τ : ZS, (∀ c, c ≠ 59 → c ≠ 6 → τ.1 c = σ.1 c) → CSh φ τ pi ∧ Sz φ τ (rk φ) := fun τ h => by
    refine ⟨⟨hC.1, fun v n hv hn => ?_⟩, ?_⟩
    · have e : gI τ (57 + v) n = gI σ (57 + v) n := by unfold gI; rw [h _ (by omega) (by omega)]
      rw [e]; exact hC.2 v n hv hn
    · unfold Sz gI; rw [h 5 (by omega) (by omega)]; exact hS
  rw [hl, obd_some]
  by_cases e : rk φ = dd φ
  rotate_left
  · rw [eq_f (by omega) (by omega) (by omega) (by omega) (by omega)]
    obtain ⟨q1, q2⟩ := hCsh (sI σ 6 3 (nt 0)) (fun c _ c2 => sI_o c2)
    exact ⟨_, rfl, ⟨pi, q2, q1, fun h => absurd h e, fun _ => gI_sI_at ..⟩, fun c _ c2 => sI_o c2, fun k hk => gI_sI_k hk .., fun _ _ => rfl⟩
  rw [eq_t (by omega), gI_sI_c (by omega), gI_sI_c (by omega), hS.1, hS.2.2.1, n_1, nt_sub]
  have hAE : AE φ Y := by
    refine ⟨fun l hl => ?_, hR.2.1⟩
    obtain ⟨i, hi, rfl⟩ := inj_on hR.2.2.1 hR.2.2.2.1 l hl
    exact (hR.2.2.2.2.2.1 i (by omega)).2
  have hNL := AE_NL w hAE
  have hSC : SC φ (sI σ 6 3 (nt 0)) 0 := ⟨by rw [gI_sI_c (by omega)]; exact hS.2.2.1, by rw [gI_sI_c (by omega)]; exact hS.2.2.2, by rw [gI_sI_at]; rfl⟩
  by_cases hd0 : dd φ = 0
  · -- no motions at all
    have hx : f_X3_search N 20 (nt ((2 * nb φ : Nat) - 1)) (nt 0) (nt ((dd φ : Nat) : Int)) (nt 0) (sI σ 6 3 (nt 0)) = some ((), sI σ 6 3 (nt 0)) := by
      show f_X3_search_body N (f_X3_search N 19) _ _ _ _ _ = _
      unfold f_X3_search_body
      rw [n_1, n_2, hd0, nt_add, lt_f (by omega) (by omega) (by omega), lt_t (by omega) (by omega) (by omega)]
    rw [hx, obd_some]
    obtain ⟨q1, q2⟩ := hCsh (sI σ 6 3 (nt 0)) (fun c _ c2 => sI_o c2)
    refine ⟨_, rfl, ⟨pi, q2, q1, fun _ => ⟨hNL, [], List.Pairwise.nil, fun s => ⟨fun h => absurd h List.not_mem_nil, fun h => ?_⟩, by decide, gI_sI_at .., fun k s hk => by simp at hk⟩, fun h => by omega⟩, fun c _ c2 => sI_o c2, fun k hk => gI_sI_k hk .., fun _ _ => rfl⟩
    obtain ⟨q, ⟨⟨e1, he1, hne⟩, _⟩, _⟩ := h
    rw [hd0] at hne
    exact absurd rfl hne
  · have hS2 : SR φ pi (sI σ 6 3 (nt 0)) 0 (dd φ) Y idx := ⟨hAE, hR.2.2.1, hR.2.2.2.1, fun i hi => by rw [Nat.zero_add]; exact RI_o (hR.2.2.2.2.1 i hi) rfl⟩
    have hV : SV φ (dd φ) (2 * nb φ) 0 Y idx := by
      refine ⟨fun q => ⟨fun _ e h1 h2 => by omega, fun _ l hl hn => ?_⟩, fun e h => absurd h (by rw [Nat.zero_testBit]; decide), by decide⟩
      obtain ⟨i, hi, h⟩ := inj_on hR.2.2.1 hR.2.2.2.1 l hl
      exact absurd h (hn i hi)
    have hcb := Cb_924 (2 * nb φ) (by omega) (dd φ - 1) (by omega)
    have hm : dd φ * (dd φ + 1) ≤ 12 * 13 := Nat.mul_le_mul (by omega) (by omega)
    obtain ⟨τ, L, h1, h2, h3, h4, h5, h6, h7, h8, h9, h10⟩ := s_search w hN hC.1 (2 * nb φ) 20 (sI σ 6 3 (nt 0)) 0 (dd φ) 0 0 Y idx (by omega) (by omega) (Nat.le_refl _) (by omega) (by omega) hS2 hV hSC (by omega)
    have h1 : f_X3_search N 20 (nt ((2 * nb φ : Nat) - 1)) (nt 0) (nt ((dd φ : Nat) : Int)) (nt 0) (sI σ 6 3 (nt 0)) = some ((), τ) := h1
    have o1 : ∀ c, c ≠ 59 → c ≠ 6 → τ.1 c = σ.1 c := fun c c1 c2 => by rw [h9 c c1 c2, sI_o c2]
    obtain ⟨q1, q2⟩ := hCsh τ o1
    refine ⟨τ, by rw [h1, obd_some], ⟨pi, q2, q1, fun _ => ⟨hNL, L, h2, fun s => ?_, by omega, ?_, fun k s hk => ?_⟩, fun h => by omega⟩, o1, fun k hk => by rw [h8 k hk, gI_sI_k hk], fun c hc => by rw [h10 c (by omega)]; rfl⟩
    · rw [h3]
      exact ⟨fun h => h.1, fun h => ⟨h, fun e a b => by omega⟩⟩
    · have := h5.2.2; rwa [Nat.zero_add] at this
    · have := h6 k s hk
      rwa [Nat.zero_add] at this
-- a mechanism's motion, in the numbers of the reference
/-- a motion whose twists and shifts a row tells -/
def MotQ (φ : FR) (pi : Nat → Nat) (r : Nat → Int) (q : Nat → Rat) : Prop := (∀ e, e < 2 * nb φ → (r e : Rat) * (lenB φ (e / 2) : Rat) = dq (dd φ) (Rq φ e) q) ∧ ∀ g, g < ds φ → (r (2 * nb φ + g) : Rat) = q (pi g)
theorem El_of {q q' : Nat → Rat} {l : Rat} (h : ElF φ q) (hl : l ≠ 0) (hq : ∀ j, q' j = l * q j) : ElF φ q' := by
  have : q' = fun j => l * q j := funext hq
  rw [this]; exact El_mul h hl
theorem MotR_Q (w : WF φ) (hpi : ∀ g, g < ds φ → pi g < ds φ) {r : Nat → Int} {s : Nat} (h : MotR φ pi r s) : ∃ q, ElF φ q ∧ s = mq φ q ∧ MotQ φ pi r q := by
  obtain ⟨_, _, _, _, x, hE, hs, a, b, a0, b0, hab⟩ := h
  have hqa : (a : Rat) ≠ 0 := fun q => a0 (q_0.mp q)
  have hqb : (b : Rat) ≠ 0 := fun q => b0 (q_0.mp q)
  have hi : (a : Rat) * (a : Rat)⁻¹ = 1 := Rat.mul_inv_cancel _ hqa
  have hl : (b : Rat) * (a : Rat)⁻¹ * 12 ≠ 0 := fun q => by
    rcases Rat.mul_eq_zero.mp q with q | q
    · rcases Rat.mul_eq_zero.mp q with q | q
      · exact hqb q
      · rw [q, Rat.mul_zero] at hi; exact absurd hi (by decide)
    · exact absurd q (by decide)
  have hd := ds_le (φ := φ)
  have key : ∀ k, k < wd φ → (r k : Rat) = (b : Rat) * (a : Rat)⁻¹ * ((T12 φ pi x k : Int) : Rat) := fun k hk => by
    have h1 := hab k hk
    have h2 : ((a * r k : Int) : Rat) = ((b * T12 φ pi x k : Int) : Rat) := by rw [h1]
    rw [Rat.intCast_mul, Rat.intCast_mul] at h2
    generalize (a : Rat)⁻¹ = i at *
    have h3 : i * ((a : Rat) * (r k : Rat)) = ((a : Rat) * i) * (r k : Rat) := by grind
    rw [hi, h2] at h3
    grind
  refine ⟨fun j => (b : Rat) * (a : Rat)⁻¹ * 12 * (x j : Rat), El_of hE hl (fun j => rfl), ?_, fun e he => ?_, fun g hg => ?_⟩
  · rw [hs]
    exact (mq_mul (q := fun j => (x j : Rat)) hl (fun j _ => rfl)).symm
  · rw [key e (by unfold wd; omega), T_tw he, dq_mul, tw_q, Rat.intCast_mul]
    have hlen := (len_12 w (b := e / 2) (by omega)).1
    have h2 : ((12 / lenB φ (e / 2) * lenB φ (e / 2) : Int) : Rat) = ((12 : Int) : Rat) := by rw [hlen]
    rw [Rat.intCast_mul] at h2
    generalize ((12 / lenB φ (e / 2) : Int) : Rat) = u at *
    generalize ((lenB φ (e / 2) : Int) : Rat) = v at *
    have h3 : ((12 : Int) : Rat) = 12 := rfl
    rw [h3] at h2
    grind
  · rw [key _ (by unfold wd; omega), T_sh w hg (by have := hpi g hg; omega), Rat.intCast_mul]
    have h3 : ((12 : Int) : Rat) = 12 := rfl
    rw [h3]
    grind
end
