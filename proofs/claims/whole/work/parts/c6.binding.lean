-- ===== the reference answers: critical mechanisms, spare strength, weakest bar =====
section
variable {N : Nat} {σ : ZS} {φ : FR}
theorem crit_M (w : WF φ) {u : Nat → Int} {s : Nat} (hM : MotM φ u s) {c : Nat} {f : Rat} : Crit φ c f s ↔ ab (dq (dd φ) (PF φ c f) (fun j => (u j : Rat))) = stn (dd φ) (Rq φ) (cq φ) (2 * nb φ) (fun j => (u j : Rat)) := by
  constructor
  · rintro ⟨q, hq, hs, he⟩
    obtain ⟨l, hl⟩ := el_same hq (hs.symm.trans hM.2.1)
    have h1 := PF_mul (c := c) (f := f) hl
    have h2 := stn_mul (S := φ.1 5) hl
    rw [cq_S] at he ⊢
    rw [h1, h2, ab_mul, he]
  · intro h
    exact ⟨_, hM.1, hM.2.1, h⟩
theorem m_binding (w : WF φ) (hN : 30000 ≤ N) (h : MFr σ φ) (hk : RK φ σ) {c sd y : Int} (hc : iR c) (hs : iR sd) (hy : iR y) : ∃ τ, f_X6_binding N (nt c) (nt sd) (nt y) σ = some (nt (aBinding φ c sd y), τ) ∧ MAsk φ σ τ := by
  have n0 : (0 : Int32) = nt 0 := rfl
  have hw2 := w.2.1
  have hL := (ex_rk w).2.2.1
  have hout : er4 φ c sd y 1 = -2 → aBinding φ c sd y = -2 := fun q => by
    unfold aBinding; rw [q, if_neg (by decide)]
  unfold f_X6_binding
  rw [m_isCase hc, obd_some, br_p]
  by_cases c1 : 1 ≤ c ∧ c ≤ 2
  rotate_left
  · rw [if_neg c1, hout (by unfold er4; rw [erF_out (Or.inl c1)]; split <;> rfl)]; exact ⟨σ, rfl, MAsk_rf hk⟩
  rw [if_pos c1, n0, n_1, s_in N sd 0 1 hs ⟨by omega, by omega⟩ ⟨by omega, by omega⟩, obd_some, n0.symm, br_p]
  by_cases s1 : 0 ≤ sd ∧ sd ≤ 1
  rotate_left
  · rw [if_neg s1, hout (by unfold er4; rw [erF_out (Or.inr s1)]; split <;> rfl)]; exact ⟨σ, rfl, MAsk_rf hk⟩
  rw [if_pos s1, n0, s_in N y 0 1 hy ⟨by omega, by omega⟩ ⟨by omega, by omega⟩, obd_some, n0.symm, br_p]
  by_cases y1 : 0 ≤ y ∧ y ≤ 1
  rotate_left
  · rw [if_neg y1, hout (by unfold er4; rw [if_neg y1])]; exact ⟨σ, rfl, MAsk_rf hk⟩
  rw [if_pos y1]
  obtain ⟨c, rfl⟩ : ∃ j : Nat, c = (j : Int) := ⟨c.toNat, by omega⟩
  obtain ⟨sd, rfl⟩ : ∃ j : Nat, sd = (j : Int) := ⟨sd.toNat, by omega⟩
  have hct : ((c : Nat) : Int).toNat = c := rfl
  obtain ⟨t, r1, k1, k2, k3, k4⟩ := m_refusal w hN h hk (c := c) (by omega)
  have hre : er4 φ (c : Nat) (sd : Nat) y 1 = rfV φ c := by unfold er4; rw [if_pos y1, erF_in (by omega) (by omega)]
  have r1 : f_X6_refusal N (nt (c : Nat)) σ = some (nt (rfV φ c), t) := r1
  have hrb := rfV_rg φ c
  unfold aBinding
  rw [hre, r1, obd_some, n0, hct]
  by_cases q : rfV φ c = 0
  rotate_left
  · rw [if_neg q, eq_f q (by omega) (by omega) (by omega) (by omega)]
    exact ⟨t, rfl, RK1_K k1, k3⟩
  obtain ⟨q1, q2⟩ := rfV_0 q
  obtain ⟨b1, b2, _⟩ := sdV_bd w (c := c) (sd := (sd : Nat)) (by omega) (by omega) q1 q2
  obtain ⟨x1, x2⟩ := k4 q1 q2 sd (by omega)
  obtain ⟨v, hv⟩ : ∃ v, v = sdV φ c (sd : Nat) := ⟨_, rfl⟩
  rw [← hv] at b1 b2 x1 x2 ⊢
  have hvd := v.den_pos
  obtain ⟨pb, hpb⟩ : ∃ pb : Nat → Bool, pb = fun k => crb φ c v (nth (ML φ) k) := ⟨_, rfl⟩
  rw [← hpb, if_pos q, q, eq_t rfl, n_2, nt_mul, nt_add, ck_inb (by omega) (by omega) (by omega), nat_nt (by omega) (by omega), show ((2 : Int) * (c : Nat) + (sd : Nat)).toNat = 2 * c + sd by omega, x1, bd_eq, ck_inb (by omega) (by omega) (by omega), x2, bd_eq, k1.2.1.2.2.2.2.1, nt_sub, bd_eq]
  -- from the highest down
  have scan : ∀ (k n : Nat) (s : ZS), k ≤ (ML φ).length → k + 1 ≤ n → RK1 φ s → MFr s φ → ∃ τ, f_X6_binding_h82 N (nt (c : Nat)) (nt y) (jl v.num) (jl (v.den : Int)) n (nt ((cn (ML φ).length pb : Nat) - (cn k pb : Nat))) (nt (fst1 pb ((ML φ).length - k) k)) (nt ((k : Nat) - 1)) s = some (nt (if y = 0 then ((cn (ML φ).length pb : Nat) : Int) else fst1 pb (ML φ).length 0), τ) ∧ RK1 φ τ ∧ frR s τ := by
    intro k
    induction k with
    | zero =>
      intro n s _ hn hk1 hm
      obtain ⟨n, rfl⟩ : ∃ m, n = m + 1 := ⟨n - 1, by omega⟩
      refine ⟨s, ?_, hk1, frR_rf s⟩
      rw [f_X6_binding_h82, n0, lt_t (by omega) (by omega) (by omega)]
      have hz : cn 0 pb = 0 := rfl
      rw [hz, Nat.sub_zero, show ((cn (ML φ).length pb : Nat) : Int) - ((0 : Nat) : Int) = (cn (ML φ).length pb : Nat) by omega]
      by_cases z : y = 0
      · rw [eq_t z, if_pos z]
      · rw [eq_f z (by omega) (by omega) (by omega) (by omega), if_neg z]
    | succ k ih =>
      intro n s hkl hn hk1 hm
      obtain ⟨n, rfl⟩ : ∃ m, n = m + 1 := ⟨n - 1, by omega⟩
      obtain ⟨τ, u, e2, hM, _, t2, t3, fW⟩ := m_layOne (N := N) w (by omega) hm hk1.2.1 q1 (i := k) (by omega)
      have hWc := wM_bd w hM (c := c) (by omega)
      have hW0 := wM_bd w hM (c := 0) (by omega)
      have hSt := sM_bd w hM
      have qc := wM_q w u c
      have q0' := wM_q w u 0
      have qs := sM_q w u
      have tc := t3 c (by omega)
      have t0 := t3 0 (by omega)
      obtain ⟨W, hW⟩ : ∃ W, W = wM φ u c := ⟨_, rfl⟩
      obtain ⟨W0, hW0d⟩ : ∃ W, W = wM φ u 0 := ⟨_, rfl⟩
      obtain ⟨St, hStd⟩ : ∃ W, W = sM φ u := ⟨_, rfl⟩
      rw [← hW] at hWc qc tc
      rw [← hW0d] at hW0 q0' t0
      rw [← hStd] at hSt qs t2
      have a1 := mul_bd (a := (v.den : Int)) (A := 440401920) (by omega) hW0
      have a2 := mul_bd b1 hWc
      have a3 := mul_bd (a := (v.den : Int)) (A := 440401920) (b := St) (B := 905969664) (by omega) (by omega)
      -- just overcome
      have hcr : pb k = true ↔ ((v.den : Int) * W0 + v.num * W).natAbs = ((v.den : Int) * St).natAbs := by
        rw [hpb]
        try dsimp only
        rw [crb_t, crit_M w hM]
        have hd0 : (((v.den : Nat) : Int) : Rat) ≠ 0 := fun z => by have := q_0.mp z; omega
        have hdi := Rat.mul_inv_cancel _ hd0
        have hvq := rat_q v
        have e1 : (((v.den : Int) * W0 + v.num * W : Int) : Rat) = (12 * (((v.den : Nat) : Int) : Rat)) * dq (dd φ) (PF φ c v) (fun j => (u j : Rat)) := by
          rw [PF_q, Rat.intCast_add, Rat.intCast_mul, Rat.intCast_mul, q0', qc]
          generalize (((v.den : Nat) : Int) : Rat)⁻¹ = i at *
          generalize (((v.den : Nat) : Int) : Rat) = d at *
          generalize ((v.num : Int) : Rat) = nn at *
          generalize dq (dd φ) (pq φ 0) (fun j => (u j : Rat)) = A at *
          generalize dq (dd φ) (pq φ c) (fun j => (u j : Rat)) = B at *
          rw [← hvq]
          have : 12 * d * (A + nn * i * B) = 12 * d * A + 12 * nn * (d * i) * B := by grind
          rw [this, hdi]
          grind
        have e2 : (((v.den : Int) * St : Int) : Rat) = (12 * (((v.den : Nat) : Int) : Rat)) * stn (dd φ) (Rq φ) (cq φ) (2 * nb φ) (fun j => (u j : Rat)) := by
          rw [Rat.intCast_mul, qs]; grind
        have hp12 : (0 : Rat) < 12 * (((v.den : Nat) : Int) : Rat) := Rat.mul_pos (by decide) (q_pos.mpr (by omega))
        have hne : 12 * (((v.den : Nat) : Int) : Rat) ≠ 0 := fun z => by rw [z] at hp12; exact absurd hp12 (by decide)
        have e3 : ((((v.den : Int) * W0 + v.num * W).natAbs : Int) : Rat) = (12 * (((v.den : Nat) : Int) : Rat)) * ab (dq (dd φ) (PF φ c v) (fun j => (u j : Rat))) := by
          rw [← ab_int, e1, ab_mul, ab_of (Rat.le_of_lt hp12)]
        have e4 : ((((v.den : Int) * St).natAbs : Int) : Rat) = (12 * (((v.den : Nat) : Int) : Rat)) * stn (dd φ) (Rq φ) (cq φ) (2 * nb φ) (fun j => (u j : Rat)) := by
          have : (((v.den : Int) * St).natAbs : Int) = (v.den : Int) * St := by
            have := Int.mul_nonneg (a := (v.den : Int)) (b := St) (by omega) hSt.1
            omega
          rw [this, e2]
        constructor
        · intro z
          have : ((((v.den : Int) * W0 + v.num * W).natAbs : Int) : Rat) = ((((v.den : Int) * St).natAbs : Int) : Rat) := by rw [e3, e4, z]
          have := Rat.intCast_inj.mp this
          omega
        · intro z
          rw [z, e4] at e3
          have hi := Rat.mul_inv_cancel _ hne
          generalize (12 * (((v.den : Nat) : Int) : Rat))⁻¹ = i at *
          generalize 12 * (((v.den : Nat) : Int) : Rat) = D at *
          generalize ab (dq (dd φ) (PF φ c v) (fun j => (u j : Rat))) = A at *
          generalize stn (dd φ) (Rq φ) (cq φ) (2 * nb φ) (fun j => (u j : Rat)) = B at *
          have h1 : A = (D * i) * A := by rw [hi, Rat.one_mul]
          have h2 : (D * i) * A = i * (D * A) := by grind
          rw [h1, h2, ← e3]
          have h3 : i * (D * B) = (D * i) * B := by grind
          rw [h3, hi, Rat.one_mul]
      have hk1' := RK1_W hk1 fW
      have hm' := frR_M (frW_R fW) hm
      obtain ⟨τ2, g1, g2, g3⟩ := ih n τ (by omega) (by omega) hk1' hm'
      have hcs : cn (k + 1) pb = cn k pb + (if pb k = true then 1 else 0) := cn_s k pb
      have hfs : fst1 pb ((ML φ).length - k) k = if pb k then (k : Int) else fst1 pb ((ML φ).length - (k + 1)) (k + 1) := by
        rw [show (ML φ).length - k = ((ML φ).length - (k + 1)) + 1 by omega]; rfl
      have hcm := cn_mono pb (show k + 1 ≤ (ML φ).length by omega)
      have hcb := cn_bd pb (ML φ).length
      refine ⟨τ2, ?_, g2, frR_tr (frW_R fW) g3⟩
      have z0 : ((nt 0).toNatClampNeg) = 0 := rfl
      have b148 : ∀ x9 x10 : Int, f_X6_binding_b148 N (fun x9_ x10_ x11_ σ_ => f_X6_binding_h82 N (nt (c : Nat)) (nt y) (jl v.num) (jl (v.den : Int)) n x9_ x10_ x11_ σ_) (nt (c : Nat)) (nt y) (jl v.num) (jl (v.den : Int)) (nt x9) (nt x10) (nt (k : Nat)) τ = f_X6_binding_h82 N (nt (c : Nat)) (nt y) (jl v.num) (jl (v.den : Int)) n (nt x9) (nt x10) (nt ((k : Nat) - 1)) τ := fun x9 x10 => by
        rw [f_X6_binding_b148, n_m1, nt_add, bd_eq, show ((k : Nat) : Int) + -1 = (k : Nat) - 1 by omega]
      have b141 : ∀ x9 : Int, f_X6_binding_b141 N (fun x9_ x10_ x11_ σ_ => f_X6_binding_h82 N (nt (c : Nat)) (nt y) (jl v.num) (jl (v.den : Int)) n x9_ x10_ x11_ σ_) (nt (c : Nat)) (nt y) (jl v.num) (jl (v.den : Int)) (nt x9) (nt (k : Nat)) τ = f_X6_binding_h82 N (nt (c : Nat)) (nt y) (jl v.num) (jl (v.den : Int)) n (nt (x9 + 1)) (nt (k : Nat)) (nt ((k : Nat) - 1)) τ := fun x9 => by
        rw [f_X6_binding_b141, n_1, nt_add, bd_eq, b148]
      rw [f_X6_binding_h82, show (((k + 1 : Nat) : Int) - 1) = (k : Nat) by omega, n0, lt_f (by omega) (by omega) (by omega), e2, obd_some, ck_of (by decide), ck_inb (by omega) (by omega) (by omega), z0, nat_k (by omega), t0, tc, t2, jl_mul, jl_mul, jl_add, bd_eq, jl_mul, jl_neg]
      have hnp : 0 ≤ (v.den : Int) * St := Int.mul_nonneg (by omega) hSt.1
      by_cases z : pb k = true
      · have hz := hcr.mp z
        rw [if_pos z] at hcs
        rw [if_pos z] at hfs
        have hgo : f_X6_binding_h82 N (nt (c : Nat)) (nt y) (jl v.num) (jl (v.den : Int)) n (nt (((cn (ML φ).length pb : Nat) : Int) - ((cn (k + 1) pb : Nat) : Int) + 1)) (nt (k : Nat)) (nt ((k : Nat) - 1)) τ = some (nt (if y = 0 then ((cn (ML φ).length pb : Nat) : Int) else fst1 pb (ML φ).length 0), τ2) := by
          rw [← g1, hfs, show ((cn (ML φ).length pb : Nat) : Int) - ((cn (k + 1) pb : Nat) : Int) + 1 = (cn (ML φ).length pb : Nat) - (cn k pb : Nat) by omega]
        by_cases p1 : (v.den : Int) * W0 + v.num * W = (v.den : Int) * St
        · rw [jeq_t p1, b141, hgo]
        · rw [jeq_f p1 (by omega) (by omega) (by omega) (by omega), jeq_t (by omega), b141, hgo]
      · have hz : ¬ ((v.den : Int) * W0 + v.num * W).natAbs = ((v.den : Int) * St).natAbs := fun e => z (hcr.mpr e)
        rw [if_neg z] at hcs
        rw [if_neg z] at hfs
        rw [jeq_f (by omega) (by omega) (by omega) (by omega) (by omega), jeq_f (by omega) (by omega) (by omega) (by omega) (by omega), b148, ← g1, hfs, show ((cn (ML φ).length pb : Nat) : Int) - ((cn (k + 1) pb : Nat) : Int) = (cn (ML φ).length pb : Nat) - (cn k pb : Nat) by omega]
  obtain ⟨τ, g1, g2, g3⟩ := scan (ML φ).length N t (Nat.le_refl _) (by omega) k1 k2
  rw [Nat.sub_self, show ((cn (ML φ).length pb : Nat) : Int) - ((cn (ML φ).length pb : Nat) : Int) = 0 by omega] at g1
  have g1 : f_X6_binding_h82 N (nt (c : Nat)) (nt y) (jl v.num) (jl (v.den : Int)) N (nt 0) (-6 : Int32) (nt (((ML φ).length : Nat) - 1)) t = _ := g1
  exact ⟨τ, g1, RK1_K g2, frR_tr k3 g3⟩
end
