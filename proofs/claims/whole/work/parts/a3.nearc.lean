-- ===== near, both sides' bits =====
/-- the bits of a quotient's float -/
def nrb (u v : Int) : Int32 := (FP.fdiv (FP.l2f (jl u)) (FP.l2f (jl v))).toInt32
noncomputable def aNear (φ : FR) (c sd : Int) : Int32 := if erF φ c sd = 0 then nrb (sdV φ c.toNat sd).num ((sdV φ c.toNat sd).den : Int) else nt (erF φ c sd)
section
variable {N : Nat} {φ : FR} {σ : ZS}
/-- the library's bits -/
theorem j_bits {x : UInt32} (h : x = FP.fconst0 ∨ ∃ s c q, Vn x s c q) : f_Jxf58ca_floatToIntBits_5c35a N x σ = some (x.toInt32, σ) := by
  have hc : FP.fcmp x x = some .eq := by
    rcases h with rfl | ⟨s, c, q, h⟩
    · decide +kernel
    · rw [v_ord h.1 h.1]
      congr 1
      exact Int.compare_eq_eq.mpr rfl
  unfold f_Jxf58ca_floatToIntBits_5c35a f_Jxf58ca_isNaN_12338
  rw [hc]
  rfl
theorem s_near1 (hN : 200 ≤ N) {c : Nat} (hc : isc c 1 = true) {u l : Int} (h : Fq σ c u l) (hu : u.natAbs ≤ 1358954496) (hl : 0 < l ∧ l ≤ 440401920) : ∃ τ, (obd (f_X1_asFloat N c σ) fun v9 σ10 => obd (f_X5_bitsOf N v9 σ10) fun v11 σ12 => some (v11, σ12)) = some (nrb (rn u l) (rd u l), τ) ∧ τ.1 = σ.1 ∧ ∀ d, d ≠ c → τ.2 d = σ.2 d := by
  obtain ⟨τ, e, h1, h2, h3⟩ := s_reduce (N := N) (σ := σ) hN hc h ⟨by omega, by omega⟩ ⟨by omega, by omega⟩ hl.1
  have ha := rn_abs (u := u) hl.1
  have hb := rd_le (u := u) hl.1
  have hb0 := @rd_pos u l
  obtain ⟨f1, f2⟩ := fq_ok (u := rn u l) (v := rd u l) (by omega) ⟨hb0, by omega⟩
  refine ⟨τ, ?_, h2, h3⟩
  unfold f_X1_asFloat
  rw [ck_of hc, e, obd_some, ck_of hc, h1.1, h1.2, j_0, jlt_t hb0 (by omega) (by omega), ck_of hc, ck_of hc, ck_of f1, obd_some, s_bitsOf hN f2, obd_some]
  rfl
theorem c_near (w : WF φ) (hN : 1200 ≤ N) (hc : CFr σ 0 φ) (hk : CK φ σ) {c sd : Int} (hcc : iR c) (hs : iR sd) : ∃ τ, f_X5_near N (nt c) (nt sd) σ = some (aNear φ c sd, τ) ∧ Ask φ σ τ := by
  obtain ⟨s, e1, e2, e3⟩ := s_refresh w hN hc hk
  obtain ⟨t, g1, g2, g3⟩ := s_limitError (N := N) w hN e2 hcc hs
  have her := erF_rg φ c sd
  unfold f_X5_near aNear
  rw [e1, obd_some, g1, obd_some]
  by_cases e : erF φ c sd = 0
  rotate_left
  · rw [if_neg e, n_0, eq_f e (by omega) (by omega) (by omega) (by omega)]
    exact ⟨t, rfl, Ask_7 e2 e3 (fr9_7 g2)⟩
  · obtain ⟨_, hs0, hs1, _⟩ := erF_0 e
    obtain ⟨g, h, l, k, q1, q2, q3, q4, q5, q6, q7⟩ := g3 e
    obtain ⟨v1, v2⟩ := Lim_V q3
    have q31 := q3.1
    have q32 := q3.2.1
    rw [if_pos e, e, n_0, eq_t rfl]
    unfold f_X0_limit sdV
    rcases (show sd = 0 ∨ sd = 1 by omega) with rfl | rfl
    · obtain ⟨τ, u1, u3, u4⟩ := s_near1 (N := N) (σ := t) (by omega) (isc_f (c := 9) ⟨by omega, by omega⟩) q1 q4 ⟨q31, q6⟩
      rw [n_0, eq_t rfl, obd_some, ck_of (isc_f ⟨by omega, by omega⟩), u1, if_pos rfl, v1, ← rn_q, ← rd_q]
      exact ⟨τ, rfl, Ask_7 e2 e3 (fr9_7 (fr9_tr g2 ⟨u3, fun d d1 d2 d3 => u4 d d1⟩))⟩
    · obtain ⟨τ, u1, u3, u4⟩ := s_near1 (N := N) (σ := t) (by omega) (isc_f (c := 10) ⟨by omega, by omega⟩) q2 q5 ⟨q32, q7⟩
      rw [n_0, eq_f (by omega) (by omega) (by omega) (by omega) (by omega), obd_some, ck_of (isc_f ⟨by omega, by omega⟩), u1, if_neg (show ¬ (1 : Int) = 0 by omega), v2, ← rn_q, ← rd_q]
      exact ⟨τ, rfl, Ask_7 e2 e3 (fr9_7 (fr9_tr g2 ⟨u3, fun d d1 d2 d3 => u4 d d2⟩))⟩
end
