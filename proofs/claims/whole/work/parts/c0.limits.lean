-- ===== the reference answers: limits, factors, bearing =====
section
variable {N : Nat} {σ : ZS} {φ : FR}
theorem Stg_id (w : WF φ) (h : gI σ 1067 30 = nt (-1)) : Stg φ σ (φ.1 5) := ⟨-1, (gI σ 1067 31).toInt, ⟨by decide, by decide⟩, iR_of _, h, (nt_of _).symm, fun b _ => by rw [if_neg (by omega)], fun b hb => by
  obtain ⟨_, _, _, _, a, c, _⟩ := w.2.2.2.1 b hb
  omega⟩
theorem str_nn (w : WF φ) : ∀ b, b < nb φ → 0 ≤ φ.1 5 b := fun b hb => by
  obtain ⟨_, _, _, _, a, c, _⟩ := w.2.2.2.1 b hb
  omega
theorem LkO_F {c : Nat} {τ : ZS} {rc : Int} (h : LkO φ c (φ.1 5) τ rc) : rc = rgF φ c := by
  unfold rgF
  rcases h with ⟨rfl, h⟩ | ⟨rfl, h⟩ | ⟨rfl, x0, x1, _, _, h, _⟩
  · rw [if_pos (cd_f.mpr (fun ⟨f, hf⟩ => h f hf))]
  · rw [if_neg (fun w => absurd (cd_f.mp w) (fun w => w ⟨0, h 0⟩)), if_pos (cd_iff.mpr h)]
  · rw [if_neg (fun w => absurd (cd_f.mp w) (fun w => w ⟨_, h.1⟩)), if_neg (fun w => by
      have := h.2 _ (cd_iff.mp w (x0 + 1))
      grind)]
theorem frQ_H {τ : ZS} (f : frQ σ τ) : frH σ τ := ⟨fun k hk => f.2.1 k (by omega) (by omega) (by omega) (by omega), fun c hc => f.1 c (by omega) (by omega) (by omega), fun c hc => f.2.2 c (by omega)⟩
theorem frQ_R {τ : ZS} (f : frQ σ τ) : frR σ τ := ⟨fun c hc => f.1 c (by omega) (by omega) (by omega), f.2.1 0 (by decide) (by decide) (by decide) (by decide), f.2.1 4 (by decide) (by decide) (by decide) (by decide), fun c hc => f.2.2 c (by omega)⟩
theorem RK1_Q {τ : ZS} (h : RK1 φ σ) (f : frQ σ τ) : RK1 φ τ := ⟨by rw [f.2.1 9 (by decide) (by decide) (by decide) (by decide)]; exact h.1, RSp_o h.2.1 (frQ_H f), RFd_o h.2.2.1 (f.1 1096 (by decide) (by decide) (by decide)) (f.1 1097 (by decide) (by decide) (by decide)) (f.2.2 1098 (by decide)) (f.2.2 1099 (by decide)), by rw [f.2.1 30 (by decide) (by decide) (by decide) (by decide)]; exact h.2.2.2⟩
theorem LV_of {c : Nat} {x : Rat} (h : Lst (FS φ c (φ.1 5)) x) : LV φ c = x := by
  unfold LV
  exact sel_of h (fun y z hy hz => Lst_u y z hy hz)
/-- the limits found stand in their cells -/
def FndC (φ : FR) (s : ZS) (c : Nat) : Prop := rgF φ c = 0 → ∀ sd : Nat, sd < 2 → gJ s 1098 (2 * c + sd) = jl (sdV φ c sd).num ∧ gJ s 1099 (2 * c + sd) = jl ((sdV φ c sd).den : Int)
theorem m_limitOf (w : WF φ) (hN : 30000 ≤ N) (h : MFr σ φ) (hk : RK1 φ σ) (hre : ¬ rk φ < dd φ) {c : Nat} (hc : 1 ≤ c ∧ c ≤ 2) : ∃ τ, f_X6_limitOf N (nt (c : Nat)) σ = some (nt (rgF φ c), τ) ∧ RK1 φ τ ∧ frR σ τ ∧ FndC φ τ c := by
  have hrd : rk φ = dd φ := by have := (ex_rk w).1; omega
  obtain ⟨b, b1, b2, b3⟩ := hk.2.2.1 c hc.1 hc.2
  unfold f_X6_limitOf
  rw [ck_inb (by omega) (by omega) (by omega), nat_k (by omega), b1]
  have b72 : ∀ t, f_X6_limitOf_b72 N (nt (c : Nat)) t = some (gI t 1097 c, t) := fun t => by
    unfold f_X6_limitOf_b72
    rw [ck_inb (by omega) (by omega) (by omega), nat_k (by omega)]
  rcases b2 with rfl | rfl
  · -- not found before
    rw [if_pos (show nt 0 = 0 from rfl), ck_inb (by omega) (by omega) (by omega), bd_eq, n_1]
    obtain ⟨s0, hs0⟩ : ∃ s0, s0 = sI σ 1096 c (nt 1) := ⟨_, rfl⟩
    rw [← hs0]
    have g0 : ∀ c, c ≠ 1096 → s0.1 c = σ.1 c := fun c hc => by rw [hs0, sI_o hc]
    have g0J : s0.2 = σ.2 := by rw [hs0]; rfl
    have hm0 : MFr s0 φ := MFr_same h (by unfold gI; rw [g0 1067 (by decide)]) (by unfold gI; rw [g0 1067 (by decide)]) (fun c a b => g0 c (by omega))
    have hR0 : RSp φ s0 := RSp_o hk.2.1 ⟨fun k _ => by unfold gI; rw [g0 1067 (by decide)], fun c hc => g0 c (by omega), fun c _ => by rw [g0J]⟩
    have hS0 : Stg φ s0 (φ.1 5) := Stg_id w (by unfold gI; rw [g0 1067 (by decide)]; exact hk.2.2.2)
    obtain ⟨s1, rc, e1, f1, l1⟩ := m_lookFor (N := N) w hN hrd hm0 hR0 hS0 hc
    have hrc := LkO_F l1
    rw [e1, obd_some, ck_inb (by omega) (by omega) (by omega), bd_eq, hrc]
    obtain ⟨s2, hs2⟩ : ∃ s2, s2 = sI s1 1097 c (nt (rgF φ c)) := ⟨_, rfl⟩
    rw [← hs2]
    have g2J : s2.2 = s1.2 := by rw [hs2]; rfl
    -- both sides kept
    obtain ⟨t, et, t1, t2, t3⟩ := lp_inv (fun n k t => f_X6_limitOf_h29 N (nt (c : Nat)) n (nt (k : Nat)) t) (fun k t => t.1 = s2.1 ∧ (∀ d, d ≠ 1098 → d ≠ 1099 → t.2 d = s2.2 d) ∧ (∀ k', k' < k → gJ t 1098 (2 * c + k') = gJ s1 1094 k' ∧ gJ t 1099 (2 * c + k') = gJ s1 1095 k') ∧ ∀ p, (p < 2 * c ∨ 2 * c + 2 ≤ p) → gJ t 1098 p = gJ σ 1098 p ∧ gJ t 1099 p = gJ σ 1099 p) 2 (fun n k t hk2 ht => by
      obtain ⟨t1, t2, t3, t4⟩ := ht
      have hk2 : k < 2 := hk2
      have v1 : gJ t 1094 k = gJ s1 1094 k := by unfold gJ; rw [t2 1094 (by decide) (by decide), g2J]
      have v2 : gJ (sJ t 1098 (2 * c + k) (gJ s1 1094 k)) 1095 k = gJ s1 1095 k := by rw [gJ_sJ_c (by decide)]; unfold gJ; rw [t2 1095 (by decide) (by decide), g2J]
      refine ⟨sJ (sJ t 1098 (2 * c + k) (gJ s1 1094 k)) 1099 (2 * c + k) (gJ s1 1095 k), ?_, t1, fun d d1 d2 => by rw [sJ_o d2, sJ_o d1]; exact t2 d d1 d2, fun k' hk' => ?_, fun p hp => ⟨by rw [gJ_sJ_c (by decide), gJ_sJ_k (by omega)]; exact (t4 p hp).1, by rw [gJ_sJ_k (by omega), gJ_sJ_c (by decide)]; exact (t4 p hp).2⟩⟩
      · show f_X6_limitOf_h29 N (nt (c : Nat)) (n + 1) (nt (k : Nat)) t = _
        rw [f_X6_limitOf_h29, n_2, le_f (by omega) (by omega) (by omega), ck_inb (by omega) (by omega) (by omega), nat_k (by omega), v1, bd_eq, nt_mul, nt_add, ck_inb (by omega) (by omega) (by omega), nat_nt (by omega) (by omega), show ((2 : Int) * (c : Nat) + (k : Nat)).toNat = 2 * c + k by omega, bd_eq, ck_inb (by omega) (by omega) (by omega), v2, bd_eq, ck_inb (by omega) (by omega) (by omega), bd_eq, n_1, nt_add, bd_eq]
        rfl
      · by_cases q : k' = k
        · rw [q]
          exact ⟨by rw [gJ_sJ_c (by decide), gJ_sJ_at], by rw [gJ_sJ_at]⟩
        · rw [gJ_sJ_c (by decide), gJ_sJ_k (by omega), gJ_sJ_k (by omega), gJ_sJ_c (by decide)]
          exact t3 k' (by omega)) 2 0 N s2 (by omega) (by omega) ⟨rfl, fun _ _ _ => rfl, fun k' hk' => by omega, fun p _ => ⟨by unfold gJ; rw [g2J, f1.2.2 1098 (by decide), g0J], by unfold gJ; rw [g2J, f1.2.2 1099 (by decide), g0J]⟩⟩
    obtain ⟨m, em⟩ : ∃ m, N - 2 = m + 1 := ⟨N - 2 - 1, by omega⟩
    have et : f_X6_limitOf_h29 N (nt (c : Nat)) N (0 : Int32) s2 = f_X6_limitOf_h29 N (nt (c : Nat)) (N - 2) (nt 2) t := et
    have ht97 : gI t 1097 c = nt (rgF φ c) := by unfold gI; rw [t1, hs2]; exact gI_sI_at _ _ _ _
    rw [em, f_X6_limitOf_h29, n_2, le_t (by omega) (by omega) (by omega), b72, ht97] at et
    have hF : FndC φ t c := fun hr sd hsd => by
      rcases l1 with ⟨a, _⟩ | ⟨a, _⟩ | ⟨_, x0, x1, a1, a2, a3, a4⟩
      · rw [hrc, hr] at a; exact absurd a (by decide)
      · rw [hrc, hr] at a; exact absurd a (by decide)
      · obtain ⟨y1, y2⟩ := t3.1 sd hsd
        rw [y1, y2]
        rcases (show sd = 0 ∨ sd = 1 by omega) with rfl | rfl
        · have : sdV φ c ((0 : Nat) : Int) = x0 := by
            unfold sdV
            rw [if_pos (show ((0 : Nat) : Int) = 0 from rfl)]
            exact GV_of ⟨a3.1, a3.2⟩
          rw [this]
          exact ⟨a1.1, a1.2.1⟩
        · have : sdV φ c ((1 : Nat) : Int) = x1 := by
            unfold sdV
            rw [if_neg (by decide)]
            exact LV_of a4
          rw [this]
          exact ⟨a2.1, a2.2.1⟩
    have gt : ∀ d, d ≠ 1096 → d ≠ 1097 → d ≠ 1067 → d ≠ 1089 → d ≠ 1091 → t.1 d = σ.1 d := fun d d1 d2 d3 d4 d5 => by
      rw [t1, hs2, sI_o d2, f1.1 d d3 d4 d5, g0 d d1]
    have gtk : ∀ k, k ≠ 34 → k ≠ 36 → k ≠ 39 → k ≠ 40 → gI t 1067 k = gI σ 1067 k := fun k k1 k2 k3 k4 => by
      unfold gI
      rw [t1, hs2]
      show gI (sI s1 1097 c (nt (rgF φ c))) 1067 k = gI σ 1067 k
      rw [gI_sI_c (by decide), f1.2.1 k k1 k2 k3 k4]
      unfold gI
      rw [g0 1067 (by decide)]
    have gtJ : ∀ d, ¬ (d = 1067 ∨ (1087 ≤ d ∧ d < 1096) ∨ d = 1098 ∨ d = 1099 ∨ (1100 ≤ d ∧ d < 1104)) → t.2 d = σ.2 d := fun d hd => by
      rw [t2 d (by omega) (by omega), g2J, f1.2.2 d (by omega), g0J]
    refine ⟨t, et, ⟨by rw [gtk 9 (by decide) (by decide) (by decide) (by decide)]; exact hk.1, RSp_o hk.2.1 ⟨fun k hk2 => gtk k (by omega) (by omega) (by omega) (by omega), fun d hd => gt d (by omega) (by omega) (by omega) (by omega) (by omega), fun d hd => gtJ d (by omega)⟩, fun c' c1 c2 => ?_, by rw [gtk 30 (by decide) (by decide) (by decide) (by decide)]; exact hk.2.2.2⟩, ⟨fun d hd => gt d (by omega) (by omega) (by omega) (by omega) (by omega), gtk 0 (by decide) (by decide) (by decide) (by decide), gtk 4 (by decide) (by decide) (by decide) (by decide), fun d hd => gtJ d (by omega)⟩, hF⟩
    have h96 : t.1 1096 = s0.1 1096 := by rw [t1, hs2, sI_o (by decide), f1.1 1096 (by decide) (by decide) (by decide)]
    by_cases q : c' = c
    · subst q
      exact ⟨1, by unfold gI; rw [h96, hs0]; exact gI_sI_at _ _ _ _, Or.inr rfl, fun _ => ⟨ht97, hF⟩⟩
    · obtain ⟨b', d1, d2, d3⟩ := hk.2.2.1 c' c1 c2
      refine ⟨b', ?_, d2, fun hb => ?_⟩
      · unfold gI
        rw [h96, hs0]
        show gI (sI σ 1096 c (nt 1)) 1096 c' = nt b'
        rw [gI_sI_k q]; exact d1
      · obtain ⟨x1, x2⟩ := d3 hb
        refine ⟨?_, fun hr sd hsd => ?_⟩
        · unfold gI
          rw [t1, hs2]
          show gI (sI s1 1097 c (nt (rgF φ c))) 1097 c' = nt (rgF φ c')
          rw [gI_sI_k q]
          unfold gI
          rw [f1.1 1097 (by decide) (by decide) (by decide), g0 1097 (by decide)]
          exact x1
        · obtain ⟨y1, y2⟩ := t3.2 (2 * c' + sd) (by omega)
          rw [y1, y2]
          exact x2 hr sd hsd
  · obtain ⟨x1, x2⟩ := b3 rfl
    rw [if_neg (by decide), b72, x1]
    exact ⟨σ, rfl, hk, frR_rf σ, x2⟩
theorem m_refusal (w : WF φ) (hN : 30000 ≤ N) (h : MFr σ φ) (hk : RK φ σ) {c : Nat} (hc : 1 ≤ c ∧ c ≤ 2) : ∃ τ, f_X6_refusal N (nt (c : Nat)) σ = some (nt (if rk φ < dd φ then -3 else if rgF φ c = 0 then 0 else -5), τ) ∧ RK1 φ τ ∧ MFr τ φ ∧ frR σ τ ∧ (¬ rk φ < dd φ → FndC φ τ c) := by
  obtain ⟨s, e1, h1, h2, h3⟩ := m_loose w hN h hk
  unfold f_X6_refusal
  rw [e1, obd_some, br_p]
  by_cases a : rk φ < dd φ
  · rw [if_pos a, if_pos a]
    exact ⟨s, rfl, h1, h2, h3, fun q => absurd a q⟩
  · rw [if_neg a, if_neg a]
    obtain ⟨t, e2, k1, k2, k3⟩ := m_limitOf w hN h2 h1 a hc
    have h3r := rgF_3 φ c
    rw [e2, obd_some, n_0]
    by_cases q : rgF φ c = 0
    · rw [if_pos q, eq_t q]
      exact ⟨t, rfl, k1, frR_M k2 h2, frR_tr h3 k2, fun _ => k3⟩
    · rw [if_neg q, eq_f q (by omega) (by omega) (by omega) (by omega)]
      exact ⟨t, rfl, k1, frR_M k2 h2, frR_tr h3 k2, fun _ => k3⟩
theorem m_isCase {x : Int} (hx : iR x) : f_X6_isCase N (nt x) σ = some (nt (if 1 ≤ x ∧ x ≤ 2 then 1 else 0), σ) := by
  unfold f_X6_isCase
  rw [n_1, n_2, s_in N x 1 2 hx ⟨by omega, by omega⟩ ⟨by omega, by omega⟩, obd_some, bb_p]
theorem m_limits (w : WF φ) (hN : 30000 ≤ N) (h : MFr σ φ) (hk : RK φ σ) {c : Int} (hc : iR c) : ∃ τ, f_X6_limits N (nt c) σ = some (nt (aLimits φ c), τ) ∧ MAsk φ σ τ := by
  unfold f_X6_limits aLimits
  rw [m_isCase hc, obd_some, br_p]
  by_cases c1 : 1 ≤ c ∧ c ≤ 2
  rotate_left
  · rw [if_neg c1, if_neg c1]; exact ⟨σ, rfl, MAsk_rf hk⟩
  rw [if_pos c1, if_pos c1]
  obtain ⟨s, e1, h1, h2, h3⟩ := m_loose w hN h hk
  rw [e1, obd_some, br_p]
  by_cases a : rk φ < dd φ
  · rw [if_pos a, if_pos a]; exact ⟨s, rfl, RK1_K h1, h3⟩
  · rw [if_neg a, if_neg a]
    obtain ⟨c, rfl⟩ : ∃ j : Nat, c = (j : Int) := ⟨c.toNat, by omega⟩
    obtain ⟨t, e2, k1, k2, k3⟩ := m_limitOf w hN h2 h1 a (c := c) (by omega)
    rw [e2, obd_some]
    exact ⟨t, rfl, RK1_K k1, frR_tr h3 k2⟩
/-- the limits' sizes -/
theorem sdV_bd (w : WF φ) {c : Nat} {sd : Int} (hc : 1 ≤ c ∧ c ≤ 2) (hs : sd = 0 ∨ sd = 1) (hre : ¬ rk φ < dd φ) (hr : rgF φ c = 0) : (sdV φ c sd).num.natAbs ≤ 1358954496 ∧ (sdV φ c sd).den ≤ 440401920 ∧ FS φ c (φ.1 5) (sdV φ c sd) := by
  obtain ⟨τ, hτ⟩ := ex_CK w
  have he : erF φ (c : Nat) sd = 0 := by
    unfold erF
    rw [if_pos ⟨by omega, by omega, by omega⟩, if_neg hre]
    have : ((c : Nat) : Int).toNat = c := rfl
    rw [this, if_pos hr]
  obtain ⟨t, _, _, h3⟩ := s_limitError (N := 1200) w (Nat.le_refl _) hτ (c := (c : Nat)) (sd := sd) ⟨by omega, by omega⟩ ⟨by omega, by omega⟩
  obtain ⟨g, h, l, k, _, _, q3, q4, q5, q6, q7⟩ := h3 he
  have hct : ((c : Nat) : Int).toNat = c := rfl
  rw [hct] at q3
  obtain ⟨v1, v2⟩ := Lim_V q3
  obtain ⟨G1, G2, _⟩ := Lim_G q3
  have q31 := q3.1
  have q32 := q3.2.1
  unfold sdV
  rcases hs with rfl | rfl
  · rw [if_pos rfl, v1]
    refine ⟨?_, ?_, G1.1⟩
    · rw [← rn_q]; exact Nat.le_trans (rn_abs q31) q4
    · have h1 := rd_le (u := g) q31
      have h2 : rd g h = ((((g : Rat) * (h : Rat)⁻¹).den : Nat) : Int) := rd_q
      omega
  · rw [if_neg (by decide), v2]
    refine ⟨?_, ?_, G2⟩
    · rw [← rn_q]; exact Nat.le_trans (rn_abs q32) q5
    · have h1 := rd_le (u := l) q32
      have h2 : rd l k = ((((l : Rat) * (k : Rat)⁻¹).den : Nat) : Int) := rd_q
      omega
theorem m_factor (w : WF φ) (hN : 30000 ≤ N) (h : MFr σ φ) (hk : RK φ σ) {c sd y : Int} (hc : iR c) (hs : iR sd) (hy : iR y) : ∃ τ, f_X6_factor N (nt c) (nt sd) (nt y) σ = some (jl (aFactor φ c sd y), τ) ∧ MAsk φ σ τ := by
  have hbad : (-4000000000000000002 : Int64) = jl (-4000000000000000002) := rfl
  have n0 : (0 : Int32) = nt 0 := rfl
  unfold f_X6_factor
  rw [m_isCase hc, obd_some, br_p]
  by_cases c1 : 1 ≤ c ∧ c ≤ 2
  rotate_left
  · rw [if_neg c1, hbad]
    have he : erF φ c sd = -2 := by
      unfold erF
      rw [if_neg (fun q => c1 q.1)]
    have : aFactor φ c sd y = -4000000000000000002 := by
      unfold aFactor
      rw [he]
      split
      · rw [if_neg (by decide)]; rfl
      · rfl
    rw [this]
    exact ⟨σ, rfl, MAsk_rf hk⟩
  rw [if_pos c1, n0, n_1, s_in N sd 0 1 hs ⟨by omega, by omega⟩ ⟨by omega, by omega⟩, obd_some, n0.symm, br_p]
  by_cases s1 : 0 ≤ sd ∧ sd ≤ 1
  rotate_left
  · rw [if_neg s1, hbad]
    have he : erF φ c sd = -2 := by
      unfold erF
      rw [if_neg (fun q => s1 q.2)]
    have : aFactor φ c sd y = -4000000000000000002 := by
      unfold aFactor
      rw [he]
      split
      · rw [if_neg (by decide)]; rfl
      · rfl
    rw [this]
    exact ⟨σ, rfl, MAsk_rf hk⟩
  rw [if_pos s1, n0, s_in N y 0 1 hy ⟨by omega, by omega⟩ ⟨by omega, by omega⟩, obd_some, n0.symm, br_p]
  by_cases y1 : 0 ≤ y ∧ y ≤ 1
  rotate_left
  · rw [if_neg y1, hbad]
    have : aFactor φ c sd y = -4000000000000000002 := by
      unfold aFactor
      rw [if_neg y1]
    rw [this]
    exact ⟨σ, rfl, MAsk_rf hk⟩
  rw [if_pos y1]
  obtain ⟨c, rfl⟩ : ∃ j : Nat, c = (j : Int) := ⟨c.toNat, by omega⟩
  obtain ⟨sd, rfl⟩ : ∃ j : Nat, sd = (j : Int) := ⟨sd.toNat, by omega⟩
  have hct : ((c : Nat) : Int).toNat = c := rfl
  obtain ⟨τ, e1, k1, k2, k3, k4⟩ := m_refusal w hN h hk (c := c) (by omega)
  have he : erF φ (c : Nat) (sd : Nat) = if rk φ < dd φ then (-3 : Int) else if rgF φ c = 0 then 0 else -5 := by
    unfold erF
    rw [if_pos ⟨c1, s1.1, s1.2⟩, hct]
  have hae : aFactor φ (c : Nat) (sd : Nat) y = if (if rk φ < dd φ then (-3 : Int) else if rgF φ c = 0 then 0 else -5) = 0 then ptR (sdV φ c (sd : Nat)) y else -4000000000000000000 + (if rk φ < dd φ then (-3 : Int) else if rgF φ c = 0 then 0 else -5) := by
    unfold aFactor
    rw [if_pos y1, he, hct]
  rw [e1, obd_some, hae, n0]
  obtain ⟨rv, hrv⟩ : ∃ rv : Int, rv = if rk φ < dd φ then (-3 : Int) else if rgF φ c = 0 then 0 else -5 := ⟨_, rfl⟩
  have hrb : -5 ≤ rv ∧ rv ≤ 0 := by rw [hrv]; split <;> (try split) <;> omega
  rw [← hrv]
  refine ⟨τ, ?_, RK1_K k1, k3⟩
  by_cases q : rv = 0
  · have hl : ¬ rk φ < dd φ := fun z => by rw [if_pos z] at hrv; omega
    rw [if_neg hl] at hrv
    have hr : rgF φ c = 0 := by
      apply Classical.byContradiction
      intro z
      rw [if_neg z] at hrv; omega
    obtain ⟨x1, x2⟩ := k4 hl hr sd (by omega)
    rw [if_pos q, q, eq_t rfl, n_2, nt_mul, nt_add]
    unfold ptR
    rcases (show y = 0 ∨ y = 1 by omega) with rfl | rfl
    · rw [eq_t rfl, ck_inb (by omega) (by omega) (by omega), nat_nt (by omega) (by omega), show ((2 : Int) * (c : Nat) + (sd : Nat)).toNat = 2 * c + sd by omega, x1, if_pos rfl]
    · rw [eq_f (by decide) (by decide) (by decide) (by decide) (by decide), ck_inb (by omega) (by omega) (by omega), nat_nt (by omega) (by omega), show ((2 : Int) * (c : Nat) + (sd : Nat)).toNat = 2 * c + sd by omega, x2, if_neg (by decide)]
  · rw [if_neg q, eq_f q (by omega) (by omega) (by omega) (by omega), long_nt (by omega) (by omega), show (-4000000000000000000 : Int64) = jl (-4000000000000000000) from rfl, jl_add]
theorem m_near (w : WF φ) (hN : 30000 ≤ N) (h : MFr σ φ) (hk : RK φ σ) {c sd : Int} (hc : iR c) (hs : iR sd) : ∃ τ, f_X6_near N (nt c) (nt sd) σ = some (aNear φ c sd, τ) ∧ MAsk φ σ τ := by
  have n0 : (0 : Int32) = nt 0 := rfl
  unfold f_X6_near
  rw [m_isCase hc, obd_some, br_p]
  by_cases c1 : 1 ≤ c ∧ c ≤ 2
  rotate_left
  · rw [if_neg c1]
    have he : erF φ c sd = -2 := by
      unfold erF
      rw [if_neg (fun q => c1 q.1)]
    have : aNear φ c sd = nt (-2) := by
      unfold aNear
      rw [he, if_neg (by decide)]
    rw [this]
    exact ⟨σ, rfl, MAsk_rf hk⟩
  rw [if_pos c1, n0, n_1, s_in N sd 0 1 hs ⟨by omega, by omega⟩ ⟨by omega, by omega⟩, obd_some, n0.symm, br_p]
  by_cases s1 : 0 ≤ sd ∧ sd ≤ 1
  rotate_left
  · rw [if_neg s1]
    have he : erF φ c sd = -2 := by
      unfold erF
      rw [if_neg (fun q => s1 q.2)]
    have : aNear φ c sd = nt (-2) := by
      unfold aNear
      rw [he, if_neg (by decide)]
    rw [this]
    exact ⟨σ, rfl, MAsk_rf hk⟩
  rw [if_pos s1]
  obtain ⟨c, rfl⟩ : ∃ j : Nat, c = (j : Int) := ⟨c.toNat, by omega⟩
  obtain ⟨sd, rfl⟩ : ∃ j : Nat, sd = (j : Int) := ⟨sd.toNat, by omega⟩
  have hct : ((c : Nat) : Int).toNat = c := rfl
  obtain ⟨τ, e1, k1, k2, k3, k4⟩ := m_refusal w hN h hk (c := c) (by omega)
  have he : erF φ (c : Nat) (sd : Nat) = if rk φ < dd φ then (-3 : Int) else if rgF φ c = 0 then 0 else -5 := by
    unfold erF
    rw [if_pos ⟨c1, s1.1, s1.2⟩, hct]
  have hae : aNear φ (c : Nat) (sd : Nat) = if (if rk φ < dd φ then (-3 : Int) else if rgF φ c = 0 then 0 else -5) = 0 then nrb (sdV φ c (sd : Nat)).num ((sdV φ c (sd : Nat)).den : Int) else nt (if rk φ < dd φ then (-3 : Int) else if rgF φ c = 0 then 0 else -5) := by
    unfold aNear
    rw [he, hct]
  rw [e1, obd_some, hae, n0]
  obtain ⟨rv, hrv⟩ : ∃ rv : Int, rv = if rk φ < dd φ then (-3 : Int) else if rgF φ c = 0 then 0 else -5 := ⟨_, rfl⟩
  have hrb : -5 ≤ rv ∧ rv ≤ 0 := by rw [hrv]; split <;> (try split) <;> omega
  rw [← hrv]
  refine ⟨τ, ?_, RK1_K k1, k3⟩
  by_cases q : rv = 0
  · have hl : ¬ rk φ < dd φ := fun z => by rw [if_pos z] at hrv; omega
    rw [if_neg hl] at hrv
    have hr : rgF φ c = 0 := by
      apply Classical.byContradiction
      intro z
      rw [if_neg z] at hrv; omega
    obtain ⟨x1, x2⟩ := k4 hl hr sd (by omega)
    obtain ⟨y1, y2, _⟩ := sdV_bd w (c := c) (sd := (sd : Nat)) (by omega) (by omega) hl hr
    have hdp := (sdV φ c (sd : Nat)).den_pos
    obtain ⟨z1, z2⟩ := fq_ok (u := (sdV φ c (sd : Nat)).num) (v := ((sdV φ c (sd : Nat)).den : Int)) (by omega) ⟨by omega, by omega⟩
    rw [if_pos q, q, eq_t rfl, n_2, nt_mul, nt_add, ck_inb (by omega) (by omega) (by omega), ck_inb (by omega) (by omega) (by omega), nat_nt (by omega) (by omega), show ((2 : Int) * (c : Nat) + (sd : Nat)).toNat = 2 * c + sd by omega, x1, x2, ck_of z1, j_bits z2, obd_some]
    rfl
  · rw [if_neg q, eq_f q (by omega) (by omega) (by omega) (by omega)]
end
