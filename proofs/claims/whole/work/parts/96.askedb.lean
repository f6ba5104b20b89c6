-- ===== the class answers: bounds, limits, factors, bearing =====
section
variable {N : Nat} {φ : FR} {pi : Nat → Nat}
noncomputable def aBound (φ : FR) (i c y : Int) : Int := if 1 ≤ c ∧ c ≤ 2 then (if 0 ≤ y ∧ y ≤ 3 then (if rk φ < dd φ then -4000000000000000003 else if 0 ≤ i ∧ i ≤ ((ML φ).length : Int) - 1 then (if cd (dq (dd φ) (pq φ c.toNat) (mo φ (nth (ML φ) i.toNat)) = 0) = true then -4000000000000000005 else pt4 (bdU φ c.toNat (nth (ML φ) i.toNat)) (bdL φ c.toNat (nth (ML φ) i.toNat)) y) else -4000000000000000001) else -4000000000000000002) else -4000000000000000002
theorem c_bound (w : WF φ) (hN : 1200 ≤ N) {σ : ZS} (hc : CFr σ 0 φ) (hk : CK φ σ) {i c y : Int} (hi : iR i) (hcc : iR c) (hy : iR y) : ∃ τ, f_X5_bound N (nt i) (nt c) (nt y) σ = some (jl (aBound φ i c y), τ) ∧ Ask φ σ τ := by
  unfold f_X5_bound aBound
  rw [s_isFactored hcc, obd_some, br_p]
  by_cases c1 : 1 ≤ c ∧ c ≤ 2
  rotate_left
  · rw [if_neg c1, if_neg c1]; exact ⟨σ, rfl, Ask_rf hk⟩
  rw [if_pos c1, if_pos c1, n_0, n_3, s_within N y 0 3 hy ⟨by omega, by omega⟩ ⟨by omega, by omega⟩, obd_some, n_0.symm, br_p]
  by_cases y1 : 0 ≤ y ∧ y ≤ 3
  rotate_left
  · rw [if_neg y1, if_neg y1]; exact ⟨σ, rfl, Ask_rf hk⟩
  rw [if_pos y1, if_pos y1]
  obtain ⟨s, e1, e2, e3⟩ := s_refresh w hN hc hk
  have hl := s_isLoose (N := N) w e2
  obtain ⟨_, _, pi, L, h1, h2, h3, h4, h5, h6⟩ := id e2
  have hL := h5.2.2.1
  rw [e1, obd_some, hl, obd_some, br_p, CMe_ML h5]
  by_cases a : rk φ < dd φ
  · rw [if_pos a, if_pos a]; exact ⟨s, rfl, Ask_7 e2 e3 (fr7_rf s)⟩
  rw [if_neg a, if_neg a, s_isMechanism h5 hi, obd_some, br_p]
  by_cases b : 0 ≤ i ∧ i ≤ (L.length : Int) - 1
  rotate_left
  · rw [if_neg b, if_neg b]; exact ⟨s, rfl, Ask_7 e2 e3 (fr7_rf s)⟩
  rw [if_pos b, if_pos b]
  obtain ⟨j, rfl⟩ : ∃ j : Nat, i = (j : Int) := ⟨i.toNat, by omega⟩
  obtain ⟨c, rfl⟩ : ∃ j : Nat, c = (j : Int) := ⟨c.toNat, by omega⟩
  have ht1 : ((j : Nat) : Int).toNat = j := rfl
  have ht2 : ((c : Nat) : Int).toNat = c := rfl
  have hk2 : j < L.length := by omega
  obtain ⟨q, r, St, W, hw⟩ := h6.2.2 j _ (List.getElem?_eq_getElem hk2)
  have hn : nth L j = mq φ q := (nth_of (List.getElem?_eq_getElem hk2)).trans hw.2.2.2.1
  rw [ht1, hn, ht2]
  obtain ⟨τ, g1, g2, g3, g4⟩ := s_bounds (N := N) (k := j) (c := c) (by omega) (by omega) hw
  rw [g1, obd_some]
  obtain ⟨_, _, hel, _, _, ⟨_, a2, a3, a4⟩, a5⟩ := hw
  obtain ⟨_, b2, b3⟩ := a5 c (by omega)
  obtain ⟨_, c2, c3⟩ := a5 0 (by omega)
  obtain ⟨hz, hb⟩ := bd_of (c := c) hel rfl
  have hz2 : dq (dd φ) (pq φ c) (mo φ (mq φ q)) = 0 ↔ W c = 0 := by rw [← hz, ← b2, q_0]
  by_cases ez : W c = 0
  · rw [if_pos ez, if_pos (cd_iff.mpr (hz2.mpr ez))]
    exact ⟨τ, rfl, Ask_7 e2 e3 (fr9_7 g2)⟩
  · have hne : ¬ nt 1 = 0 := by decide
    rw [if_neg ez, if_neg (fun w => ez (hz2.mp (cd_iff.mp w))), if_neg hne]
    obtain ⟨τ2, u1, u2⟩ := s_extreme (N := N) (by omega) g3 g4 ⟨by split <;> omega, by split <;> omega⟩ ⟨by omega, by omega⟩ ⟨by split <;> omega, by split <;> omega⟩ ⟨by omega, by omega⟩ (by omega) (by omega) y1
    refine ⟨τ2, ?_, Ask_7 e2 e3 (fr9_7 (fr9_tr g2 u2))⟩
    rw [u1, obd_some]
    obtain ⟨v1, v2⟩ := hb (by rw [← b2]; exact fun w => ez (q_0.mp w))
    have hsd : stdy (dq (dd φ) (pq φ c) q) (dq (dd φ) (pq φ 0) q) = (((if W c < 0 then -W 0 else W 0) : Int) : Rat) := by
      unfold stdy
      rw [← b2, ← c2]
      by_cases e : W c < 0
      · have : ((W c : Int) : Rat) < 0 := Rat.intCast_lt_intCast.mpr e
        rw [if_pos e, if_pos this, Rat.intCast_neg]
      · have : ¬ ((W c : Int) : Rat) < 0 := fun h => e (Rat.intCast_lt_intCast.mp h)
        rw [if_neg e, if_neg this]
    rw [hsd, ← a2, ← b2, ab_int] at v1 v2
    rw [← Rat.intCast_sub] at v1
    rw [← Rat.intCast_neg, ← Rat.intCast_sub] at v2
    unfold pt4
    rw [v1, v2, ← rn_q, ← rd_q, ← rn_q, ← rd_q]
/-- the class's finding, as the case's kind -/
theorem RgO_F (w : WF φ) {c : Nat} {τ : ZS} {rc : Int} (h : RgO φ c (φ.1 5) τ rc) : rc = rgF φ c := by
  unfold rgF
  rcases h with ⟨rfl, h⟩ | ⟨rfl, h⟩ | ⟨rfl, g, hh, l, k, _, _, h, _⟩
  · rw [if_pos (cd_f.mpr (fun ⟨f, hf⟩ => h f hf))]
  · rw [if_neg (fun w => absurd (cd_f.mp w) (fun w => w ⟨0, h 0⟩)), if_pos (cd_iff.mpr h)]
  · obtain ⟨h1, _, _⟩ := Lim_G h
    rw [if_neg (fun w => absurd (cd_f.mp w) (fun w => w ⟨_, h1.1⟩)), if_neg (fun w => by
      have := h1.2 _ (cd_iff.mp w ((g : Rat) * (hh : Rat)⁻¹ + 1))
      grind)]
theorem s_range0 (w : WF φ) (hN : 1200 ≤ N) {σ : ZS} {L : List Nat} (hM : CMe φ pi σ L) (hB : CBl φ pi σ L) {c : Nat} (hc : 1 ≤ c ∧ c ≤ 2) : ∃ τ, f_X0_range N (nt (c : Nat)) (0 : Int32) (0 : Int32) σ = some (nt (rgF φ c), τ) ∧ fr9 σ τ ∧ RgO φ c (φ.1 5) τ (rgF φ c) := by
  obtain ⟨τ, rc, h1, h2, h3⟩ := s_range w hN hM hB hc (b := 0) (fun h => L_nb hM h) (x := 0) ⟨by omega, by omega⟩ (fun hb => by
    have := (w.2.2.2.1 0 hb).2.2.2.2; omega)
  rw [Sx_0] at h3
  have := RgO_F w h3
  subst this
  exact ⟨τ, h1, h2, h3⟩
noncomputable def aLimits (φ : FR) (c : Int) : Int := if 1 ≤ c ∧ c ≤ 2 then (if rk φ < dd φ then -3 else rgF φ c.toNat) else -2
theorem c_limits (w : WF φ) (hN : 1200 ≤ N) {σ : ZS} (hc : CFr σ 0 φ) (hk : CK φ σ) {c : Int} (hcc : iR c) : ∃ τ, f_X5_limits N (nt c) σ = some (nt (aLimits φ c), τ) ∧ Ask φ σ τ := by
  unfold f_X5_limits aLimits
  rw [s_isFactored hcc, obd_some, br_p]
  by_cases c1 : 1 ≤ c ∧ c ≤ 2
  rotate_left
  · rw [if_neg c1, if_neg c1]; exact ⟨σ, rfl, Ask_rf hk⟩
  rw [if_pos c1, if_pos c1]
  obtain ⟨s, e1, e2, e3⟩ := s_refresh w hN hc hk
  have hl := s_isLoose (N := N) w e2
  obtain ⟨_, _, pi, L, h1, h2, h3, h4, h5, h6⟩ := id e2
  rw [e1, obd_some, hl, obd_some, br_p]
  by_cases a : rk φ < dd φ
  · rw [if_pos a, if_pos a]; exact ⟨s, rfl, Ask_7 e2 e3 (fr7_rf s)⟩
  rw [if_neg a, if_neg a]
  obtain ⟨c, rfl⟩ : ∃ j : Nat, c = (j : Int) := ⟨c.toNat, by omega⟩
  obtain ⟨τ, g1, g2, _⟩ := s_range0 (N := N) w hN h5 h6 (c := c) (by omega)
  rw [g1, obd_some]
  exact ⟨τ, rfl, Ask_7 e2 e3 (fr9_7 g2)⟩
/-- what is asked about limits: the error, or the limits in their cells -/
theorem rgF_3 (φ : FR) (c : Nat) : rgF φ c = 0 ∨ rgF φ c = 1 ∨ rgF φ c = 2 := by unfold rgF; split <;> (try split) <;> simp
theorem s_limitError (w : WF φ) (hN : 1200 ≤ N) {σ : ZS} (h : CK1 φ σ) {c sd : Int} (hc : iR c) (hs : iR sd) : ∃ τ, f_X5_limitError N (nt c) (nt sd) σ = some (nt (erF φ c sd), τ) ∧ fr9 σ τ ∧ (erF φ c sd = 0 → ∃ g h l k : Int, Fq τ 9 g h ∧ Fq τ 10 l k ∧ Lim φ c.toNat (φ.1 5) g h l k ∧ g.natAbs ≤ 1358954496 ∧ l.natAbs ≤ 1358954496 ∧ h ≤ 440401920 ∧ k ≤ 440401920) := by
  have hl := s_isLoose (N := N) w h
  obtain ⟨_, _, pi, L, h1, h2, h3, h4, h5, h6⟩ := id h
  unfold f_X5_limitError erF
  rw [s_isFactored hc, obd_some, br_p]
  by_cases c1 : 1 ≤ c ∧ c ≤ 2
  rotate_left
  · rw [if_neg c1, if_neg (fun w => c1 w.1)]; exact ⟨σ, rfl, fr9_rf σ, fun h => by omega⟩
  rw [if_pos c1, n_0, n_1, s_within N sd 0 1 hs ⟨by omega, by omega⟩ ⟨by omega, by omega⟩, obd_some, n_0.symm, br_p]
  by_cases y1 : 0 ≤ sd ∧ sd ≤ 1
  rotate_left
  · rw [if_neg y1, if_neg (fun w => y1 w.2)]; exact ⟨σ, rfl, fr9_rf σ, fun h => by omega⟩
  rw [if_pos y1, if_pos ⟨c1, y1⟩, hl, obd_some, br_p]
  by_cases a : rk φ < dd φ
  · rw [if_pos a, if_pos a]; exact ⟨σ, rfl, fr9_rf σ, fun h => by omega⟩
  rw [if_neg a, if_neg a]
  obtain ⟨c, rfl⟩ : ∃ j : Nat, c = (j : Int) := ⟨c.toNat, by omega⟩
  obtain ⟨τ, g1, g2, g3⟩ := s_range0 (N := N) w hN h5 h6 (c := c) (by omega)
  have ht2 : ((c : Nat) : Int).toNat = c := rfl
  rw [g1, obd_some, ht2]
  have h3 := rgF_3 φ c
  by_cases e : rgF φ c = 0
  · rw [if_pos e, e, n_0, eq_t rfl]
    refine ⟨τ, rfl, g2, fun _ => ?_⟩
    rcases g3 with ⟨q, _⟩ | ⟨q, _⟩ | ⟨_, q⟩
    · omega
    · omega
    · exact q
  · rw [if_neg e, n_0, eq_f e (by omega) (by omega) (by omega) (by omega)]
    exact ⟨τ, rfl, g2, fun h => by omega⟩
noncomputable def aFactor (φ : FR) (c sd y : Int) : Int := if 0 ≤ y ∧ y ≤ 1 then (if erF φ c sd = 0 then ptR (sdV φ c.toNat sd) y else -4000000000000000000 + erF φ c sd) else -4000000000000000002
theorem erF_rg (φ : FR) (c sd : Int) : -5 ≤ erF φ c sd ∧ erF φ c sd ≤ 0 := by unfold erF; split <;> (try split) <;> (try split) <;> omega
theorem erF_0 {φ : FR} {c sd : Int} (h : erF φ c sd = 0) : (1 ≤ c ∧ c ≤ 2) ∧ 0 ≤ sd ∧ sd ≤ 1 ∧ ¬ rk φ < dd φ := by
  unfold erF at h
  split at h
  · rename_i h1
    split at h
    · omega
    · rename_i h2; exact ⟨h1.1, h1.2.1, h1.2.2, h2⟩
  · omega
theorem Lim_V {c : Nat} {g h l k : Int} (hL : Lim φ c (φ.1 5) g h l k) : GV φ c (φ.1 5) = (g : Rat) * (h : Rat)⁻¹ ∧ LV φ c = (l : Rat) * (k : Rat)⁻¹ := by
  obtain ⟨h1, h2, h3⟩ := Lim_G hL
  exact ⟨GV_of h1, sel_of ⟨h2, h3⟩ Lst_u⟩
theorem c_factor (w : WF φ) (hN : 1200 ≤ N) {σ : ZS} (hc : CFr σ 0 φ) (hk : CK φ σ) {c sd y : Int} (hcc : iR c) (hs : iR sd) (hy : iR y) : ∃ τ, f_X5_factor N (nt c) (nt sd) (nt y) σ = some (jl (aFactor φ c sd y), τ) ∧ Ask φ σ τ := by
  obtain ⟨s, e1, e2, e3⟩ := s_refresh w hN hc hk
  unfold f_X5_factor aFactor
  rw [e1, obd_some, n_0, n_1, s_within N y 0 1 hy ⟨by omega, by omega⟩ ⟨by omega, by omega⟩, obd_some, n_0.symm, br_p]
  by_cases y1 : 0 ≤ y ∧ y ≤ 1
  rotate_left
  · rw [if_neg y1, if_neg y1]; exact ⟨s, rfl, Ask_7 e2 e3 (fr7_rf s)⟩
  rw [if_pos y1, if_pos y1]
  obtain ⟨t, g1, g2, g3⟩ := s_limitError (N := N) w hN e2 hcc hs
  rw [g1, obd_some]
  have her := erF_rg φ c sd
  unfold f_X5_factor_b24
  by_cases e : erF φ c sd = 0
  rotate_left
  · rw [if_neg e, n_0, eq_f e (by omega) (by omega) (by omega) (by omega), long_nt (by omega) (by omega)]
    refine ⟨t, ?_, Ask_7 e2 e3 (fr9_7 g2)⟩
    have : (-4000000000000000000 : Int64) = jl (-4000000000000000000) := rfl
    rw [this, jl_add]
  · obtain ⟨_, hs0, hs1, _⟩ := erF_0 e
    obtain ⟨g, h, l, k, q1, q2, q3, q4, q5, q6, q7⟩ := g3 e
    obtain ⟨v1, v2⟩ := Lim_V q3
    have q31 := q3.1
    have q32 := q3.2.1
    rw [if_pos e, e, n_0, eq_t rfl]
    unfold f_X0_limit sdV ptR
    rcases (show sd = 0 ∨ sd = 1 by omega) with rfl | rfl
    · obtain ⟨τ, u1, u2, u3, u4⟩ := s_lowest (σ := t) (N := N) (by omega) (isc_f (c := 9) ⟨by omega, by omega⟩) q1 ⟨by omega, by omega⟩ ⟨by omega, by omega⟩ q31 (q := y) (by omega)
      rw [n_0, eq_t rfl, obd_some, ck_of (isc_f ⟨by omega, by omega⟩), u1, obd_some, if_pos rfl, v1, ← rn_q, ← rd_q]
      exact ⟨τ, rfl, Ask_7 e2 e3 (fr9_7 (fr9_tr g2 ⟨u3, fun d d1 d2 d3 => u4 d d1⟩))⟩
    · obtain ⟨τ, u1, u2, u3, u4⟩ := s_lowest (σ := t) (N := N) (by omega) (isc_f (c := 10) ⟨by omega, by omega⟩) q2 ⟨by omega, by omega⟩ ⟨by omega, by omega⟩ q32 (q := y) (by omega)
      rw [n_0, eq_f (by omega) (by omega) (by omega) (by omega) (by omega), obd_some, ck_of (isc_f ⟨by omega, by omega⟩), u1, obd_some, if_neg (show ¬ (1 : Int) = 0 by omega), v2, ← rn_q, ← rd_q]
      exact ⟨τ, rfl, Ask_7 e2 e3 (fr9_7 (fr9_tr g2 ⟨u3, fun d d1 d2 d3 => u4 d d2⟩))⟩
noncomputable def aBears (φ : FR) (x y n : Int) : Int := if (-99 ≤ x ∧ x ≤ 99) ∧ (-99 ≤ y ∧ y ≤ 99) ∧ 1 ≤ n ∧ n ≤ 99 then (if rk φ < dd φ then -3 else if cd (Cy φ x y n) = true then 1 else 0) else -2
theorem c_bears (w : WF φ) (hN : 1200 ≤ N) {σ : ZS} (hc : CFr σ 0 φ) (hk : CK φ σ) {x y n : Int} (hx : iR x) (hy : iR y) (hn : iR n) : ∃ τ, f_X5_bears N (nt x) (nt y) (nt n) σ = some (nt (aBears φ x y n), τ) ∧ Ask φ σ τ := by
  unfold f_X5_bears aBears
  have n99 : (99 : Int32) = nt 99 := rfl
  have m99 : (-99 : Int32) = nt (-99) := rfl
  rw [m99, n99, s_within N x (-99) 99 hx ⟨by omega, by omega⟩ ⟨by omega, by omega⟩, obd_some, br_p]
  by_cases c1 : -99 ≤ x ∧ x ≤ 99
  rotate_left
  · rw [if_neg c1, if_neg (fun w => c1 w.1)]; exact ⟨σ, rfl, Ask_rf hk⟩
  rw [if_pos c1, s_within N y (-99) 99 hy ⟨by omega, by omega⟩ ⟨by omega, by omega⟩, obd_some, br_p]
  by_cases c2 : -99 ≤ y ∧ y ≤ 99
  rotate_left
  · rw [if_neg c2, if_neg (fun w => c2 w.2.1)]; exact ⟨σ, rfl, Ask_rf hk⟩
  rw [if_pos c2, n_1, s_within N n 1 99 hn ⟨by omega, by omega⟩ ⟨by omega, by omega⟩, obd_some, br_p]
  by_cases c3 : 1 ≤ n ∧ n ≤ 99
  rotate_left
  · rw [if_neg c3, if_neg (fun w => c3 w.2.2)]; exact ⟨σ, rfl, Ask_rf hk⟩
  rw [if_pos c3, if_pos ⟨c1, c2, c3⟩]
  obtain ⟨s, e1, e2, e3⟩ := s_refresh w hN hc hk
  have hl := s_isLoose (N := N) w e2
  obtain ⟨_, _, pi, L, h1, h2, h3, h4, h5, h6⟩ := id e2
  rw [e1, obd_some, hl, obd_some, br_p]
  by_cases a : rk φ < dd φ
  · rw [if_pos a, if_pos a]; exact ⟨s, rfl, Ask_7 e2 e3 (fr7_rf s)⟩
  rw [if_neg a, if_neg a]
  obtain ⟨rc, g1, g2⟩ := s_carries (N := N) hN h5 h6 (x := x) (y := y) (n := n) (by omega) (by omega) (by omega)
  rw [g1, obd_some]
  refine ⟨s, ?_, Ask_7 e2 e3 (fr7_rf s)⟩
  rcases g2 with ⟨rfl, g2⟩ | ⟨rfl, g2⟩
  · rw [if_pos (cd_iff.mpr g2)]; rfl
  · rw [if_neg (fun w => g2 (cd_iff.mp w))]; rfl
end
