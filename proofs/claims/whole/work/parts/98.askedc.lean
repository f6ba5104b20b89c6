-- ===== the class answers: moments, yielding, binding, spare, weakest =====
section
variable {N : Nat} {φ : FR} {pi : Nat → Nat}
theorem rn_val {u l : Int} (hl : 0 < l) : (rn u l : Rat) * (rd u l : Rat)⁻¹ = (u : Rat) * (l : Rat)⁻¹ := (q_same rd_pos hl).mp (rn_rd hl)
/-- the error, or the limit loads ready -/
theorem s_loads (w : WF φ) (hN : 1200 ≤ N) {σ : ZS} (h : CK1 φ σ) {c sd : Int} (hc : iR c) (hs : iR sd) (he : erF φ c sd = 0) {t : ZS} (ht : fr9 σ t) (hg : ∃ g h l k : Int, Fq t 9 g h ∧ Fq t 10 l k ∧ Lim φ c.toNat (φ.1 5) g h l k ∧ g.natAbs ≤ 1358954496 ∧ l.natAbs ≤ 1358954496 ∧ h ≤ 440401920 ∧ k ≤ 440401920) : ∃ τ u v, f_X0_takeLimitLoads N (nt c) (nt sd) t = some ((), τ) ∧ fr7 σ τ ∧ LmL τ c.toNat u v ∧ (u : Rat) * (v : Rat)⁻¹ = sdV φ c.toNat sd ∧ FS φ c.toNat (φ.1 5) (sdV φ c.toNat sd) ∧ NLF φ := by
  obtain ⟨c1, hs0, hs1, hlo⟩ := erF_0 he
  obtain ⟨g, h', l, k, q1, q2, q3, q4, q5, q6, q7⟩ := hg
  obtain ⟨v1, v2⟩ := Lim_V q3
  obtain ⟨w1, w2, w3⟩ := Lim_G q3
  have q31 := q3.1
  have q32 := q3.2.1
  have hNL : NLF φ := by
    obtain ⟨_, _, pi, L, _, _, h3, h4, _⟩ := h
    exact h4 (by omega)
  obtain ⟨c, rfl⟩ : ∃ j : Nat, c = (j : Int) := ⟨c.toNat, by omega⟩
  have ht2 : ((c : Nat) : Int).toNat = c := rfl
  obtain ⟨τ, e1, e2, e3⟩ := s_take (N := N) (by omega) q1 q2 q4 ⟨q31, q6⟩ q5 ⟨q32, q7⟩ (c := c) (sd := sd) (by omega)
  rw [ht2] at v1 v2 w1 w2 ⊢
  refine ⟨τ, _, _, e1, fr7_tr (fr9_7 ht) e2, e3, ?_, ?_, hNL⟩
  · unfold sdV
    rcases (show sd = 0 ∨ sd = 1 by omega) with rfl | rfl
    · rw [if_pos rfl, if_pos rfl, if_pos rfl, rn_val q31, v1]
    · rw [if_neg (by omega), if_neg (by omega), if_neg (by omega), rn_val q32, v2]
  · unfold sdV
    rcases (show sd = 0 ∨ sd = 1 by omega) with rfl | rfl
    · rw [if_pos rfl, v1]; exact w1.1
    · rw [if_neg (by omega), v2]; exact w2
noncomputable def er4 (φ : FR) (c sd y m : Int) : Int := if 0 ≤ y ∧ y ≤ m then erF φ c sd else -2
theorem er4_rg (φ : FR) (c sd y m : Int) : -5 ≤ er4 φ c sd y m ∧ er4 φ c sd y m ≤ 0 := by
  have := erF_rg φ c sd
  unfold er4; split <;> omega
noncomputable def aMoment (φ : FR) (c sd e y : Int) : Int := if 0 ≤ e ∧ e ≤ 2 * nb φ - 1 then (if er4 φ c sd y 3 = 0 then pt4 (mG φ c.toNat (sdV φ c.toNat sd) e.toNat) (mL φ c.toNat (sdV φ c.toNat sd) e.toNat) y else -4000000000000000000 + er4 φ c sd y 3) else -4000000000000000001
theorem MoS_V {c : Nat} {f : Rat} {e : Nat} (hne : ∃ m, MoS φ c f e m) {g h l k : Int} (hh : 0 < h) (hk : 0 < k) (hi : ∀ m : Rat, MoS φ c f e m ↔ m * (h : Rat) ≤ (g : Rat) ∧ (l : Rat) ≤ m * (k : Rat)) : mG φ c f e = (g : Rat) * (h : Rat)⁻¹ ∧ mL φ c f e = (l : Rat) * (k : Rat)⁻¹ := by
  obtain ⟨m, hm⟩ := hne
  have hi2 : ∀ m, MoS φ c f e m ↔ m ≤ (g : Rat) * (h : Rat)⁻¹ ∧ (l : Rat) * (k : Rat)⁻¹ ≤ m := fun m => by rw [hi, q_quo hh, q_quo2 hk]
  have h1 := (hi2 m).mp hm
  have h2 : (l : Rat) * (k : Rat)⁻¹ ≤ (g : Rat) * (h : Rat)⁻¹ := by grind
  refine ⟨sel_of ⟨(hi2 _).mpr ⟨Rat.le_refl, h2⟩, fun y hy => ((hi2 y).mp hy).1⟩ Grt_u, sel_of ⟨(hi2 _).mpr ⟨h2, Rat.le_refl⟩, fun y hy => ((hi2 y).mp hy).2⟩ Lst_u⟩
theorem c_moment (w : WF φ) (hN : 1200 ≤ N) {σ : ZS} (hc : CFr σ 0 φ) (hk : CK φ σ) {c sd e y : Int} (hcc : iR c) (hs : iR sd) (he : iR e) (hy : iR y) : ∃ τ, f_X5_moment N (nt c) (nt sd) (nt e) (nt y) σ = some (jl (aMoment φ c sd e y), τ) ∧ Ask φ σ τ := by
  unfold f_X5_moment aMoment
  rw [s_isEnd hc w he, obd_some, br_p]
  by_cases d : 0 ≤ e ∧ e ≤ 2 * nb φ - 1
  rotate_left
  · rw [if_neg d, if_neg d]; exact ⟨σ, rfl, Ask_rf hk⟩
  rw [if_pos d, if_pos d]
  obtain ⟨s, e1, e2, e3⟩ := s_refresh w hN hc hk
  have hgone : ∀ (er : Int) (t : ZS), er ≠ 0 → -5 ≤ er → er ≤ 0 → f_X5_moment_b37 N (nt c) (nt sd) (nt e) (nt y) (nt er) t = some (jl (-4000000000000000000 + er), t) := fun er t h1 h2 h3 => by
    unfold f_X5_moment_b37
    have : (-4000000000000000000 : Int64) = jl (-4000000000000000000) := rfl
    rw [n_0, eq_f h1 (by omega) (by omega) (by omega) (by omega), long_nt (by omega) (by omega), this, jl_add]
  rw [e1, obd_some, n_0, n_3, s_within N y 0 3 hy ⟨by omega, by omega⟩ ⟨by omega, by omega⟩, obd_some, n_0.symm, br_p]
  unfold er4
  by_cases y1 : 0 ≤ y ∧ y ≤ 3
  rotate_left
  · rw [if_neg y1, if_neg y1, if_neg (by omega), show (-2 : Int32) = nt (-2) from rfl]
    exact ⟨s, hgone (-2) s (by omega) (by omega) (by omega), Ask_7 e2 e3 (fr7_rf s)⟩
  rw [if_pos y1, if_pos y1]
  obtain ⟨t, g1, g2, g3⟩ := s_limitError (N := N) w hN e2 hcc hs
  have her := erF_rg φ c sd
  rw [g1, obd_some]
  by_cases ez : erF φ c sd = 0
  rotate_left
  · rw [if_neg ez]
    exact ⟨t, hgone _ t ez (by omega) (by omega), Ask_7 e2 e3 (fr9_7 g2)⟩
  rw [if_pos ez, ez]
  unfold f_X5_moment_b37
  obtain ⟨t2, u, v, r1, r2, r3, r4, r5, r6⟩ := s_loads (N := N) w hN e2 hcc hs ez g2 (g3 ez)
  obtain ⟨_, _, pi, L, _, _, _, _, hM, hB⟩ := id e2
  have c1 := (erF_0 ez).1
  obtain ⟨τ, g, h, l, k, m1, m2, m3, m4, m5, m6, m7, m8, m9, m10, m11⟩ := s_findMoments (N := N) w hN (CMe_fr7 hM r2) (CBl_fr7 hB r2) (c := c.toNat) (by omega) r3 (e := e.toNat) (by omega)
  rw [r4] at m11
  obtain ⟨v1, v2⟩ := MoS_V (MoS_ne w r6 r5 (by omega)) m5 m6 m11
  obtain ⟨τ2, u1, u2⟩ := s_extreme (N := N) (by omega) m3 m4 ⟨by omega, by omega⟩ ⟨by omega, by omega⟩ ⟨by omega, by omega⟩ ⟨by omega, by omega⟩ m5 m6 y1
  have hee : ((e.toNat : Nat) : Int) = e := by omega
  rw [hee] at m1
  refine ⟨τ2, ?_, Ask_7 e2 e3 (fr7_tr r2 (fr9_7 (fr9_tr m2 u2)))⟩
  rw [n_0, eq_t rfl, r1, obd_some, m1, obd_some, u1, obd_some]
  unfold pt4
  rw [v1, v2, ← rn_q, ← rd_q, ← rn_q, ← rd_q]
noncomputable def aYields (φ : FR) (c sd : Int) : Int := if erF φ c sd = 0 then ((mkd (yib φ c.toNat (sdV φ c.toNat sd)) 0 (2 * nb φ) : Nat) : Int) else erF φ c sd
theorem c_yields (w : WF φ) (hN : 1200 ≤ N) {σ : ZS} (hc : CFr σ 0 φ) (hk : CK φ σ) {c sd : Int} (hcc : iR c) (hs : iR sd) : ∃ τ, f_X5_yields N (nt c) (nt sd) σ = some (nt (aYields φ c sd), τ) ∧ Ask φ σ τ := by
  obtain ⟨s, e1, e2, e3⟩ := s_refresh w hN hc hk
  obtain ⟨t, g1, g2, g3⟩ := s_limitError (N := N) w hN e2 hcc hs
  have her := erF_rg φ c sd
  unfold f_X5_yields aYields
  rw [e1, obd_some, g1, obd_some]
  by_cases ez : erF φ c sd = 0
  rotate_left
  · rw [if_neg ez, n_0, eq_f ez (by omega) (by omega) (by omega) (by omega)]
    exact ⟨t, rfl, Ask_7 e2 e3 (fr9_7 g2)⟩
  obtain ⟨t2, u, v, r1, r2, r3, r4, r5, r6⟩ := s_loads (N := N) w hN e2 hcc hs ez g2 (g3 ez)
  obtain ⟨_, _, pi, L, _, _, _, _, hM, hB⟩ := id e2
  have c1 := (erF_0 ez).1
  obtain ⟨τ, m1, m2⟩ := s_yieldingEnds (N := N) w hN (CMe_fr7 hM r2) (CBl_fr7 hB r2) (c := c.toNat) (by omega) r3 (fun e he => by rw [r4]; exact MoS_ne w r6 r5 he)
  rw [if_pos ez, ez, n_0, eq_t rfl, r1, obd_some, m1, obd_some, r4]
  exact ⟨τ, rfl, Ask_7 e2 e3 (fr7_tr r2 (fr9_7 m2))⟩
noncomputable def aBinding (φ : FR) (c sd y : Int) : Int := if er4 φ c sd y 1 = 0 then (if y = 0 then ((cn (ML φ).length (fun k => crb φ c.toNat (sdV φ c.toNat sd) (nth (ML φ) k)) : Nat) : Int) else fst1 (fun k => crb φ c.toNat (sdV φ c.toNat sd) (nth (ML φ) k)) (ML φ).length 0) else er4 φ c sd y 1
theorem c_binding (w : WF φ) (hN : 1200 ≤ N) {σ : ZS} (hc : CFr σ 0 φ) (hk : CK φ σ) {c sd y : Int} (hcc : iR c) (hs : iR sd) (hy : iR y) : ∃ τ, f_X5_binding N (nt c) (nt sd) (nt y) σ = some (nt (aBinding φ c sd y), τ) ∧ Ask φ σ τ := by
  obtain ⟨s, e1, e2, e3⟩ := s_refresh w hN hc hk
  unfold f_X5_binding aBinding
  rw [e1, obd_some, n_0, n_1, s_within N y 0 1 hy ⟨by omega, by omega⟩ ⟨by omega, by omega⟩, obd_some, n_0.symm, br_p]
  unfold er4 f_X5_binding_b24
  by_cases y1 : 0 ≤ y ∧ y ≤ 1
  rotate_left
  · rw [if_neg y1, if_neg y1, if_neg (show ¬ (-2 : Int) = 0 by omega), show (-2 : Int32) = nt (-2) from rfl, n_0, eq_f (by omega) (by omega) (by omega) (by omega) (by omega)]
    exact ⟨s, rfl, Ask_7 e2 e3 (fr7_rf s)⟩
  rw [if_pos y1, if_pos y1]
  obtain ⟨t, g1, g2, g3⟩ := s_limitError (N := N) w hN e2 hcc hs
  have her := erF_rg φ c sd
  rw [g1, obd_some]
  by_cases ez : erF φ c sd = 0
  rotate_left
  · rw [if_neg ez, n_0, eq_f ez (by omega) (by omega) (by omega) (by omega)]
    exact ⟨t, rfl, Ask_7 e2 e3 (fr9_7 g2)⟩
  obtain ⟨t2, u, v, r1, r2, r3, r4, r5, r6⟩ := s_loads (N := N) w hN e2 hcc hs ez g2 (g3 ez)
  obtain ⟨_, _, pi, L, _, _, _, _, hM, hB⟩ := id e2
  have c1 := (erF_0 ez).1
  have hM2 := CMe_fr7 hM r2
  have hB2 := CBl_fr7 hB r2
  rw [if_pos ez, ez, n_0, eq_t rfl, r1, obd_some, CMe_ML hM]
  rcases (show y = 0 ∨ y = 1 by omega) with rfl | rfl
  · rw [eq_t rfl, if_pos rfl, s_criticalCount (N := N) hN hM2 hB2 (c := c.toNat) (by omega) r3, obd_some, r4]
    exact ⟨t2, rfl, Ask_7 e2 e3 r2⟩
  · rw [eq_f (by omega) (by omega) (by omega) (by omega) (by omega), if_neg (by omega), s_lowestCritical (N := N) hN hM2 hB2 (c := c.toNat) (by omega) r3, obd_some, r4]
    exact ⟨t2, rfl, Ask_7 e2 e3 r2⟩
/-- the greatest number up to one for which something holds -/
theorem mxn_u {p : Nat → Prop} {n r s : Nat} (h : mxn p n r) (h2 : mxn p n s) : r = s := by
  obtain ⟨a1, a2, a3⟩ := h
  obtain ⟨b1, b2, b3⟩ := h2
  rcases (show r < s ∨ r = s ∨ s < r by omega) with q | q | q
  · rcases b1 with b | b
    · omega
    · exact absurd b (a3 s q b2)
  · exact q
  · rcases a1 with b | b
    · omega
    · exact absurd b (b3 r q a2)
/-- what a bar can spare -/
def aSpare (φ : FR) (c b r : Int) : Prop := if 0 ≤ b ∧ b ≤ nb φ - 1 then (if erF φ c 0 = 0 then 0 ≤ r ∧ mxn (fun n => Spr φ c.toNat b.toNat (n : Nat)) (φ.1 5 b.toNat - 1).toNat r.toNat else r = erF φ c 0) else r = -1
theorem aSpare_u {c b r s : Int} (h : aSpare φ c b r) (h2 : aSpare φ c b s) : r = s := by
  unfold aSpare at h h2
  by_cases e : 0 ≤ b ∧ b ≤ nb φ - 1
  · rw [if_pos e] at h h2
    by_cases e2 : erF φ c 0 = 0
    · rw [if_pos e2] at h h2
      have := mxn_u h.2 h2.2
      have := h.1; have := h2.1
      omega
    · rw [if_neg e2] at h h2
      omega
  · rw [if_neg e] at h h2; omega
theorem c_spare (w : WF φ) (hN : 1200 ≤ N) {σ : ZS} (hc : CFr σ 0 φ) (hk : CK φ σ) {c b : Int} (hcc : iR c) (hb : iR b) : ∃ τ r, f_X5_spare N (nt c) (nt b) σ = some (nt r, τ) ∧ Ask φ σ τ ∧ aSpare φ c b r := by
  unfold f_X5_spare aSpare
  rw [s_isBar hc w hb, obd_some, br_p]
  by_cases d : 0 ≤ b ∧ b ≤ nb φ - 1
  rotate_left
  · rw [if_neg d]; exact ⟨σ, -1, rfl, Ask_rf hk, by rw [if_neg d]⟩
  rw [if_pos d]
  obtain ⟨s, e1, e2, e3⟩ := s_refresh w hN hc hk
  obtain ⟨t, g1, g2, g3⟩ := s_limitError (N := N) w hN e2 hcc (sd := 0) ⟨by omega, by omega⟩
  have her := erF_rg φ c 0
  rw [e1, obd_some, n_0, g1, obd_some]
  by_cases ez : erF φ c 0 = 0
  rotate_left
  · rw [eq_f ez (by omega) (by omega) (by omega) (by omega)]
    exact ⟨t, erF φ c 0, rfl, Ask_7 e2 e3 (fr9_7 g2), by rw [if_pos d, if_neg ez]⟩
  obtain ⟨c1, _⟩ := erF_0 ez
  obtain ⟨c, rfl⟩ : ∃ j : Nat, c = (j : Int) := ⟨c.toNat, by omega⟩
  obtain ⟨b, rfl⟩ : ∃ j : Nat, b = (j : Int) := ⟨b.toNat, by omega⟩
  obtain ⟨g, h, l, k, q1, q2, q3, q4, q5, q6, q7⟩ := g3 ez
  obtain ⟨_, _, pi, L, _, _, _, _, hM, hB⟩ := id e2
  obtain ⟨τ, r, u1, u2, u3⟩ := s_spare (N := N) w hN (CMe_fr7 hM (fr9_7 g2)) (CBl_fr7 hB (fr9_7 g2)) (c := c) (b := b) (by omega) (by omega) q1 q3 q4 q6
  refine ⟨τ, (r : Nat), ?_, Ask_7 e2 e3 (fr7_tr (fr9_7 g2) u2), ?_⟩
  · rw [ez, eq_t rfl, u1, obd_some]
  · rw [if_pos d, if_pos ez]
    exact ⟨by omega, u3⟩
noncomputable def aWeakest (φ : FR) (c : Int) : Int := if erF φ c 0 = 0 then wkf (fun b => GV φ c.toNat (Sx φ b 1)) (nb φ) 0 (GV φ c.toNat (φ.1 5)) (-6) else erF φ c 0
theorem c_weakest (w : WF φ) (hN : 1200 ≤ N) {σ : ZS} (hc : CFr σ 0 φ) (hk : CK φ σ) {c : Int} (hcc : iR c) : ∃ τ, f_X5_weakest N (nt c) σ = some (nt (aWeakest φ c), τ) ∧ Ask φ σ τ := by
  unfold f_X5_weakest aWeakest
  obtain ⟨s, e1, e2, e3⟩ := s_refresh w hN hc hk
  obtain ⟨t, g1, g2, g3⟩ := s_limitError (N := N) w hN e2 hcc (sd := 0) ⟨by omega, by omega⟩
  have her := erF_rg φ c 0
  rw [e1, obd_some, n_0, g1, obd_some]
  by_cases ez : erF φ c 0 = 0
  rotate_left
  · rw [eq_f ez (by omega) (by omega) (by omega) (by omega), if_neg ez]
    exact ⟨t, rfl, Ask_7 e2 e3 (fr9_7 g2)⟩
  obtain ⟨c1, _⟩ := erF_0 ez
  obtain ⟨c, rfl⟩ : ∃ j : Nat, c = (j : Int) := ⟨c.toNat, by omega⟩
  obtain ⟨g, h, l, k, q1, q2, q3, q4, q5, q6, q7⟩ := g3 ez
  obtain ⟨_, _, pi, L, _, _, _, _, hM, hB⟩ := id e2
  obtain ⟨τ, u1, u2⟩ := s_weakest (N := N) w hN (CMe_fr7 hM (fr9_7 g2)) (CBl_fr7 hB (fr9_7 g2)) (c := c) (by omega) q1 q3 q4 q6
  rw [ez, eq_t rfl, u1, obd_some, if_pos rfl]
  exact ⟨τ, rfl, Ask_7 e2 e3 (fr7_tr (fr9_7 g2) u2)⟩
end
