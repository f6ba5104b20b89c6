-- ===== the reference answers: moments, yielding ends =====
section
variable {N : Nat} {σ : ZS} {φ : FR}
theorem mG_of {c : Nat} {f : Rat} {e : Nat} {x : Rat} (h : Grt (MoS φ c f e) x) : mG φ c f e = x := by
  unfold mG
  exact sel_of h (fun y z hy hz => Grt_u y z hy hz)
theorem mL_of {c : Nat} {f : Rat} {e : Nat} {x : Rat} (h : Lst (MoS φ c f e) x) : mL φ c f e = x := by
  unfold mL
  exact sel_of h (fun y z hy hz => Lst_u y z hy hz)
theorem m_layMoments (w : WF φ) (hN : 30000 ≤ N) (h : MFr σ φ) (hk : RK1 φ σ) (hre : ¬ rk φ < dd φ) {c sd : Nat} (hc : 1 ≤ c ∧ c ≤ 2) (hsd : sd < 2) (hr : rgF φ c = 0) (hf : FndC φ σ c) : ∃ τ, f_X6_layMoments N (nt (c : Nat)) (nt (sd : Nat)) σ = some ((), τ) ∧ frQ σ τ ∧ ∀ e, e < 2 * nb φ → MD τ e (mG φ c (sdV φ c (sd : Nat)) e) (mL φ c (sdV φ c (sd : Nat)) e) ∧ Grt (MoS φ c (sdV φ c (sd : Nat)) e) (mG φ c (sdV φ c (sd : Nat)) e) ∧ Lst (MoS φ c (sdV φ c (sd : Nat)) e) (mL φ c (sdV φ c (sd : Nat)) e) := by
  have hw2 := w.2.1
  have hrd : rk φ = dd φ := by have := (ex_rk w).1; omega
  have hrl := rk_le (φ := φ)
  have hd12 : dd φ ≤ 12 := by omega
  have hNL := (ex_rk w).2.1 hrd
  obtain ⟨b1, b2, b3⟩ := sdV_bd w (c := c) (sd := (sd : Nat)) hc (by omega) hre hr
  obtain ⟨v, hv⟩ : ∃ v, v = sdV φ c (sd : Nat) := ⟨_, rfl⟩
  obtain ⟨x1, x2⟩ := hf hr sd hsd
  rw [← hv] at b1 b2 b3 x1 x2 ⊢
  have hvd := v.den_pos
  obtain ⟨s, e1, hru, j1, j2⟩ := m_layRules (N := N) w (by omega) h hk.2.1 hd12
  have hm : MFr s φ := MFr_same h (by unfold gI; rw [j1]) (by unfold gI; rw [j1]) (fun c _ _ => by rw [j1])
  have h10 : gI s 1067 10 = nt (dd φ : Nat) := by unfold gI; rw [j1]; exact hk.2.1.1
  have hSs : Stg φ s (φ.1 5) := Stg_id w (by unfold gI; rw [j1]; exact hk.2.2.2)
  have f1 : frQ σ s := ⟨fun c _ _ _ => by rw [j1], fun k _ _ _ _ => by unfold gI; rw [j1], fun c hc => j2 c (by omega)⟩
  have g1 : gJ s 1098 (2 * c + sd) = jl v.num := by unfold gJ; rw [j2 1098 (by decide)]; exact x1
  have g2 : gJ s 1099 (2 * c + sd) = jl (v.den : Int) := by unfold gJ; rw [j2 1099 (by decide)]; exact x2
  -- from loads told
  have main : ∀ t1 t2 : Int, (c = 1 ∧ t1 = v.num ∧ t2 = 0) ∨ (c = 2 ∧ t1 = 0 ∧ t2 = v.num) → ∃ τ, f_X6_layMoments_b50 N (jl (v.den : Int)) (jl (v.den : Int)) (jl t1) (jl t2) s = some ((), τ) ∧ frQ s τ ∧ ∀ e, e < 2 * nb φ → MD τ e (mG φ c v e) (mL φ c v e) ∧ Grt (MoS φ c v e) (mG φ c v e) ∧ Lst (MoS φ c v e) (mL φ c v e) := fun t1 t2 ht => by
    obtain ⟨s0, k0, hP0, f0, _, _⟩ := m_take (N := N) (v.den : Int) t1 t2 (v.den : Int) hm h10 hru hSs
    obtain ⟨T, hT⟩ : ∃ T : Nat → Int, T = fun c => if c = 0 then (v.den : Int) else if c = 1 then t1 else t2 := ⟨_, rfl⟩
    rw [← hT] at hP0
    have hT0 : T 0 = (v.den : Int) := by rw [hT]; rfl
    have hT1 : T 1 = t1 := by rw [hT]; rfl
    have hT2 : T 2 = t2 := by rw [hT]; rfl
    have hTQ : TQ φ T (v.den : Int) c v := fun j hj => by
      unfold pT PF
      rw [hT0, hT1, hT2]
      have hd0 : (((v.den : Nat) : Int) : Rat) ≠ 0 := fun q => by have := q_0.mp q; omega
      have hdi := Rat.mul_inv_cancel _ hd0
      have hvq := rat_q v
      have h3 : (((0 : Int)) : Rat) = 0 := rfl
      rcases ht with ⟨rfl, rfl, rfl⟩ | ⟨rfl, rfl, rfl⟩
      · rw [h3]
        generalize (((v.den : Nat) : Int) : Rat)⁻¹ = i at *
        generalize (((v.den : Nat) : Int) : Rat) = d at *
        generalize ((v.num : Int) : Rat) = n at *
        rw [← hvq]
        have : (d * pq φ 0 j + n * pq φ 1 j + 0 * pq φ 2 j) * i = (d * i) * pq φ 0 j + n * i * pq φ 1 j := by grind
        rw [this, hdi, Rat.one_mul]
      · rw [h3]
        generalize (((v.den : Nat) : Int) : Rat)⁻¹ = i at *
        generalize (((v.den : Nat) : Int) : Rat) = d at *
        generalize ((v.num : Int) : Rat) = n at *
        rw [← hvq]
        have : (d * pq φ 0 j + 0 * pq φ 1 j + n * pq φ 2 j) * i = (d * i) * pq φ 0 j + n * i * pq φ 2 j := by grind
        rw [this, hdi, Rat.one_mul]
    have hb : 12 * ((T 0).natAbs + (T 1).natAbs + (T 2).natAbs) * 36700160 + 1872 * ((v.den : Nat) : Int).natAbs * 524288 ≤ 2000000000000000000 := by
      rw [hT0, hT1, hT2]
      rcases ht with ⟨_, rfl, rfl⟩ | ⟨_, rfl, rfl⟩ <;> omega
    have hpow : 2 ^ (2 * nb φ) ≤ 2 ^ 12 := Nat.pow_le_pow_right (by decide) (by omega)
    have hpow2 : (2 : Nat) ^ 12 = 4096 := by decide
    obtain ⟨a', τ, k1, k2, k3⟩ := m_mAll (N := N) w hN hd12 (T := T) (by_ := (v.den : Int)) (by omega) hTQ hb (2 ^ (2 * nb φ)) 0 N s0 0 (by omega) (by omega) hP0 (Or.inl ⟨rfl, fun z ⟨Cm, h1, _⟩ => absurd h1 (Nat.not_lt_zero _)⟩)
    have k1 : f_X6_layMoments_h61 N N (0 : Int32) (0 : Int32) s0 = some ((), τ) := k1
    have hcv : ∀ (o : Nat → Rat) (z : Nat → Rat), Fz φ c (φ.1 5) v z → ∃ x, VisM φ c v (2 ^ (2 * nb φ)) x ∧ sQ (2 * nb φ) (fun e => o e * z e) ≤ sQ (2 * nb φ) (fun e => o e * x e) := fun o z hz => by
      obtain ⟨Cm, x, r1, r2, r3, r4, r5⟩ := corner0 w hNL o hz.1 hz.2
      exact ⟨x, ⟨Cm, r1, r2, r3, r4⟩, r5⟩
    obtain ⟨z0, hz0⟩ := (FS_z w hNL (str_nn w) v).mp b3
    rcases k3 with ⟨_, k3⟩ | ⟨_, X, Y, k3⟩
    · obtain ⟨x, h1, _⟩ := hcv (fun _ => 0) z0 hz0
      exact absurd h1 (k3 x)
    · refine ⟨τ, by unfold f_X6_layMoments_b50; rw [k0, obd_some, k1], frQ_tr f0 k2, fun e he => ?_⟩
      obtain ⟨y1, y2, y3, y4⟩ := k3 e he
      have hlp : (0 : Rat) < ((lenB φ (e / 2) : Int) : Rat) := q_pos.mpr (by have := (len_rg w (b := e / 2) (by omega)).1; omega)
      have hone : ∀ (s' : Rat) (z : Nat → Rat), sQ (2 * nb φ) (fun i => (if i = e then s' else 0) * z i) = s' * z e := fun s' z => by
        rw [sQ_one (f := fun i => (if i = e then s' else 0) * z i) (k := e) he (fun i _ hie => by rw [if_neg hie, Rat.zero_mul])]
        rw [if_pos rfl]
      have hG : Grt (MoS φ c v e) (X e) := by
        refine ⟨(MoS_z w hNL b3 he (X e)).mpr y2, fun m hm => ?_⟩
        obtain ⟨z, hz, rfl⟩ := (MoS_z w hNL b3 he m).mp hm
        obtain ⟨x, q1, q2⟩ := hcv (fun i => if i = e then 1 else 0) z hz
        rw [hone, hone, Rat.one_mul, Rat.one_mul] at q2
        exact Rat.le_trans (Rat.mul_le_mul_of_nonneg_right q2 (Rat.le_of_lt hlp)) (y4 x q1).2
      have hLs : Lst (MoS φ c v e) (Y e) := by
        refine ⟨(MoS_z w hNL b3 he (Y e)).mpr y3, fun m hm => ?_⟩
        obtain ⟨z, hz, rfl⟩ := (MoS_z w hNL b3 he m).mp hm
        obtain ⟨x, q1, q2⟩ := hcv (fun i => if i = e then (-1) else 0) z hz
        rw [hone, hone] at q2
        have q3 : x e ≤ z e := by grind
        exact Rat.le_trans (y4 x q1).1 (Rat.mul_le_mul_of_nonneg_right q3 (Rat.le_of_lt hlp))
      rw [mG_of hG, mL_of hLs]
      exact ⟨y1, hG, hLs⟩
  have i1 : ((nt (c : Nat) : Int32) = nt 1) ↔ c = 1 := by
    rw [nt_eq ⟨by omega, by omega⟩ ⟨by omega, by omega⟩]; omega
  unfold f_X6_layMoments
  rw [e1, obd_some, n_2, nt_mul, nt_add, ck_inb (by omega) (by omega) (by omega), nat_nt (by omega) (by omega), show ((2 : Int) * (c : Nat) + (sd : Nat)).toNat = 2 * c + sd by omega, g1, bd_eq, ck_inb (by omega) (by omega) (by omega), g2, bd_eq, n_1, j_0]
  rcases (show c = 1 ∨ c = 2 by omega) with hce | hce
  · obtain ⟨τ, k1, k2, k3⟩ := main v.num 0 (Or.inl ⟨hce, rfl, rfl⟩)
    refine ⟨τ, ?_, frQ_tr f1 k2, k3⟩
    rw [eq_t (by omega)]
    unfold f_X6_layMoments_b40
    rw [n_2, eq_f (by omega) (by omega) (by omega) (by omega) (by omega), j_0, k1]
  · obtain ⟨τ, k1, k2, k3⟩ := main 0 v.num (Or.inr ⟨hce, rfl, rfl⟩)
    refine ⟨τ, ?_, frQ_tr f1 k2, k3⟩
    rw [eq_f (by omega) (by omega) (by omega) (by omega) (by omega)]
    unfold f_X6_layMoments_b40
    rw [n_2, eq_t (by omega), k1]
/-- what refuses, or nothing -/
noncomputable def rfV (φ : FR) (c : Nat) : Int := if rk φ < dd φ then -3 else if rgF φ c = 0 then 0 else -5
theorem rfV_rg (φ : FR) (c : Nat) : -5 ≤ rfV φ c ∧ rfV φ c ≤ 0 := by unfold rfV; split <;> (try split) <;> omega
theorem rfV_0 {c : Nat} (h : rfV φ c = 0) : ¬ rk φ < dd φ ∧ rgF φ c = 0 := by
  unfold rfV at h
  by_cases q : rk φ < dd φ
  · rw [if_pos q] at h; omega
  · rw [if_neg q] at h
    refine ⟨q, ?_⟩
    apply Classical.byContradiction
    intro z
    rw [if_neg z] at h; omega
theorem erF_in {c sd : Nat} (hc : 1 ≤ c ∧ c ≤ 2) (hsd : sd < 2) : erF φ (c : Nat) (sd : Nat) = rfV φ c := by
  have hct : ((c : Nat) : Int).toNat = c := rfl
  unfold erF rfV
  rw [if_pos ⟨by omega, by omega, by omega⟩, hct]
theorem erF_out {c sd : Int} (h : ¬ (1 ≤ c ∧ c ≤ 2) ∨ ¬ (0 ≤ sd ∧ sd ≤ 1)) : erF φ c sd = -2 := by
  unfold erF
  rw [if_neg (fun q => by
    rcases h with h | h
    · exact h q.1
    · exact h q.2)]
theorem m_moment (w : WF φ) (hN : 30000 ≤ N) (h : MFr σ φ) (hk : RK φ σ) {c sd e y : Int} (hc : iR c) (hs : iR sd) (he : iR e) (hy : iR y) : ∃ τ, f_X6_moment N (nt c) (nt sd) (nt e) (nt y) σ = some (jl (aMoment φ c sd e y), τ) ∧ MAsk φ σ τ := by
  have n0 : (0 : Int32) = nt 0 := rfl
  have hw2 := w.2.1
  have hbad : (-4000000000000000002 : Int64) = jl (-4000000000000000002) := rfl
  unfold f_X6_moment
  rw [m_isEnd h w he, obd_some, br_p]
  by_cases e1 : 0 ≤ e ∧ e ≤ 2 * nb φ - 1
  rotate_left
  · have ha : aMoment φ c sd e y = -4000000000000000001 := by unfold aMoment; rw [if_neg e1]
    rw [if_neg e1, ha]; exact ⟨σ, rfl, MAsk_rf hk⟩
  rw [if_pos e1, m_isCase hc, obd_some, br_p]
  have hout : er4 φ c sd y 3 = -2 → aMoment φ c sd e y = -4000000000000000002 := fun q => by
    unfold aMoment; rw [if_pos e1, q, if_neg (by decide)]; rfl
  by_cases c1 : 1 ≤ c ∧ c ≤ 2
  rotate_left
  · rw [if_neg c1, hbad, hout (by unfold er4; rw [erF_out (Or.inl c1)]; split <;> rfl)]; exact ⟨σ, rfl, MAsk_rf hk⟩
  rw [if_pos c1, n0, n_1, s_in N sd 0 1 hs ⟨by omega, by omega⟩ ⟨by omega, by omega⟩, obd_some, n0.symm, br_p]
  by_cases s1 : 0 ≤ sd ∧ sd ≤ 1
  rotate_left
  · rw [if_neg s1, hbad, hout (by unfold er4; rw [erF_out (Or.inr s1)]; split <;> rfl)]; exact ⟨σ, rfl, MAsk_rf hk⟩
  rw [if_pos s1, n0, n_3, s_in N y 0 3 hy ⟨by omega, by omega⟩ ⟨by omega, by omega⟩, obd_some, n0.symm, br_p]
  by_cases y1 : 0 ≤ y ∧ y ≤ 3
  rotate_left
  · rw [if_neg y1, hbad, hout (by unfold er4; rw [if_neg y1])]; exact ⟨σ, rfl, MAsk_rf hk⟩
  rw [if_pos y1]
  obtain ⟨c, rfl⟩ : ∃ j : Nat, c = (j : Int) := ⟨c.toNat, by omega⟩
  obtain ⟨sd, rfl⟩ : ∃ j : Nat, sd = (j : Int) := ⟨sd.toNat, by omega⟩
  obtain ⟨e, rfl⟩ : ∃ j : Nat, e = (j : Int) := ⟨e.toNat, by omega⟩
  have hct : ((c : Nat) : Int).toNat = c := rfl
  have het : ((e : Nat) : Int).toNat = e := rfl
  obtain ⟨t, r1, k1, k2, k3, k4⟩ := m_refusal w hN h hk (c := c) (by omega)
  have hre : er4 φ (c : Nat) (sd : Nat) y 3 = rfV φ c := by unfold er4; rw [if_pos y1, erF_in (by omega) (by omega)]
  have r1 : f_X6_refusal N (nt (c : Nat)) σ = some (nt (rfV φ c), t) := r1
  have hrb := rfV_rg φ c
  unfold aMoment
  rw [if_pos e1, hre, r1, obd_some, n0, hct, het]
  by_cases q : rfV φ c = 0
  · obtain ⟨q1, q2⟩ := rfV_0 q
    obtain ⟨τ, u1, u2, u3⟩ := m_layMoments w hN k2 k1 q1 (c := c) (sd := sd) (by omega) (by omega) q2 (k4 q1)
    obtain ⟨⟨d1, d2, d3, d4, _⟩, _⟩ := u3 e (by omega)
    rw [if_pos q, q, eq_t rfl, u1, obd_some]
    refine ⟨τ, ?_, RK1_K (RK1_Q k1 u2), frR_tr k3 (frQ_R u2)⟩
    unfold pt4
    rw [n_2]
    rcases (show y = 0 ∨ y = 1 ∨ y = 2 ∨ y = 3 by omega) with rfl | rfl | rfl | rfl
    · rw [eq_t rfl, ck_inb (by omega) (by omega) (by omega), nat_k (by omega), d1, if_pos rfl]
    · rw [eq_f (by decide) (by decide) (by decide) (by decide) (by decide), eq_t rfl, ck_inb (by omega) (by omega) (by omega), nat_k (by omega), d2, if_neg (by decide), if_pos rfl]
    · rw [eq_f (by decide) (by decide) (by decide) (by decide) (by decide), eq_f (by decide) (by decide) (by decide) (by decide) (by decide), eq_t rfl, ck_inb (by omega) (by omega) (by omega), nat_k (by omega), d3, if_neg (by decide), if_neg (by decide), if_pos rfl]
    · rw [eq_f (by decide) (by decide) (by decide) (by decide) (by decide), eq_f (by decide) (by decide) (by decide) (by decide) (by decide), eq_f (by decide) (by decide) (by decide) (by decide) (by decide), ck_inb (by omega) (by omega) (by omega), nat_k (by omega), d4, if_neg (by decide), if_neg (by decide), if_neg (by decide)]
  · rw [if_neg q, eq_f q (by omega) (by omega) (by omega) (by omega), long_nt (by omega) (by omega), show (-4000000000000000000 : Int64) = jl (-4000000000000000000) from rfl, jl_add]
    exact ⟨t, rfl, RK1_K k1, k3⟩
theorem m_yields (w : WF φ) (hN : 30000 ≤ N) (h : MFr σ φ) (hk : RK φ σ) {c sd : Int} (hc : iR c) (hs : iR sd) : ∃ τ, f_X6_yields N (nt c) (nt sd) σ = some (nt (aYields φ c sd), τ) ∧ MAsk φ σ τ := by
  have n0 : (0 : Int32) = nt 0 := rfl
  have hw2 := w.2.1
  have hout : erF φ c sd = -2 → aYields φ c sd = -2 := fun q => by
    unfold aYields; rw [q, if_neg (by decide)]
  unfold f_X6_yields
  rw [m_isCase hc, obd_some, br_p]
  by_cases c1 : 1 ≤ c ∧ c ≤ 2
  rotate_left
  · rw [if_neg c1, hout (erF_out (Or.inl c1))]; exact ⟨σ, rfl, MAsk_rf hk⟩
  rw [if_pos c1, n0, n_1, s_in N sd 0 1 hs ⟨by omega, by omega⟩ ⟨by omega, by omega⟩, obd_some, n0.symm, br_p]
  by_cases s1 : 0 ≤ sd ∧ sd ≤ 1
  rotate_left
  · rw [if_neg s1, hout (erF_out (Or.inr s1))]; exact ⟨σ, rfl, MAsk_rf hk⟩
  rw [if_pos s1]
  obtain ⟨c, rfl⟩ : ∃ j : Nat, c = (j : Int) := ⟨c.toNat, by omega⟩
  obtain ⟨sd, rfl⟩ : ∃ j : Nat, sd = (j : Int) := ⟨sd.toNat, by omega⟩
  have hct : ((c : Nat) : Int).toNat = c := rfl
  obtain ⟨t, r1, k1, k2, k3, k4⟩ := m_refusal w hN h hk (c := c) (by omega)
  have r1 : f_X6_refusal N (nt (c : Nat)) σ = some (nt (rfV φ c), t) := r1
  have hrb := rfV_rg φ c
  unfold aYields
  rw [erF_in (by omega) (by omega), r1, obd_some, n0, hct]
  by_cases q : rfV φ c = 0
  rotate_left
  · rw [if_neg q, eq_f q (by omega) (by omega) (by omega) (by omega)]
    exact ⟨t, rfl, RK1_K k1, k3⟩
  obtain ⟨q1, q2⟩ := rfV_0 q
  obtain ⟨τ, u1, u2, u3⟩ := m_layMoments w hN k2 k1 q1 (c := c) (sd := sd) (by omega) (by omega) q2 (k4 q1)
  rw [if_pos q, q, eq_t rfl, u1, obd_some]
  refine ⟨τ, ?_, RK1_K (RK1_Q k1 u2), frR_tr k3 (frQ_R u2)⟩
  have hmτ : MFr τ φ := frR_M (frQ_R u2) k2
  obtain ⟨v, hv⟩ : ∃ v, v = sdV φ c (sd : Nat) := ⟨_, rfl⟩
  rw [← hv] at u3 ⊢
  obtain ⟨Y, hY⟩ : ∃ Y, Y = yib φ c v := ⟨_, rfl⟩
  have kk := lp_go (fun n e (x : Int32) => f_X6_yields_h43 N n x (nt (e : Nat)) τ) (fun e => nt (mkd Y 0 e : Nat)) (2 * nb φ) (fun n e he => by
    have hb2 : e / 2 < nb φ := by omega
    have hdiv : ((e : Nat) : Int).tdiv 2 = ((e / 2 : Nat) : Int) := by
      rw [Int.tdiv_eq_ediv_of_nonneg (by omega)]; omega
    obtain ⟨⟨d1, d2, d3, d4, ⟨d5, d6⟩, d7, d8⟩, hG, hLs⟩ := u3 e he
    obtain ⟨X, hX⟩ : ∃ X, X = mG φ c v e := ⟨_, rfl⟩
    obtain ⟨Z, hZ⟩ : ∃ Z, Z = mL φ c v e := ⟨_, rfl⟩
    rw [← hX] at d1 d2 d5 d6 hG
    rw [← hZ] at d3 d4 d7 d8 hLs
    have hXd := X.den_pos
    have hZd := Z.den_pos
    obtain ⟨_, _, _, _, z1, z2, _⟩ := w.2.2.2.1 (e / 2) hb2
    obtain ⟨S, hS⟩ : ∃ S, S = φ.1 5 (e / 2) := ⟨_, rfl⟩
    rw [← hS] at z1 z2
    have h11 : (((1 : Int)) : Rat)⁻¹ = 1 := by
      have h := Rat.mul_inv_cancel (1 : Rat) (by decide)
      rw [Rat.one_mul] at h
      exact h
    -- bounds by strengths
    have hab : ∀ m, MoS φ c v e m → m ≤ (S : Rat) ∧ -m ≤ (S : Rat) := fun m hm => by
      have := ab_iff.mp hm.1
      rw [← hS] at this
      exact this
    have hYi : Y e = true ↔ (X = -(S : Rat) ∨ Z = (S : Rat)) := by
      rw [hY, yib_t]
      unfold Yi
      rw [← hS]
      constructor
      · rintro (a | a)
        · exact Or.inr (a _ hLs.1)
        · exact Or.inl (a _ hG.1)
      · rintro (a | a)
        · right
          intro m hm
          have h1 := hG.2 m hm
          have h2 := (hab m hm).2
          rw [a] at h1
          refine Rat.le_antisymm h1 ?_
          grind
        · left
          intro m hm
          have h1 := hLs.2 m hm
          have h2 := (hab m hm).1
          rw [a] at h1
          exact Rat.le_antisymm h2 h1
    have hXe : X.num = -S * (X.den : Int) ↔ X = -(S : Rat) := by
      have h1 := q_same (a := X.num) (b := (X.den : Int)) (c := -S) (d := 1) (by omega) (by decide)
      rw [rat_q, h11, Rat.mul_one, Rat.intCast_neg, Int.mul_one] at h1
      exact h1
    have hZe : Z.num = S * (Z.den : Int) ↔ Z = (S : Rat) := by
      have h1 := q_same (a := Z.num) (b := (Z.den : Int)) (c := S) (d := 1) (by omega) (by decide)
      rw [rat_q, h11, Rat.mul_one, Int.mul_one] at h1
      exact h1
    obtain ⟨o1, o2⟩ := mkd_or Y e
    have hm1 : gI τ 1073 (e / 2) = nt S := by rw [hS]; exact MFr_s hmτ hb2
    have hS2 : iR S := ⟨by omega, by omega⟩
    have b119 : ∀ x : Nat, f_X6_yields_b119 N (fun x4_ x5_ σ_ => f_X6_yields_h43 N n x4_ x5_ σ_) (nt (e : Nat)) (nt (mkd Y 0 e : Nat)) (nt (x : Nat)) τ = f_X6_yields_h43 N n (nt ((mkd Y 0 e ||| x : Nat) : Int)) (nt ((e + 1 : Nat) : Int)) τ := fun x => by
      rw [f_X6_yields_b119, nt_or, bd_eq, n_1, nt_add, bd_eq]; rfl
    have b111 : Y e = true → f_X6_yields_b111 N (fun x4_ x5_ σ_ => f_X6_yields_h43 N n x4_ x5_ σ_) (nt (e : Nat)) (nt (mkd Y 0 e : Nat)) τ = f_X6_yields_h43 N n (nt (mkd Y 0 (e + 1) : Nat)) (nt ((e + 1 : Nat) : Int)) τ := fun hy => by
      unfold f_X6_yields_b111
      rw [n_1, nt_pow (by omega), b119, o1 hy]
    have hb1 := mul_bd (a := -S) (A := 12) (b := (X.den : Int)) (B := 20000000000000000) (by omega) (by omega)
    have hb2' := mul_bd (a := S) (A := 12) (b := (Z.den : Int)) (B := 20000000000000000) (by omega) (by omega)
    show f_X6_yields_h43 N (n + 1) (nt (mkd Y 0 e : Nat)) (nt (e : Nat)) τ = f_X6_yields_h43 N n (nt (mkd Y 0 (e + 1) : Nat)) (nt ((e + 1 : Nat) : Int)) τ
    rw [f_X6_yields_h43, MFr_b hmτ, n_2, nt_mul, le_f (by omega) (by omega) (by omega), nt_div ⟨by omega, by omega⟩ ⟨by omega, by omega⟩, hdiv, ck_inb (by omega) (by omega) (by omega), nat_k (by omega), hm1, long_nt (by omega) (by omega), bd_eq, ck_inb (by omega) (by omega) (by omega), ck_inb (by omega) (by omega) (by omega), nat_k (by omega), d1, d2, jl_neg, jl_mul]
    by_cases p : X.num = -S * (X.den : Int)
    · rw [jeq_t p, b111 (hYi.mpr (Or.inl (hXe.mp p)))]
    · rw [jeq_f p (by omega) (by omega) (by omega) (by omega), ck_inb (by omega) (by omega) (by omega), ck_inb (by omega) (by omega) (by omega), d3, d4, jl_mul]
      by_cases p2 : Z.num = S * (Z.den : Int)
      · rw [jeq_t p2, b111 (hYi.mpr (Or.inr (hZe.mp p2)))]
      · rw [jeq_f p2 (by omega) (by omega) (by omega) (by omega)]
        have hYf : Y e = false := by
          cases hq : Y e with
          | false => rfl
          | true =>
            rcases hYi.mp hq with a | a
            · exact absurd (hXe.mpr a) p
            · exact absurd (hZe.mpr a) p2
        have := b119 0
        rw [Nat.or_zero] at this
        rw [← o2 hYf]
        exact this) (2 * nb φ) 0 N (by omega) (by omega)
  have kk : f_X6_yields_h43 N N (0 : Int32) (0 : Int32) τ = f_X6_yields_h43 N (N - 2 * nb φ) (nt (mkd Y 0 (2 * nb φ) : Nat)) (nt (2 * nb φ : Nat)) τ := kk
  obtain ⟨m, em⟩ : ∃ m, N - 2 * nb φ = m + 1 := ⟨N - 2 * nb φ - 1, by omega⟩
  rw [← n0, kk, em, f_X6_yields_h43, MFr_b hmτ, n_2, nt_mul, le_t (by omega) (by omega) (by omega), hY]
end
