-- ===== the reference: bearing; moments are taken =====
theorem okJ_of {a : Int} (h : a.natAbs ≤ 9000000000000000000) : okJ a := ⟨by omega, by omega⟩
/-- the greatest and the least moment of an end, in their cells -/
def MD (s : ZS) (e : Nat) (x y : Rat) : Prop := gJ s 1100 e = jl x.num ∧ gJ s 1101 e = jl (x.den : Int) ∧ gJ s 1102 e = jl y.num ∧ gJ s 1103 e = jl (y.den : Int) ∧ (x.num.natAbs ≤ 9000000000000000000 ∧ x.den ≤ 20000000000000000) ∧ y.num.natAbs ≤ 9000000000000000000 ∧ y.den ≤ 20000000000000000
def mxq (x v : Rat) : Rat := if x < v then v else x
def mnq (y v : Rat) : Rat := if v < y then v else y
section
variable {N : Nat} {σ : ZS} {φ : FR}
theorem dq_pT (T : Nat → Int) (by_ : Int) (q : Nat → Rat) : dq (dd φ) (pT φ T by_) q = ((T 0 : Rat) * dq (dd φ) (pq φ 0) q + (T 1 : Rat) * dq (dd φ) (pq φ 1) q + (T 2 : Rat) * dq (dd φ) (pq φ 2) q) * (by_ : Rat)⁻¹ := by
  have h1 : pT φ T by_ = fun j => ((T 0 : Rat) * (by_ : Rat)⁻¹) * pq φ 0 j + 1 * (fun j => ((T 1 : Rat) * (by_ : Rat)⁻¹) * pq φ 1 j + ((T 2 : Rat) * (by_ : Rat)⁻¹) * pq φ 2 j) j := by
    funext j
    unfold pT
    try dsimp only
    grind
  rw [h1, dq_lin_l, dq_lin_l]
  grind
theorem FEA_Cy (w : WF φ) (hNL : NLF φ) {x y n : Int} (hn : 0 < n) : FEA φ (φ.1 5) (pT φ (fun c => if c = 0 then n else if c = 1 then x else y) n) ↔ Cy φ x y n := by
  have hd : ∀ q, dq (dd φ) (pT φ (fun c => if c = 0 then n else if c = 1 then x else y) n) q = ((n : Rat) * dq (dd φ) (pq φ 0) q + (x : Rat) * dq (dd φ) (pq φ 1) q + (y : Rat) * dq (dd φ) (pq φ 2) q) * (n : Rat)⁻¹ := fun q => by
    rw [dq_pT]
    rfl
  have hnq : (0 : Rat) < (n : Rat) := q_pos.mpr hn
  have hn0 : (n : Rat) ≠ 0 := fun q => by have := q_0.mp q; omega
  have hni := Rat.mul_inv_cancel _ hn0
  have hip := Rat.inv_pos.mpr hnq
  constructor
  · rintro ⟨z, h1, h2⟩ q hq
    have b1 := borne_le h1 h2 q
    have b2 := borne_le h1 h2 (fun j => (-1) * q j)
    rw [dq_ng, stn_ng] at b2
    rw [hd] at b1 b2
    rw [ab_iff, cq_S]
    generalize stn (dd φ) (Rq φ) (cS φ (φ.1 5)) (2 * nb φ) q = s at *
    generalize (n : Rat) * dq (dd φ) (pq φ 0) q + (x : Rat) * dq (dd φ) (pq φ 1) q + (y : Rat) * dq (dd φ) (pq φ 2) q = X at *
    have c1 := Rat.mul_le_mul_of_nonneg_right b1 (Rat.le_of_lt hnq)
    have c2 := Rat.mul_le_mul_of_nonneg_right b2 (Rat.le_of_lt hnq)
    generalize (n : Rat)⁻¹ = i at *
    generalize (n : Rat) = m at *
    have e1 : X * i * m = X * (m * i) := by grind
    rw [hni, Rat.mul_one] at e1
    refine ⟨?_, ?_⟩
    · rw [e1] at c1; grind
    · have e2 : -(X * i) * m = -(X * i * m) := by grind
      rw [e2, e1] at c2; grind
  · intro h
    obtain ⟨z, h1, h2⟩ := borne hNL (c := cS φ (φ.1 5)) (fun e he => cS_nn w (str_nn w) he) (p := pT φ (fun c => if c = 0 then n else if c = 1 then x else y) n) (fun q hq => by
      have h1 := (ab_iff.mp (h q hq)).1
      rw [cq_S] at h1
      rw [hd]
      generalize stn (dd φ) (Rq φ) (cS φ (φ.1 5)) (2 * nb φ) q = s at *
      generalize (n : Rat) * dq (dd φ) (pq φ 0) q + (x : Rat) * dq (dd φ) (pq φ 1) q + (y : Rat) * dq (dd φ) (pq φ 2) q = X at *
      have c1 := Rat.mul_le_mul_of_nonneg_right h1 (Rat.le_of_lt hip)
      generalize (n : Rat)⁻¹ = i at *
      generalize (n : Rat) = m at *
      have e1 : m * s * i = s * (m * i) := by grind
      rw [hni, Rat.mul_one] at e1
      rw [e1] at c1
      exact c1)
    exact ⟨z, h1, h2⟩
theorem m_bears (w : WF φ) (hN : 30000 ≤ N) (h : MFr σ φ) (hk : RK φ σ) {x y n : Int} (hx : iR x) (hy : iR y) (hn : iR n) : ∃ τ, f_X6_bears N (nt x) (nt y) (nt n) σ = some (nt (aBears φ x y n), τ) ∧ MAsk φ σ τ := by
  have n0 : (0 : Int32) = nt 0 := rfl
  unfold f_X6_bears aBears
  rw [n_m99, n_99, s_in N x (-99) 99 hx ⟨by omega, by omega⟩ ⟨by omega, by omega⟩, obd_some, br_p]
  by_cases x1 : -99 ≤ x ∧ x ≤ 99
  rotate_left
  · rw [if_neg x1, if_neg (fun q => x1 q.1)]; exact ⟨σ, rfl, MAsk_rf hk⟩
  rw [if_pos x1, s_in N y (-99) 99 hy ⟨by omega, by omega⟩ ⟨by omega, by omega⟩, obd_some, br_p]
  by_cases y1 : -99 ≤ y ∧ y ≤ 99
  rotate_left
  · rw [if_neg y1, if_neg (fun q => y1 q.2.1)]; exact ⟨σ, rfl, MAsk_rf hk⟩
  rw [if_pos y1, n_1, s_in N n 1 99 hn ⟨by omega, by omega⟩ ⟨by omega, by omega⟩, obd_some, br_p]
  by_cases z1 : 1 ≤ n ∧ n ≤ 99
  rotate_left
  · rw [if_neg z1, if_neg (fun q => z1 q.2.2)]; exact ⟨σ, rfl, MAsk_rf hk⟩
  rw [if_pos z1, if_pos ⟨x1, y1, z1⟩]
  obtain ⟨s, e1, h1, h2, h3⟩ := m_loose w hN h hk
  rw [e1, obd_some, br_p]
  by_cases a : rk φ < dd φ
  · rw [if_pos a, if_pos a]; exact ⟨s, rfl, RK1_K h1, h3⟩
  rw [if_neg a, if_neg a]
  have hrd : rk φ = dd φ := by have := (ex_rk w).1; omega
  have hrl := rk_le (φ := φ)
  have hw2 := w.2.1
  have hd12 : dd φ ≤ 12 := by omega
  have hNL := (ex_rk w).2.1 hrd
  obtain ⟨t, e2, hru, j1, j2⟩ := m_layRules (N := N) w (by omega) h2 h1.2.1 hd12
  have hm : MFr t φ := MFr_same h2 (by unfold gI; rw [j1]) (by unfold gI; rw [j1]) (fun c _ _ => by rw [j1])
  have h10 : gI t 1067 10 = nt (dd φ : Nat) := by unfold gI; rw [j1]; exact h1.2.1.1
  have hSt : Stg φ t (φ.1 5) := Stg_id w (by unfold gI; rw [j1]; exact h1.2.2.2)
  have f1 : frQ s t := ⟨fun c _ _ _ => by rw [j1], fun k _ _ _ _ => by unfold gI; rw [j1], fun c hc => j2 c (by omega)⟩
  obtain ⟨τ, rc, k1, k2, k3⟩ := m_isBorne (N := N) (S := φ.1 5) (t0 := n) (t1 := x) (t2 := y) (by_ := n) w hNL hN hd12 hm h10 hru hSt (by omega) (by omega)
  rw [e2, obd_some, long_nt (by omega) (by omega), long_nt (by omega) (by omega), long_nt (by omega) (by omega), k1, obd_some]
  have hcy := FEA_Cy w hNL (x := x) (y := y) (n := n) (by omega)
  refine ⟨τ, ?_, RK1_K (RK1_Q h1 (frQ_tr f1 k2)), frR_tr h3 (frQ_R (frQ_tr f1 k2))⟩
  rcases k3 with ⟨q, k4⟩ | ⟨q, k4⟩
  · rw [q, if_neg (by decide), if_pos (cd_iff.mpr (hcy.mp k4))]
  · rw [q, if_pos (by decide), if_neg (fun z => k4 (hcy.mpr (cd_iff.mp z)))]; rfl
-- moments
theorem m_takeMoment (hN : 200 ≤ N) {e : Nat} (he : e < 12) {fi : Int} (hfi : fi = 0 ∨ fi = 1) {u l : Int} (hu : u.natAbs ≤ 9000000000000000000) (hl : 0 < l ∧ l ≤ 20000000000000000) {x y : Rat} (hx : fi = 0 → MD σ e x y) : ∃ τ, f_X6_takeMoment N (nt (e : Nat)) (nt fi) (jl u) (jl l) σ = some ((), τ) ∧ MD τ e (if fi = 0 then mxq x ((u : Rat) * (l : Rat)⁻¹) else (u : Rat) * (l : Rat)⁻¹) (if fi = 0 then mnq y ((u : Rat) * (l : Rat)⁻¹) else (u : Rat) * (l : Rat)⁻¹) ∧ frT σ τ ∧ ∀ e' c, e' ≠ e → gJ τ c e' = gJ σ c e' := by
  have hul : rn u l = ((u : Rat) * (l : Rat)⁻¹).num := rn_q
  have hll : rd u l = ((((u : Rat) * (l : Rat)⁻¹).den : Nat) : Int) := rd_q
  obtain ⟨v, hv⟩ : ∃ v : Rat, v = (u : Rat) * (l : Rat)⁻¹ := ⟨_, rfl⟩
  rw [← hv] at hul hll ⊢
  have hvb : v.num.natAbs ≤ 9000000000000000000 ∧ v.den ≤ 20000000000000000 := by
    have h1 := rn_abs (u := u) hl.1
    have h2 := rd_le (u := u) hl.1
    rw [hul] at h1
    rw [hll] at h2
    omega
  have hvd := v.den_pos
  have n0 : (0 : Int32) = nt 0 := rfl
  have hcmp : ∀ (s : ZS) (z : Rat), z.num.natAbs ≤ 9000000000000000000 → z.den ≤ 20000000000000000 → ∃ r : Int, f_X6_compare N (jl v.num) (jl (v.den : Int)) (jl z.num) (jl (z.den : Int)) s = some (nt r, s) ∧ (-1 ≤ r ∧ r ≤ 1) ∧ (r ≤ 0 ↔ ¬ z < v) ∧ (0 ≤ r ↔ ¬ v < z) := fun s z z1 z2 => by
    have hzd := z.den_pos
    have h1 := m_compare (N := N) (σ := s) (by omega) (a := v.num) (b := (v.den : Int)) (c := z.num) (d := (z.den : Int)) (okJ_of hvb.1) (okJ_of (by omega)) (okJ_of z1) (okJ_of (by omega)) (by omega) (by omega)
    have hlt : v.num * (z.den : Int) < z.num * (v.den : Int) ↔ v < z := by
      rw [q_mul_lt (by omega) (by omega), rat_q, rat_q]
    have hgt : z.num * (v.den : Int) < v.num * (z.den : Int) ↔ z < v := by
      rw [q_mul_lt (by omega) (by omega), rat_q, rat_q]
    rw [← hlt, ← hgt]
    refine ⟨_, h1, ?_⟩
    unfold cm3
    by_cases q : v.num * (z.den : Int) < z.num * (v.den : Int)
    · rw [if_pos q]; omega
    · rw [if_neg q]
      by_cases q2 : v.num * (z.den : Int) = z.num * (v.den : Int)
      · rw [if_pos q2]; omega
      · rw [if_neg q2]; omega
  -- the least
  have b60 : ∀ (s : ZS) (x' : Rat), gJ s 1100 e = jl x'.num → gJ s 1101 e = jl (x'.den : Int) → (x'.num.natAbs ≤ 9000000000000000000 ∧ x'.den ≤ 20000000000000000) → (fi = 0 → gJ s 1102 e = jl y.num ∧ gJ s 1103 e = jl (y.den : Int) ∧ y.num.natAbs ≤ 9000000000000000000 ∧ y.den ≤ 20000000000000000) → ∃ τ, f_X6_takeMoment_b60 N (nt (e : Nat)) (nt fi) (jl v.num) (jl (v.den : Int)) s = some ((), τ) ∧ MD τ e x' (if fi = 0 then mnq y v else v) ∧ frT s τ ∧ ∀ e' c, e' ≠ e → gJ τ c e' = gJ s c e' := fun s x' a1 a2 a3 a4 => by
    have b86 : ∃ τ, f_X6_takeMoment_b86 N (nt (e : Nat)) (jl v.num) (jl (v.den : Int)) s = some ((), τ) ∧ MD τ e x' v ∧ frT s τ ∧ ∀ e' c, e' ≠ e → gJ τ c e' = gJ s c e' := by
      refine ⟨sJ (sJ s 1102 e (jl v.num)) 1103 e (jl (v.den : Int)), ?_, ⟨by rw [gJ_sJ_c (by decide), gJ_sJ_c (by decide)]; exact a1, by rw [gJ_sJ_c (by decide), gJ_sJ_c (by decide)]; exact a2, by rw [gJ_sJ_c (by decide), gJ_sJ_at], by rw [gJ_sJ_at], a3, hvb⟩, ⟨rfl, fun c hc => by rw [sJ_o (by omega), sJ_o (by omega)]⟩, fun e' c he' => by rw [gJ_sJ_k he', gJ_sJ_k he']⟩
      unfold f_X6_takeMoment_b86
      rw [ck_inb (by omega) (by omega) (by omega), nat_k (by omega), bd_eq, ck_inb (by omega) (by omega) (by omega), bd_eq]
    unfold f_X6_takeMoment_b60
    rcases hfi with rfl | rfl
    · obtain ⟨c1, c2, c3, c4⟩ := a4 rfl
      obtain ⟨r, r1, r2, r3, r4⟩ := hcmp s y c3 c4
      rw [if_pos (show nt 0 = 0 from rfl), if_pos rfl, ck_inb (by omega) (by omega) (by omega), ck_inb (by omega) (by omega) (by omega), nat_k (by omega), c1, c2, r1, obd_some, n0]
      unfold mnq
      by_cases q : v < y
      · have hr : ¬ 0 ≤ r := fun z => r4.mp z q
        rw [if_pos q, le_f (by omega) (by omega) (by omega)]
        exact b86
      · have hr : 0 ≤ r := r4.mpr q
        rw [if_neg q, le_t (by omega) (by omega) (by omega)]
        exact ⟨s, rfl, ⟨a1, a2, c1, c2, a3, c3, c4⟩, frT_rf s, fun _ _ _ => rfl⟩
    · rw [if_neg (by decide), if_neg (by decide)]
      exact b86
  have b44 : (fi = 0 → MD σ e x y) → ∃ τ, f_X6_takeMoment_b44 N (nt (e : Nat)) (nt fi) (jl v.num) (jl (v.den : Int)) σ = some ((), τ) ∧ MD τ e v (if fi = 0 then mnq y v else v) ∧ frT σ τ ∧ ∀ e' c, e' ≠ e → gJ τ c e' = gJ σ c e' := fun hx => by
    obtain ⟨τ, k1, k2, k3, k4⟩ := b60 (sJ (sJ σ 1100 e (jl v.num)) 1101 e (jl (v.den : Int))) v (by rw [gJ_sJ_c (by decide), gJ_sJ_at]) (by rw [gJ_sJ_at]) hvb (fun hf => by
      obtain ⟨_, _, d3, d4, _, d6, d7⟩ := hx hf
      exact ⟨by rw [gJ_sJ_c (by decide), gJ_sJ_c (by decide)]; exact d3, by rw [gJ_sJ_c (by decide), gJ_sJ_c (by decide)]; exact d4, d6, d7⟩)
    refine ⟨τ, ?_, k2, ⟨k3.1, fun c hc => by rw [k3.2 c hc, sJ_o (by omega), sJ_o (by omega)]⟩, fun e' c he' => by rw [k4 e' c he', gJ_sJ_k he', gJ_sJ_k he']⟩
    unfold f_X6_takeMoment_b44
    rw [ck_inb (by omega) (by omega) (by omega), nat_k (by omega), bd_eq, ck_inb (by omega) (by omega) (by omega), bd_eq]
    exact k1
  have hpart : f_X6_takeMoment N (nt (e : Nat)) (nt fi) (jl u) (jl l) σ = (if nt fi = nt 0 then ck (inb (nt (e : Nat)) 12) (ck (inb (nt (e : Nat)) 12) (obd (f_X6_compare N (jl v.num) (jl (v.den : Int)) (gJ σ 1100 e) (gJ σ 1101 e) σ) fun v22 σ23 => (if v22 ≤ nt 0 then f_X6_takeMoment_b60 N (nt (e : Nat)) (nt fi) (jl v.num) (jl (v.den : Int)) σ23 else f_X6_takeMoment_b44 N (nt (e : Nat)) (nt fi) (jl v.num) (jl (v.den : Int)) σ23))) else f_X6_takeMoment_b44 N (nt (e : Nat)) (nt fi) (jl v.num) (jl (v.den : Int)) σ) := by
    have p0 : f_X6_part N (jl u) (jl l) (nt 0) σ = some (jl v.num, σ) := by
      rw [m_part (by omega) (okJ_of hu) (okJ_of (by omega)) hl.1 (q := 0) ⟨by decide, by decide⟩, if_pos (by decide), hul]
    have p1 : f_X6_part N (jl u) (jl l) (nt 1) σ = some (jl (v.den : Int), σ) := by
      rw [m_part (by omega) (okJ_of hu) (okJ_of (by omega)) hl.1 (q := 1) ⟨by decide, by decide⟩, if_neg (by decide), hll]
    unfold f_X6_takeMoment
    rw [n_0, p0, obd_some, n_1, p1, obd_some, nat_k (by omega)]
  rw [hpart]
  rcases hfi with rfl | rfl
  · obtain ⟨d1, d2, d3, d4, d5, d6, d7⟩ := hx rfl
    obtain ⟨r, r1, r2, r3, r4⟩ := hcmp σ x d5.1 d5.2
    rw [eq_t rfl, ck_inb (by omega) (by omega) (by omega), ck_inb (by omega) (by omega) (by omega), d1, d2, r1, obd_some, if_pos rfl]
    unfold mxq
    by_cases q : x < v
    · have hr : ¬ r ≤ 0 := fun z => r3.mp z q
      rw [if_pos q, le_f (by omega) (by omega) (by omega)]
      exact b44 hx
    · have hr : r ≤ 0 := r3.mpr q
      rw [if_neg q, le_t (by omega) (by omega) (by omega)]
      exact b60 σ x d1 d2 d5 (fun _ => ⟨d3, d4, d6, d7⟩)
  · rw [eq_f (by decide) (by decide) (by decide) (by decide) (by decide), if_neg (by decide)]
    exact b44 hx
end
