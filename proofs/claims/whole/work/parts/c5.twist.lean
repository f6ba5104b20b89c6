-- ===== the reference answers: twists, bounds, critical mechanisms =====
theorem q12 (a b c : Rat) : (12 * a - 12 * b) * (12 * c)⁻¹ = (a - b) * c⁻¹ := by
  have : 12 * a - 12 * b = 12 * (a - b) := by grind
  rw [this]
  exact quo_sc (by decide)
theorem q12n (a b c : Rat) : (-(12 * a) - 12 * b) * (12 * c)⁻¹ = (-a - b) * c⁻¹ := by
  have : -(12 * a) - 12 * b = 12 * (-a - b) := by grind
  rw [this]
  exact quo_sc (by decide)
section
variable {N : Nat} {σ : ZS} {φ : FR}
theorem RK1_W {τ : ZS} (h : RK1 φ σ) (f : frW σ τ) : RK1 φ τ := ⟨by unfold gI; rw [f.1]; exact h.1, RSp_o h.2.1 ⟨fun k _ => by unfold gI; rw [f.1], fun c _ => by rw [f.1], fun c hc => f.2.1 c (by omega) (by omega) (by omega)⟩, RFd_o h.2.2.1 (by rw [f.1]) (by rw [f.1]) (f.2.1 1098 (by decide) (by decide) (by decide)) (f.2.1 1099 (by decide) (by decide) (by decide)), by unfold gI; rw [f.1]; exact h.2.2.2⟩
theorem frW_R {τ : ZS} (f : frW σ τ) : frR σ τ := ⟨fun c _ => by rw [f.1], by unfold gI; rw [f.1], by unfold gI; rw [f.1], fun c hc => f.2.1 c (by omega) (by omega) (by omega)⟩
theorem mq_s (w : WF φ) {u : Nat → Int} {s : Nat} (h : MotM φ u s) : s < 4096 ∧ s ≠ 0 ∧ (∀ e, e < 2 * nb φ → (s.testBit e = true ↔ tM φ u e ≠ 0)) := by
  have hE := h.1
  have hs := h.2.1
  have hbit : ∀ e, e < 2 * nb φ → (s.testBit e = true ↔ tM φ u e ≠ 0) := fun e he => by
    rw [hs, mq_bit φ _ he, ne_eq, tw_q0]
    have h12 := (len_12 w (b := e / 2) (by omega)).2
    unfold tM
    constructor
    · intro a; exact Int.mul_ne_zero a (by omega)
    · intro a b; rw [b, Int.zero_mul] at a; exact a rfl
  refine ⟨IsM_lt w ⟨_, hE, hs⟩, fun q => ?_, hbit⟩
  obtain ⟨e, e1, e2⟩ := hE.1
  rw [ne_eq, tw_q0] at e2
  have h12 := (len_12 w (b := e / 2) (by omega)).2
  have := (hbit e e1).mpr (by unfold tM; exact Int.mul_ne_zero e2 (by omega))
  rw [q, Nat.zero_testBit] at this
  exact absurd this (by decide)
theorem m_twist (w : WF φ) (hN : 30000 ≤ N) (h : MFr σ φ) (hk : RK φ σ) {i e y : Int} (hi : iR i) (he : iR e) (hy : iR y) : ∃ τ, f_X6_twist N (nt i) (nt e) (nt y) σ = some (jl (aTwist φ i e y), τ) ∧ MAsk φ σ τ := by
  have hw2 := w.2.1
  have n0 : (0 : Int32) = nt 0 := rfl
  have hL := (ex_rk w).2.2.1
  unfold f_X6_twist aTwist
  rw [n0, n_1, s_in N y 0 1 hy ⟨by omega, by omega⟩ ⟨by omega, by omega⟩, obd_some, n0.symm, br_p]
  by_cases y1 : 0 ≤ y ∧ y ≤ 1
  rotate_left
  · rw [if_neg y1, if_neg y1]; exact ⟨σ, rfl, MAsk_rf hk⟩
  rw [if_pos y1, if_pos y1]
  obtain ⟨s, e1, h1, h2, h3⟩ := m_loose w hN h hk
  rw [e1, obd_some, br_p]
  by_cases a : rk φ < dd φ
  · rw [if_pos a, if_pos a]; exact ⟨s, rfl, RK1_K h1, h3⟩
  rw [if_neg a, if_neg a, h1.2.1.2.2.2.2.1, n0, nt_sub, s_in N i 0 (((ML φ).length : Int) - 1) hi ⟨by omega, by omega⟩ ⟨by omega, by omega⟩, obd_some, n0.symm, br_p]
  by_cases b : 0 ≤ i ∧ i ≤ ((ML φ).length : Int) - 1
  rotate_left
  · rw [if_neg b, if_neg (fun w => b w.1)]; exact ⟨s, rfl, RK1_K h1, h3⟩
  rw [if_pos b, m_isEnd h2 w he, obd_some, br_p]
  by_cases d : 0 ≤ e ∧ e ≤ 2 * nb φ - 1
  rotate_left
  · rw [if_neg d, if_neg (fun w => d w.2)]; exact ⟨s, rfl, RK1_K h1, h3⟩
  rw [if_pos d, if_pos ⟨b, d⟩]
  obtain ⟨i, rfl⟩ : ∃ j : Nat, i = (j : Int) := ⟨i.toNat, by omega⟩
  obtain ⟨e, rfl⟩ : ∃ j : Nat, e = (j : Int) := ⟨e.toNat, by omega⟩
  have hit : ((i : Nat) : Int).toNat = i := rfl
  have het : ((e : Nat) : Int).toNat = e := rfl
  obtain ⟨t, u, e2, hM, t1, _, _, fW⟩ := m_layOne (N := N) w (by omega) h2 h1.2.1 a (i := i) (by omega)
  have hmt : MFr t φ := frR_M (frW_R fW) h2
  obtain ⟨S, hS⟩ : ∃ S, S = nth (ML φ) i := ⟨_, rfl⟩
  rw [hit, het, ← hS]
  rw [← hS] at hM
  obtain ⟨m1, m2, m3⟩ := mq_s w hM
  obtain ⟨l1, l2, l3⟩ := lwb_ok m2 m1
  have hlo : lwb S < 2 * nb φ := by
    rw [hM.2.1] at l2 ⊢
    exact bits_lt (mq_lt φ _) l2
  have hlo0 : tM φ u (lwb S) ≠ 0 := (m3 _ hlo).mp l2
  have hlz : ∀ k, k < lwb S → tM φ u k = 0 := fun k hk2 => by
    apply Classical.byContradiction
    intro q
    have := (m3 k (by omega)).mpr q
    rw [l3 k hk2] at this
    exact absurd this (by decide)
  have htb : ∀ k, k < 2 * nb φ → (tM φ u k).natAbs ≤ 6291456 := fun k hk2 => tM_bd w hM hk2
  -- the lowest end
  have scan : ∀ (k n : Nat) (x4 : Nat), k ≤ 2 * nb φ → k + 1 ≤ n → x4 < 12 → (k ≤ lwb S → x4 = lwb S) → f_X6_twist_h68 N (nt (e : Nat)) (nt y) n (nt (x4 : Nat)) (nt ((k : Nat) - 1)) t = f_X6_twist_h68 N (nt (e : Nat)) (nt y) (n - k) (nt (lwb S : Nat)) (nt (-1)) t := by
    intro k
    induction k with
    | zero =>
      intro n x4 _ hn hx hz
      rw [hz (Nat.zero_le _)]
      rfl
    | succ k ih =>
      intro n x4 hk2 hn hx hz
      obtain ⟨n, rfl⟩ : ∃ m, n = m + 1 := ⟨n - 1, by omega⟩
      have hb := htb k (by omega)
      have b92 : ∀ z : Nat, f_X6_twist_b92 N (fun x4_ x5_ σ_ => f_X6_twist_h68 N (nt (e : Nat)) (nt y) n x4_ x5_ σ_) (nt (e : Nat)) (nt y) (nt (k : Nat)) (nt (z : Nat)) t = f_X6_twist_h68 N (nt (e : Nat)) (nt y) n (nt (z : Nat)) (nt ((k : Nat) - 1)) t := fun z => by
        rw [f_X6_twist_b92, n_m1, nt_add, bd_eq, show ((k : Nat) : Int) + -1 = (k : Nat) - 1 by omega]
      rw [f_X6_twist_h68, show (((k + 1 : Nat) : Int) - 1) = (k : Nat) by omega, n0, lt_f (by omega) (by omega) (by omega), ck_inb (by omega) (by omega) (by omega), nat_k (by omega), t1 k (by omega), j_0, show n + 1 - (k + 1) = n - k by omega]
      by_cases q : tM φ u k = 0
      · rw [jeq_t q, b92]
        exact ih n x4 (by omega) (by omega) hx (fun hkl => hz (by
          by_cases q2 : k = lwb S
          · rw [q2] at q; exact absurd q hlo0
          · omega))
      · rw [jeq_f q (by omega) (by omega) (by omega) (by omega), b92]
        exact ih n k (by omega) (by omega) (by omega) (fun hkl => by
          by_cases q2 : k = lwb S
          · exact q2
          · exact absurd (hlz k (by omega)) q)
  have hsc := scan (2 * nb φ) N 0 (Nat.le_refl _) (by omega) (by omega) (fun hz => by omega)
  obtain ⟨m, em⟩ : ∃ m, N - 2 * nb φ = m + 1 := ⟨N - 2 * nb φ - 1, by omega⟩
  have hb1 := htb e (by omega)
  have hb2 := htb (lwb S) hlo
  obtain ⟨L, hLd⟩ : ∃ L, L = tM φ u (lwb S) := ⟨_, rfl⟩
  obtain ⟨A, hAd⟩ : ∃ A, A = tM φ u e := ⟨_, rfl⟩
  have tL : gJ t 1085 (lwb S) = jl L := by rw [hLd]; exact t1 _ hlo
  have tA : gJ t 1085 e = jl A := by rw [hAd]; exact t1 e (by omega)
  rw [← hLd] at hlo0 hb2
  rw [← hAd] at hb1
  have hval : ((if L < 0 then -A else A : Int) : Rat) * ((if L < 0 then -L else L : Int) : Rat)⁻¹ = twR φ S e := by
    have h4 := q_sgn (B := L) (m := 1) (x := A) hlo0 (by decide)
    rw [Int.one_mul, Int.one_mul] at h4
    rw [h4, twR_of hM.1 hM.2.1, hAd, hLd, tM_q w u (by omega), tM_q w u hlo]
    exact quo_sc (by decide)
  have hfin : f_X6_twist_h68 N (nt (e : Nat)) (nt y) (m + 1) (nt (lwb S : Nat)) (nt (-1)) t = some (jl (ptR (twR φ S e) y), t) := by
    have hpart : ∀ a b : Int, a = (if L < 0 then -A else A) → b = (if L < 0 then -L else L) → f_X6_twist_b160 N (nt y) (jl a) (jl b) t = some (jl (ptR (twR φ S e) y), t) := fun a b ha hb => by
      have hbp : 0 < b := by rw [hb]; split <;> omega
      have hbb : b.natAbs ≤ 6291456 := by rw [hb]; split <;> omega
      have hab : a.natAbs ≤ 6291456 := by rw [ha]; split <;> omega
      unfold f_X6_twist_b160 ptR
      rw [m_part (by omega) ⟨by omega, by omega⟩ ⟨by omega, by omega⟩ hbp (q := y) ⟨by omega, by omega⟩, obd_some, rn_q, rd_q, ha, hb, hval]
      rcases (show y = 0 ∨ y = 1 by omega) with rfl | rfl
      · rw [if_pos (by decide), if_pos rfl]
      · rw [if_neg (by decide), if_neg (by decide)]
    have b128 : ∀ a : Int, a = (if L < 0 then -A else A) → f_X6_twist_b128 N (nt y) (nt (lwb S : Nat)) (jl a) t = some (jl (ptR (twR φ S e) y), t) := fun a ha => by
      unfold f_X6_twist_b128
      rw [ck_inb (by omega) (by omega) (by omega), nat_k (by omega), tL, j_0, jl_neg]
      by_cases q : L < 0
      · rw [jlt_t q (by omega) (by omega), ck_inb (by omega) (by omega) (by omega), hpart a _ ha (by rw [if_pos q])]
      · rw [jlt_f (by omega) (by omega) (by omega), ck_inb (by omega) (by omega) (by omega), hpart a _ ha (by rw [if_neg q])]
    rw [f_X6_twist_h68, n0, lt_t (by omega) (by omega) (by omega), ck_inb (by omega) (by omega) (by omega), nat_k (by omega), tL, j_0, nat_k (by omega), tA, jl_neg]
    by_cases q : L < 0
    · rw [jlt_t q (by omega) (by omega), ck_inb (by omega) (by omega) (by omega), b128 _ (by rw [if_pos q])]
    · rw [jlt_f (by omega) (by omega) (by omega), ck_inb (by omega) (by omega) (by omega), b128 _ (by rw [if_neg q])]
  refine ⟨t, ?_, RK1_K (RK1_W h1 fW), frR_tr h3 (frW_R fW)⟩
  have hsc : f_X6_twist_h68 N (nt (e : Nat)) (nt y) N (nt 0) (nt ((2 * nb φ : Nat) - 1)) t = f_X6_twist_h68 N (nt (e : Nat)) (nt y) (N - 2 * nb φ) (nt (lwb S : Nat)) (nt (-1)) t := hsc
  rw [e2, obd_some, MFr_b hmt, n_2, nt_mul, nt_sub, bd_eq, n0, show (2 : Int) * (nb φ : Nat) - 1 = ((2 * nb φ : Nat) : Int) - 1 by omega, hsc, em, hfin]
theorem m_bound (w : WF φ) (hN : 30000 ≤ N) (h : MFr σ φ) (hk : RK φ σ) {i c y : Int} (hi : iR i) (hc : iR c) (hy : iR y) : ∃ τ, f_X6_bound N (nt i) (nt c) (nt y) σ = some (jl (aBound φ i c y), τ) ∧ MAsk φ σ τ := by
  have hw2 := w.2.1
  have n0 : (0 : Int32) = nt 0 := rfl
  have hL := (ex_rk w).2.2.1
  unfold f_X6_bound aBound
  rw [m_isCase hc, obd_some, br_p]
  by_cases c1 : 1 ≤ c ∧ c ≤ 2
  rotate_left
  · rw [if_neg c1, if_neg c1]; exact ⟨σ, rfl, MAsk_rf hk⟩
  rw [if_pos c1, if_pos c1, n0, n_3, s_in N y 0 3 hy ⟨by omega, by omega⟩ ⟨by omega, by omega⟩, obd_some, n0.symm, br_p]
  by_cases y1 : 0 ≤ y ∧ y ≤ 3
  rotate_left
  · rw [if_neg y1, if_neg y1]; exact ⟨σ, rfl, MAsk_rf hk⟩
  rw [if_pos y1, if_pos y1]
  obtain ⟨s, e1, h1, h2, h3⟩ := m_loose w hN h hk
  rw [e1, obd_some, br_p]
  by_cases a : rk φ < dd φ
  · rw [if_pos a, if_pos a]; exact ⟨s, rfl, RK1_K h1, h3⟩
  rw [if_neg a, if_neg a, h1.2.1.2.2.2.2.1, n0, n_1, nt_sub, s_in N i 0 (((ML φ).length : Int) - 1) hi ⟨by omega, by omega⟩ ⟨by omega, by omega⟩, obd_some, n0.symm, br_p]
  by_cases b : 0 ≤ i ∧ i ≤ ((ML φ).length : Int) - 1
  rotate_left
  · rw [if_neg b, if_neg b]; exact ⟨s, rfl, RK1_K h1, h3⟩
  rw [if_pos b, if_pos b]
  obtain ⟨i, rfl⟩ : ∃ j : Nat, i = (j : Int) := ⟨i.toNat, by omega⟩
  obtain ⟨c, rfl⟩ : ∃ j : Nat, c = (j : Int) := ⟨c.toNat, by omega⟩
  have hit : ((i : Nat) : Int).toNat = i := rfl
  have hct : ((c : Nat) : Int).toNat = c := rfl
  obtain ⟨t, u, e2, hM, _, t2, t3, fW⟩ := m_layOne (N := N) w (by omega) h2 h1.2.1 a (i := i) (by omega)
  obtain ⟨S, hS⟩ : ∃ S, S = nth (ML φ) i := ⟨_, rfl⟩
  rw [hit, hct, ← hS]
  rw [← hS] at hM
  have hWc := wM_bd w hM (c := c) (by omega)
  have hW0 := wM_bd w hM (c := 0) (by omega)
  have hSt := sM_bd w hM
  have qc := wM_q w u c
  have q0' := wM_q w u 0
  have qs := sM_q w u
  obtain ⟨b1, b2⟩ := bd_of (c := c) hM.1 hM.2.1
  have tc := t3 c (by omega)
  have t0 := t3 0 (by omega)
  obtain ⟨W, hW⟩ : ∃ W, W = wM φ u c := ⟨_, rfl⟩
  obtain ⟨W0, hW0d⟩ : ∃ W, W = wM φ u 0 := ⟨_, rfl⟩
  obtain ⟨St, hStd⟩ : ∃ W, W = sM φ u := ⟨_, rfl⟩
  rw [← hW] at hWc qc tc
  rw [← hW0d] at hW0 q0' t0
  rw [← hStd] at hSt qs t2
  have hd0 : dq (dd φ) (pq φ c) (fun j => (u j : Rat)) = 0 ↔ W = 0 := by
    rw [← q_0, qc]
    constructor
    · intro z; rw [z, Rat.mul_zero]
    · intro z; exact (Rat.mul_eq_zero.mp z).resolve_left (by decide)
  refine ⟨t, ?_, RK1_K (RK1_W h1 fW), frR_tr h3 (frW_R fW)⟩
  have z0 : ((0 : Int32)).toNatClampNeg = 0 := rfl
  rw [e2, obd_some, ck_inb (by omega) (by omega) (by omega), nat_k (by omega), tc, bd_eq, j_0]
  by_cases ez : W = 0
  · rw [jeq_t ez, if_pos (cd_iff.mpr (b1.mp (hd0.mpr ez)))]
    rfl
  rw [jeq_f ez (by omega) (by omega) (by omega) (by omega), if_neg (fun z => ez (hd0.mp (b1.mpr (cd_iff.mp z))))]
  obtain ⟨v1, v2⟩ := b2 (fun z => ez (hd0.mp z))
  -- the bounds, in whole numbers
  have hsd : ((if W < 0 then -W0 else W0 : Int) : Rat) = 12 * stdy (dq (dd φ) (pq φ c) (fun j => (u j : Rat))) (dq (dd φ) (pq φ 0) (fun j => (u j : Rat))) := by
    unfold stdy
    have hlt : W < 0 ↔ dq (dd φ) (pq φ c) (fun j => (u j : Rat)) < 0 := by
      rw [← Rat.intCast_lt_intCast, qc]
      constructor <;> intro z <;> grind
    by_cases q : W < 0
    · rw [if_pos q, if_pos (hlt.mp q), Rat.intCast_neg, q0']; grind
    · rw [if_neg q, if_neg (fun z => q (hlt.mpr z)), q0']
  have hsw : ((if W < 0 then -W else W : Int) : Rat) = 12 * ab (dq (dd φ) (pq φ c) (fun j => (u j : Rat))) := by
    have h5 : (if W < 0 then -W else W : Int) = ((W.natAbs : Nat) : Int) := by split <;> omega
    have h12 : ab (12 : Rat) = 12 := ab_of (by decide)
    rw [h5, ← ab_int, qc, ab_mul, h12]
  have hU : ((St - (if W < 0 then -W0 else W0) : Int) : Rat) * ((if W < 0 then -W else W : Int) : Rat)⁻¹ = bdU φ c S := by
    rw [v1, Rat.intCast_sub, hsd, hsw, qs]
    exact q12 _ _ _
  have hLo : ((-St - (if W < 0 then -W0 else W0) : Int) : Rat) * ((if W < 0 then -W else W : Int) : Rat)⁻¹ = bdL φ c S := by
    rw [v2, Rat.intCast_sub, Rat.intCast_neg, hsd, hsw, qs]
    exact q12n _ _ _
  have hpart : ∀ x b : Int, x = (if y < 2 then St else -St) - (if W < 0 then -W0 else W0) → b = (if W < 0 then -W else W) → f_X6_bound_b133 N (nt y) (jl x) (jl b) t = some (jl (pt4 (bdU φ c S) (bdL φ c S) y), t) := fun x b hx hb => by
    have hbp : 0 < b := by rw [hb]; split <;> omega
    have hbb : b.natAbs ≤ 440401920 := by rw [hb]; split <;> omega
    have hxb : x.natAbs ≤ 2000000000 := by rw [hx]; split <;> split <;> omega
    unfold f_X6_bound_b133 pt4
    rw [m_part (by omega) ⟨by omega, by omega⟩ ⟨by omega, by omega⟩ hbp (q := y) y1, obd_some, rn_q, rd_q]
    rcases (show y = 0 ∨ y = 1 ∨ y = 2 ∨ y = 3 by omega) with rfl | rfl | rfl | rfl
    · rw [if_pos (show (0 : Int) < 2 by decide)] at hx
      rw [hx, hb, hU, if_pos (by decide), if_pos rfl]
    · rw [if_pos (show (1 : Int) < 2 by decide)] at hx
      rw [hx, hb, hU, if_neg (by decide), if_neg (by decide), if_pos rfl]
    · rw [if_neg (show ¬ (2 : Int) < 2 by decide)] at hx
      rw [hx, hb, hLo, if_pos (by decide), if_neg (by decide), if_neg (by decide), if_pos rfl]
    · rw [if_neg (show ¬ (3 : Int) < 2 by decide)] at hx
      rw [hx, hb, hLo, if_neg (by decide), if_neg (by decide), if_neg (by decide), if_neg (by decide)]
  have b115 : ∀ x sd : Int, x = (if y < 2 then St else -St) → sd = (if W < 0 then -W0 else W0) → f_X6_bound_b115 N (nt y) (jl W) (jl sd) (jl x) t = some (jl (pt4 (bdU φ c S) (bdL φ c S) y), t) := fun x sd hx hsd2 => by
    unfold f_X6_bound_b115
    rw [jl_sub, jl_neg, j_0]
    by_cases q : W < 0
    · rw [jlt_t q (by omega) (by omega), hpart _ _ (by rw [hx, hsd2]) (by rw [if_pos q])]
    · rw [jlt_f (by omega) (by omega) (by omega), hpart _ _ (by rw [hx, hsd2]) (by rw [if_neg q])]
  have b96 : ∀ sd : Int, sd = (if W < 0 then -W0 else W0) → f_X6_bound_b96 N (nt y) (jl W) (jl sd) t = some (jl (pt4 (bdU φ c S) (bdL φ c S) y), t) := fun sd hsd2 => by
    unfold f_X6_bound_b96
    rw [t2, jl_neg, n_2]
    by_cases q : y < 2
    · rw [le_f (by omega) (by omega) (by omega), b115 _ _ (by rw [if_pos q]) hsd2]
    · rw [le_t (by omega) (by omega) (by omega), b115 _ _ (by rw [if_neg q]) hsd2]
  rw [z0, t0, jl_neg]
  by_cases q : W < 0
  · rw [jlt_t q (by omega) (by omega), ck_of (by decide), b96 _ (by rw [if_pos q])]
  · rw [jlt_f (by omega) (by omega) (by omega), ck_of (by decide), b96 _ (by rw [if_neg q])]
end
