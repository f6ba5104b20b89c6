-- ===== the reference weighs a mechanism =====
section
variable {N : Nat} {σ : ZS} {φ : FR}
/-- how a kept motion goes at a node one way -/
noncomputable def gz2 (φ : FR) (u : Nat → Int) (v n : Nat) : Int := if num φ v n < 0 then 0 else u (num φ v n).toNat
/-- work and strain, twelve times -/
noncomputable def wM (φ : FR) (u : Nat → Int) (c : Nat) : Int := sZ (nn φ) (fun n => 12 * (φ.1 (6 + 2 * c) n * gz2 φ u 0 n + φ.1 (7 + 2 * c) n * gz2 φ u 1 n))
noncomputable def tM (φ : FR) (u : Nat → Int) (e : Nat) : Int := tw φ e u * (12 / lenB φ (e / 2))
noncomputable def sM (φ : FR) (u : Nat → Int) : Int := sZ (2 * nb φ) (fun e => φ.1 5 (e / 2) * ((tM φ u e).natAbs : Int))
theorem gz2_bd (w : WF φ) {u : Nat → Int} {s : Nat} (h : MotM φ u s) {v n : Nat} (hv : v < 2) (hn : n < nn φ) : (gz2 φ u v n).natAbs ≤ 524288 := by
  unfold gz2
  split
  · decide
  · rename_i q
    have h1 := (num_s w (v := v) (n := n) (by omega) hn (by omega)).mpr hv
    exact h.2.2.1 _ (by omega)
theorem tM_bd (w : WF φ) {u : Nat → Int} {s : Nat} (h : MotM φ u s) {e : Nat} (he : e < 2 * nb φ) : (tM φ u e).natAbs ≤ 6291456 := by
  have h1 := h.2.2.2.2 e he
  have h2 := (len_12 w (b := e / 2) (by omega)).2
  have := mul_bd (b := 12 / lenB φ (e / 2)) (B := 12) h1 (by omega)
  unfold tM
  omega
theorem wM_bd (w : WF φ) {u : Nat → Int} {s : Nat} (h : MotM φ u s) {c : Nat} (hc : c < 3) : (wM φ u c).natAbs ≤ 440401920 := by
  have hw1 := w.1
  have h1 : (wM φ u c).natAbs ≤ nn φ * 62914560 := sZ_bd (fun n hn => by
    have a1 := gz2_bd w h (v := 0) (by omega) hn
    have a2 := gz2_bd w h (v := 1) (by omega) hn
    have l1 := w.2.2.2.2 (6 + 2 * c) n (by omega) (by omega) (by omega)
    have l2 := w.2.2.2.2 (7 + 2 * c) n (by omega) (by omega) (by omega)
    have m1 := mul_bd (a := φ.1 (6 + 2 * c) n) (A := 5) (by omega) a1
    have m2 := mul_bd (a := φ.1 (7 + 2 * c) n) (A := 5) (by omega) a2
    omega)
  omega
theorem sM_bd (w : WF φ) {u : Nat → Int} {s : Nat} (h : MotM φ u s) : 0 ≤ sM φ u ∧ sM φ u ≤ 905969664 := by
  have hw2 := w.2.1
  have hS : ∀ e, e < 2 * nb φ → 1 ≤ φ.1 5 (e / 2) ∧ φ.1 5 (e / 2) ≤ 12 := fun e he => by
    obtain ⟨_, _, _, _, a, b, _⟩ := w.2.2.2.1 (e / 2) (by omega)
    exact ⟨a, b⟩
  have h0 : 0 ≤ sM φ u := sZ_nonneg (fun e he => by
    have := hS e he
    exact Int.mul_nonneg (by omega) (by omega))
  have h1 : (sM φ u).natAbs ≤ 2 * nb φ * 75497472 := sZ_bd (fun e he => by
    have := hS e he
    have a1 := tM_bd w h he
    exact Nat.le_trans (mul_bd (a := φ.1 5 (e / 2)) (A := 12) (b := ((tM φ u e).natAbs : Int)) (B := 6291456) (by omega) (by omega)) (by decide))
  omega
theorem tM_q (w : WF φ) (u : Nat → Int) {e : Nat} (he : e < 2 * nb φ) : ((tM φ u e : Int) : Rat) = 12 * (dq (dd φ) (Rq φ e) (fun j => (u j : Rat)) * ((lenB φ (e / 2) : Int) : Rat)⁻¹) := by
  unfold tM
  have hb : e / 2 < nb φ := by omega
  have hl := len_q w hb
  have hi := Rat.mul_inv_cancel _ hl
  have h1 := (len_12 w hb).1
  have h2 : ((12 / lenB φ (e / 2) * lenB φ (e / 2) : Int) : Rat) = ((12 : Int) : Rat) := by rw [h1]
  rw [Rat.intCast_mul] at h2
  rw [Rat.intCast_mul, tw_q]
  have h3 : ((12 : Int) : Rat) = 12 := rfl
  rw [h3] at h2
  generalize ((12 / lenB φ (e / 2) : Int) : Rat) = a at *
  generalize ((lenB φ (e / 2) : Int) : Rat) = l at *
  generalize ((tw φ e u : Int) : Rat) = t at *
  generalize l⁻¹ = i at *
  have h4 : a = a * l * i := by rw [Rat.mul_assoc, hi, Rat.mul_one]
  rw [h2] at h4
  rw [h4]; grind
theorem sM_q (w : WF φ) (u : Nat → Int) : ((sM φ u : Int) : Rat) = 12 * stn (dd φ) (Rq φ) (cq φ) (2 * nb φ) (fun j => (u j : Rat)) := by
  unfold sM stn
  rw [sZQ, ← sQ_mul]
  refine sQ_congr (fun e he => ?_)
  try dsimp only
  have hb : e / 2 < nb φ := by omega
  have hl := (len_rg w hb).1
  rw [Rat.intCast_mul, ← ab_int, tM_q w u he, ab_mul, ab_mul]
  have h1 : ab (((lenB φ (e / 2) : Int) : Rat)⁻¹) = ((lenB φ (e / 2) : Int) : Rat)⁻¹ := by
    exact ab_of (Rat.le_of_lt (Rat.inv_pos.mpr (q_pos.mpr (by omega))))
  have h2 : ab (12 : Rat) = 12 := ab_of (by decide)
  rw [h1, h2]
  unfold cq
  grind
theorem wM_q (w : WF φ) (u : Nat → Int) (c : Nat) : ((wM φ u c : Int) : Rat) = 12 * dq (dd φ) (pq φ c) (fun j => (u j : Rat)) := by
  rw [pq_q w]
  unfold wM
  rw [sZQ, ← sQ_mul]
  refine sQ_congr (fun n hn => ?_)
  try dsimp only
  have hg : ∀ v, ((gz2 φ u v n : Int) : Rat) = gq φ (fun j => (u j : Rat)) v n := fun v => by
    unfold gz2 gq
    split
    · rfl
    · rfl
  rw [Rat.intCast_mul, Rat.intCast_add, Rat.intCast_mul, Rat.intCast_mul, hg, hg]
  rfl
theorem m_goes (w : WF φ) (hk : RSp φ σ) {i : Nat} (hi : i < (ML φ).length) {u : Nat → Int} (hu : ∀ j, j < dd φ → gJ σ 1081 (12 * i + j) = jl (u j)) (hd12 : dd φ ≤ 12) {v n : Nat} (hv : v < 3) (hn : n < nn φ) : f_X6_goes N (nt (i : Nat)) (nt (v : Nat)) (nt (n : Nat)) σ = some (jl (gz2 φ u v n), σ) := by
  have hw1 := w.1
  have hL := (ex_rk w).2.2.1
  have n7 : (7 : Int32) = nt 7 := rfl
  unfold f_X6_goes gz2
  rw [n7, nt_mul, nt_add, ck_inb (by omega) (by omega) (by omega), nat_nt (by omega) (by omega), show ((7 : Int) * (v : Nat) + (n : Nat)).toNat = 7 * v + n by omega, hk.2.2.1 v n hv hn, bd_eq, n_0]
  rcases num_rg w hv hn with ⟨h1, _⟩ | ⟨h1, h2, _⟩
  · rw [h1, le_f (by omega) (by omega) (by omega), if_pos (by decide)]; rfl
  · obtain ⟨a, ha⟩ : ∃ a : Nat, num φ v n = (a : Int) := ⟨(num φ v n).toNat, by omega⟩
    rw [le_t (by omega) (by omega) (by omega), if_neg (by omega), ha, n_12, nt_mul, nt_add, ck_inb (by omega) (by omega) (by omega), nat_nt (by omega) (by omega), show ((12 : Int) * (i : Nat) + (a : Nat)).toNat = 12 * i + a by omega, hu a (by omega)]
    rfl
/-- what weighing leaves -/
def frW (σ τ : ZS) : Prop := τ.1 = σ.1 ∧ (∀ c, c ≠ 1067 → c ≠ 1085 → c ≠ 1086 → τ.2 c = σ.2 c) ∧ ∀ k, k ≠ 25 → gJ τ 1067 k = gJ σ 1067 k
theorem m_layOne (w : WF φ) (hN : 1200 ≤ N) (h : MFr σ φ) (hk : RSp φ σ) (hre : ¬ rk φ < dd φ) {i : Nat} (hi : i < (ML φ).length) : ∃ τ u, f_X6_layOne N (nt (i : Nat)) σ = some ((), τ) ∧ MotM φ u (nth (ML φ) i) ∧ (∀ e, e < 2 * nb φ → gJ τ 1085 e = jl (tM φ u e)) ∧ gJ τ 1067 25 = jl (sM φ u) ∧ (∀ c, c < 3 → gJ τ 1086 c = jl (wM φ u c)) ∧ frW σ τ := by
  have hw1 := w.1
  have hw2 := w.2.1
  have hd12 : dd φ ≤ 12 := by have := rk_le (φ := φ); omega
  have hL := (ex_rk w).2.2.1
  obtain ⟨_, u, hM, hu⟩ := hk.2.2.2.2.2 i hi
  -- twists and strain
  obtain ⟨s, es, h1, h2, h3⟩ := lp_inv (fun n e s => f_X6_layOne_h7 N (nt (i : Nat)) n (nt (e : Nat)) s) (fun e s => frW σ s ∧ (∀ e', e' < e → gJ s 1085 e' = jl (tM φ u e')) ∧ gJ s 1067 25 = jl (sZ e (fun e => φ.1 5 (e / 2) * ((tM φ u e).natAbs : Int)))) (2 * nb φ) (fun n e s he hs => by
    obtain ⟨⟨a1, a2, a3⟩, b1, b2⟩ := hs
    have he : e < 2 * nb φ := he
    have hm : MFr s φ := MFr_same h (by unfold gI; rw [a1]) (by unfold gI; rw [a1]) (fun c _ _ => by rw [a1])
    have h10 : gI s 1067 10 = nt (dd φ : Nat) := by unfold gI; rw [a1]; exact hk.1
    have hR : ∀ e j, e < 2 * nb φ → j < 21 → gJ s 1077 (21 * e + j) = jl (Rz φ e j) := fun e j x y => by
      unfold gJ; rw [a2 1077 (by decide) (by decide) (by decide)]; exact hk.2.2.2.1 e j x y
    have hu' : ∀ j, j < dd φ → gJ s 1081 (12 * i + j) = jl (u j) := fun j hj => by
      unfold gJ; rw [a2 1081 (by decide) (by decide) (by decide)]; exact hu j hj
    have ht := m_twistBy (N := N) w (by omega) hm h10 hR (a := 1081) (b := 12 * i) (by decide) (by show 12 * i + dd φ ≤ 11088; omega) (by decide) hu' he
    have htb := tM_bd w hM he
    have hb : e / 2 < nb φ := by omega
    have hdiv : ((e : Nat) : Int).tdiv 2 = ((e / 2 : Nat) : Int) := by
      rw [Int.tdiv_eq_ediv_of_nonneg (by omega)]; omega
    have hS := w.2.2.2.1 (e / 2) hb
    obtain ⟨s1, hs1⟩ : ∃ s1, s1 = sJ s 1085 e (jl (tM φ u e)) := ⟨_, rfl⟩
    have g1 : gJ s1 1085 e = jl (tM φ u e) := by rw [hs1, gJ_sJ_at]
    have g2 : gJ s1 1067 25 = jl (sZ e (fun e => φ.1 5 (e / 2) * ((tM φ u e).natAbs : Int))) := by rw [hs1, gJ_sJ_c (by decide)]; exact b2
    have g3 : gI s1 1073 (e / 2) = nt (φ.1 5 (e / 2)) := by rw [hs1]; exact MFr_s hm hb
    have b77 : ∀ x : Int, x = ((tM φ u e).natAbs : Int) → f_X6_layOne_b77 N (fun x2_ σ_ => f_X6_layOne_h7 N (nt (i : Nat)) n x2_ σ_) (nt (i : Nat)) (nt (e : Nat)) (jl (sZ e (fun e => φ.1 5 (e / 2) * ((tM φ u e).natAbs : Int)))) (jl (φ.1 5 (e / 2))) (jl x) s1 = f_X6_layOne_h7 N (nt (i : Nat)) n (nt ((e + 1 : Nat) : Int)) (sJ s1 1067 25 (jl (sZ (e + 1) (fun e => φ.1 5 (e / 2) * ((tM φ u e).natAbs : Int))))) := fun x hx => by
      rw [f_X6_layOne_b77, jl_mul, jl_add, bd_eq, bd_eq, n_1, nt_add, bd_eq, hx]; rfl
    refine ⟨sJ s1 1067 25 (jl (sZ (e + 1) (fun e => φ.1 5 (e / 2) * ((tM φ u e).natAbs : Int)))), ?_, ⟨?_, fun c c1 c2 c3 => ?_, fun k hk2 => ?_⟩, fun e' he' => ?_, by rw [gJ_sJ_at]⟩
    · show f_X6_layOne_h7 N (nt (i : Nat)) (n + 1) (nt (e : Nat)) s = _
      have ht : f_X6_twistBy N 1081 (nt ((12 * i : Nat) : Int)) (nt (e : Nat)) s = some (jl (tM φ u e), s) := ht
      rw [f_X6_layOne_h7, MFr_b hm, n_2, nt_mul, le_f (by omega) (by omega) (by omega), n_12, nt_mul, show (12 : Int) * (i : Nat) = ((12 * i : Nat) : Int) by omega, ht, obd_some, ck_inb (by omega) (by omega) (by omega), nat_k (by omega), bd_eq, ← hs1, nt_div ⟨by omega, by omega⟩ ⟨by omega, by omega⟩, hdiv, ck_inb (by omega) (by omega) (by omega), ck_inb (by omega) (by omega) (by omega), nat_k (by omega), g1, g2, g3, j_0, long_nt (by omega) (by omega)]
      by_cases q : tM φ u e < 0
      · rw [jlt_t q (by omega) (by omega), ck_inb (by omega) (by omega) (by omega), jl_neg, b77 _ (by omega)]
      · rw [jlt_f (by omega) (by omega) (by omega), ck_inb (by omega) (by omega) (by omega), b77 _ (by omega)]
    · rw [hs1]; exact a1
    · rw [sJ_o c1, hs1, sJ_o c2]; exact a2 c c1 c2 c3
    · rw [gJ_sJ_k hk2, hs1, gJ_sJ_c (by decide)]; exact a3 k hk2
    · rw [gJ_sJ_c (by decide), hs1]
      by_cases q : e' = e
      · rw [q, gJ_sJ_at]
      · rw [gJ_sJ_k q]; exact b1 e' (by omega)) (2 * nb φ) 0 N (sJ σ 1067 25 (jl 0)) (by omega) (by omega) ⟨⟨rfl, fun c c1 _ _ => by rw [sJ_o c1], fun k hk2 => by rw [gJ_sJ_k hk2]⟩, fun e' he' => absurd he' (Nat.not_lt_zero _), by rw [gJ_sJ_at]; rfl⟩
  obtain ⟨m1, em1⟩ : ∃ m, N - 2 * nb φ = m + 1 := ⟨N - 2 * nb φ - 1, by omega⟩
  have es : f_X6_layOne_h7 N (nt (i : Nat)) N (nt 0) (sJ σ 1067 25 (jl 0)) = f_X6_layOne_h7 N (nt (i : Nat)) (N - 2 * nb φ) (nt (2 * nb φ : Nat)) s := es
  have hbs : gI s 1067 4 = nt (nb φ : Nat) := by unfold gI; rw [h1.1]; exact MFr_b h
  rw [em1, f_X6_layOne_h7, hbs, n_2, nt_mul, le_t (by omega) (by omega) (by omega)] at es
  -- works
  obtain ⟨t, et, k1, k2, k3, k4⟩ := lp_inv (fun n c s => f_X6_layOne_h90 N (nt (i : Nat)) n (nt (c : Nat)) s) (fun c t => frW σ t ∧ (∀ e', e' < 2 * nb φ → gJ t 1085 e' = jl (tM φ u e')) ∧ gJ t 1067 25 = jl (sM φ u) ∧ ∀ c', c' < c → gJ t 1086 c' = jl (wM φ u c')) 3 (fun n c t hc ht => by
    obtain ⟨⟨a1, a2, a3⟩, b1, b2, b3⟩ := ht
    have q1 := lp_go (fun m k (s : ZS) => f_X6_layOne_h104 N (fun x2_ σ_ => f_X6_layOne_h90 N (nt (i : Nat)) n x2_ σ_) (nt (i : Nat)) (nt (c : Nat)) m (nt (k : Nat)) s) (fun k => sJ t 1086 c (jl (sZ k (fun n => 12 * (φ.1 (6 + 2 * c) n * gz2 φ u 0 n + φ.1 (7 + 2 * c) n * gz2 φ u 1 n))))) (nn φ) (fun m k hk2 => by
      obtain ⟨s', hs'⟩ : ∃ s', s' = sJ t 1086 c (jl (sZ k (fun n => 12 * (φ.1 (6 + 2 * c) n * gz2 φ u 0 n + φ.1 (7 + 2 * c) n * gz2 φ u 1 n)))) := ⟨_, rfl⟩
      have a1' : s'.1 = σ.1 := by rw [hs']; exact a1
      have hm : MFr s' φ := MFr_same h (by unfold gI; rw [a1']) (by unfold gI; rw [a1']) (fun c _ _ => by rw [a1'])
      have hk' : RSp φ s' := RSp_o hk ⟨fun k _ => by unfold gI; rw [a1'], fun c _ => by rw [a1'], fun c hc => by rw [hs', sJ_o (by omega), a2 c (by omega) (by omega) (by omega)]⟩
      have hu' : ∀ j, j < dd φ → gJ s' 1081 (12 * i + j) = jl (u j) := fun j hj => by
        unfold gJ; rw [hs', sJ_o (by decide), a2 1081 (by decide) (by decide) (by decide)]; exact hu j hj
      have e0 := m_goes (N := N) w hk' hi hu' hd12 (v := 0) (n := k) (by omega) hk2
      have e1 := m_goes (N := N) w hk' hi hu' hd12 (v := 1) (n := k) (by omega) hk2
      have e0 : f_X6_goes N (nt (i : Nat)) (0 : Int32) (nt (k : Nat)) s' = some (jl (gz2 φ u 0 k), s') := e0
      have e1 : f_X6_goes N (nt (i : Nat)) (1 : Int32) (nt (k : Nat)) s' = some (jl (gz2 φ u 1 k), s') := e1
      have l0 := MFr_l hm (c := c) (v := 0) (n := k) hc (by omega) hk2
      have l1 := MFr_l hm (c := c) (v := 1) (n := k) hc (by omega) hk2
      have z0 := w.2.2.2.2 (6 + 2 * c) k (by omega) (by omega) (by omega)
      have z1 := w.2.2.2.2 (7 + 2 * c) k (by omega) (by omega) (by omega)
      rw [Nat.add_zero, Nat.add_zero] at l0
      rw [show 6 + 2 * c + 1 = 7 + 2 * c by omega] at l1
      have n14 : (14 : Int32) = nt 14 := rfl
      have hsum : gJ s' 1086 c = jl (sZ k (fun n => 12 * (φ.1 (6 + 2 * c) n * gz2 φ u 0 n + φ.1 (7 + 2 * c) n * gz2 φ u 1 n))) := by rw [hs', gJ_sJ_at]
      show f_X6_layOne_h104 N (fun x2_ σ_ => f_X6_layOne_h90 N (nt (i : Nat)) n x2_ σ_) (nt (i : Nat)) (nt (c : Nat)) (m + 1) (nt (k : Nat)) (sJ t 1086 c (jl (sZ k (fun n => 12 * (φ.1 (6 + 2 * c) n * gz2 φ u 0 n + φ.1 (7 + 2 * c) n * gz2 φ u 1 n))))) = _
      rw [← hs', f_X6_layOne_h104, MFr_n hm, le_f (by omega) (by omega) (by omega), ck_inb (by omega) (by omega) (by omega), e0, n14, n_2, nt_mul, nt_mul, nt_add, ck_inb (by omega) (by omega) (by omega), obd_some, e1, n_1, nt_add, ck_inb (by omega) (by omega) (by omega), obd_some, nat_k (by omega), nat_nt (by omega) (by omega), nat_nt (by omega) (by omega), show ((14 : Int) * (c : Nat) + 2 * (k : Nat)).toNat = 14 * c + 2 * k by omega, show ((14 : Int) * (c : Nat) + 2 * (k : Nat) + 1).toNat = 14 * c + 2 * k + 1 by omega, l0, l1, hsum, long_nt (by omega) (by omega), long_nt (by omega) (by omega), jl_mul, jl_mul, jl_add, j_12, jl_mul, jl_add, bd_eq, ck_inb (by omega) (by omega) (by omega), bd_eq, nt_add, bd_eq, hs', sJ_sJ]
      rfl) (nn φ) 0 N (by omega) (by omega)
    have q1 : f_X6_layOne_h104 N (fun x2_ σ_ => f_X6_layOne_h90 N (nt (i : Nat)) n x2_ σ_) (nt (i : Nat)) (nt (c : Nat)) N (0 : Int32) (sJ t 1086 c (0 : Int64)) = f_X6_layOne_h104 N (fun x2_ σ_ => f_X6_layOne_h90 N (nt (i : Nat)) n x2_ σ_) (nt (i : Nat)) (nt (c : Nat)) (N - nn φ) (nt (nn φ : Nat)) (sJ t 1086 c (jl (wM φ u c))) := q1
    obtain ⟨m2, em2⟩ : ∃ m, N - nn φ = m + 1 := ⟨N - nn φ - 1, by omega⟩
    have hns : gI (sJ t 1086 c (jl (wM φ u c))) 1067 0 = nt (nn φ : Nat) := by
      show gI t 1067 0 = _
      unfold gI; rw [a1]; exact MFr_n h
    rw [em2, f_X6_layOne_h104, hns, le_t (by omega) (by omega) (by omega), n_1, nt_add, bd_eq] at q1
    refine ⟨sJ t 1086 c (jl (wM φ u c)), ?_, ⟨a1, fun c' c1 c2 c3 => by rw [sJ_o c3]; exact a2 c' c1 c2 c3, fun k hk2 => by rw [gJ_sJ_c (by decide)]; exact a3 k hk2⟩, fun e' he' => by rw [gJ_sJ_c (by decide)]; exact b1 e' he', by rw [gJ_sJ_c (by decide)]; exact b2, fun c' hc' => ?_⟩
    · have n3 : (3 : Int32) = nt 3 := rfl
      show f_X6_layOne_h90 N (nt (i : Nat)) (n + 1) (nt (c : Nat)) t = _
      rw [f_X6_layOne_h90, n3, le_f (by omega) (by omega) (by omega), ck_inb (by omega) (by omega) (by omega), nat_k (by omega), bd_eq, q1]
      rfl
    · by_cases q : c' = c
      · rw [q, gJ_sJ_at]
      · rw [gJ_sJ_k q]; exact b3 c' (by omega)) 3 0 N s (by omega) (by omega) ⟨h1, h2, h3, fun c' hc' => absurd hc' (Nat.not_lt_zero _)⟩
  obtain ⟨m3, em3⟩ : ∃ m, N - 3 = m + 1 := ⟨N - 3 - 1, by omega⟩
  have et : f_X6_layOne_h90 N (nt (i : Nat)) N (0 : Int32) s = f_X6_layOne_h90 N (nt (i : Nat)) (N - 3) (nt (3 : Nat)) t := et
  rw [em3, f_X6_layOne_h90, show (3 : Int32) = nt ((3 : Nat) : Int) from rfl, le_t (by omega) (by omega) (by omega)] at et
  refine ⟨t, u, ?_, hM, k2, k3, k4, k1⟩
  unfold f_X6_layOne
  rw [bd_eq, j_0, n_0]
  exact es.trans et
end
