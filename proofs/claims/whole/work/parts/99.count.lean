-- ===== the class counts =====
/-- how many ways a node may go -/
def fr3 (φ : FR) (n : Nat) : Int := ((if φ.1 2 n = 0 ∨ φ.1 2 n = 3 then 1 else 0) + (if φ.1 2 n = 0 then 1 else 0)) + (if φ.1 2 n = 2 then 0 else 1)
def fdm (φ : FR) : Int := sZ (nn φ) (fr3 φ)
theorem fr3_rg (φ : FR) (n : Nat) : 0 ≤ fr3 φ n ∧ fr3 φ n ≤ 3 := by unfold fr3; split <;> split <;> split <;> omega
theorem fdm_rg (φ : FR) : ∀ k : Nat, 0 ≤ sZ k (fr3 φ) ∧ sZ k (fr3 φ) ≤ 3 * k := by
  intro k
  induction k with
  | zero => exact ⟨Int.le_refl _, Int.le_refl _⟩
  | succ k ih =>
    have := fr3_rg φ k
    rw [sZ_s]; omega
noncomputable def aSelf (φ : FR) : Int := 3 * nb φ - (fdm φ - ((dd φ : Int) - rk φ))
noncomputable def aCount (φ : FR) (kept y : Int) : Int := if y = 0 then nn φ else if y = 1 then nb φ else if y = 2 then (if rk φ < dd φ then 1 else 0) else if y = 3 then dd φ else if y = 4 then aSelf φ else if y = 5 then (if rk φ < dd φ then -3 else ((ML φ).length : Int)) else if y = 6 then kept else -2
section
variable {N : Nat} {φ : FR} {pi : Nat → Nat}
theorem s_freedoms (w : WF φ) (hN : 200 ≤ N) {σ : ZS} (hc : CFr σ 0 φ) : f_X2_freedoms N σ = some (nt (fdm φ), σ) := by
  have hw1 := w.1
  have k1 := lp_go (fun n t (x : Int) => f_X2_freedoms_h4 N n (nt x) (nt (t : Nat)) σ) (fun t => sZ t (fr3 φ)) (nn φ) (fun n t ht => by
    have b55 : ∀ x a b c : Int, f_X2_freedoms_b55 N (fun x1_ x2_ σ_ => f_X2_freedoms_h4 N n x1_ x2_ σ_) (nt (t : Nat)) (nt x) (nt a) (nt b) σ = f_X2_freedoms_h4 N n (nt (x + (a + b))) (nt ((t + 1 : Nat) : Int)) σ := fun x a b c => by
      rw [f_X2_freedoms_b55, nt_add, nt_add, bd_eq, n_1, nt_add, bd_eq]; rfl
    have b41 : ∀ x a b : Int, f_X2_freedoms_b41 N (fun x1_ x2_ σ_ => f_X2_freedoms_h4 N n x1_ x2_ σ_) (nt (t : Nat)) (nt x) (nt a) (nt b) σ = f_X2_freedoms_h4 N n (nt (x + (a + b + if φ.1 2 t = 2 then 0 else 1))) (nt ((t + 1 : Nat) : Int)) σ := fun x a b => by
      rw [f_X2_freedoms_b41, s_turns hc w ht, obd_some, nt_add]
      by_cases e : φ.1 2 t = 2
      · rw [if_pos e, n_0, eq_t rfl, b55 _ _ _ 0]
      · rw [if_neg e, n_0, eq_f (by omega) (by omega) (by omega) (by omega) (by omega)]
        exact b55 _ _ 1 0
    have b27 : ∀ x a : Int, f_X2_freedoms_b27 N (fun x1_ x2_ σ_ => f_X2_freedoms_h4 N n x1_ x2_ σ_) (nt (t : Nat)) (nt x) (nt a) σ = f_X2_freedoms_h4 N n (nt (x + (a + (if φ.1 2 t = 0 then 1 else 0) + if φ.1 2 t = 2 then 0 else 1))) (nt ((t + 1 : Nat) : Int)) σ := fun x a => by
      rw [f_X2_freedoms_b27, n_1, s_shifts hc w ht (Or.inr rfl), obd_some, br_p]
      by_cases e : φ.1 2 t = 0
      · rw [if_pos (Or.inl e), if_pos e]
        exact b41 x a 1
      · rw [if_neg (fun h => by rcases h with h | h; exact e h; omega), if_neg e]
        exact b41 x a 0
    rw [f_X2_freedoms_h4, CFr_n hc, le_f (by omega) (by omega) (by omega), n_0, s_shifts hc w ht (Or.inl rfl), obd_some, n_0.symm, br_p, sZ_s, fr3]
    by_cases e : φ.1 2 t = 0 ∨ φ.1 2 t = 3
    · rw [if_pos (by omega), if_pos e]
      exact b27 _ 1
    · rw [if_neg (by omega), if_neg e]
      exact b27 _ 0) (nn φ) 0 N (by omega) (by omega)
  obtain ⟨m, em⟩ : ∃ m, N - nn φ = m + 1 := ⟨N - nn φ - 1, by omega⟩
  have k1 : f_X2_freedoms_h4 N N (0 : Int32) (0 : Int32) σ = f_X2_freedoms_h4 N (N - nn φ) (nt (fdm φ)) (nt (nn φ : Nat)) σ := k1
  unfold f_X2_freedoms
  rw [k1, em, f_X2_freedoms_h4, CFr_n hc, le_t (by omega) (by omega) (by omega)]
theorem c_count (w : WF φ) (hN : 1200 ≤ N) {σ : ZS} (hc : CFr σ 0 φ) (hk : CK φ σ) {y kept : Int} (hy : iR y) (h06 : gI σ 0 6 = nt kept) : ∃ τ, f_X5_count N (nt y) σ = some (nt (aCount φ kept y), τ) ∧ Ask φ σ τ := by
  have hw1 := w.1
  have hw2 := w.2.1
  have n4 : (4 : Int32) = nt 4 := rfl
  have n5 : (5 : Int32) = nt 5 := rfl
  have n6 : (6 : Int32) = nt 6 := rfl
  obtain ⟨hy1, hy2⟩ := id hy
  unfold f_X5_count
  rw [n_2, n5, s_within N y 2 5 hy ⟨by omega, by omega⟩ ⟨by omega, by omega⟩, obd_some, br_p]
  have hne : ∀ (k : Int) {α : Type} (u v : α), y ≠ k → -10 < k → k < 10 → (if nt y = nt k then u else v) = v := fun k α u v h1 h2 h3 => eq_f h1 hy1 hy2 (by omega) (by omega)
  by_cases c1 : 2 ≤ y ∧ y ≤ 5
  · rw [if_pos c1]
    obtain ⟨s, e1, e2, e3⟩ := s_refresh w hN hc hk
    have hcs := frC_fr e3 hc
    have hl := s_isLoose (N := N) w e2
    have hA := Ask_7 e2 e3 (fr7_rf s)
    obtain ⟨_, _, pi, L, h1, h2, h3, h4, h5, h6⟩ := id e2
    rw [e1, obd_some]
    unfold f_X5_count_b13 aCount
    rw [n_0, n_1, n_2, n_3, n4, n5, n6, hne 0 _ _ (by omega) (by omega) (by omega), hne 1 _ _ (by omega) (by omega) (by omega), if_neg (show ¬ y = 0 by omega), if_neg (show ¬ y = 1 by omega)]
    by_cases y2 : y = 2
    · rw [y2, eq_t rfl, if_pos rfl, hl, obd_some, n_0.symm, br_p]
      refine ⟨s, ?_, hA⟩
      by_cases a : rk φ < dd φ
      · rw [if_pos a, if_pos a]
      · rw [if_neg a, if_neg a]; rfl
    rw [hne 2 _ _ y2 (by omega) (by omega), if_neg y2]
    by_cases y3 : y = 3
    · rw [y3, eq_t rfl, if_pos rfl, h1.1]
      exact ⟨s, rfl, hA⟩
    rw [hne 3 _ _ y3 (by omega) (by omega), if_neg y3]
    by_cases y4 : y = 4
    · rw [y4, eq_t rfl, if_pos rfl]
      unfold f_X5_selfStressCount f_X4_looseness
      rw [s_freedoms (N := N) w (by omega) hcs, obd_some, h1.1, h1.2.1, nt_sub, obd_some, CFr_b hcs, n_3, nt_mul, nt_sub, nt_sub, obd_some]
      exact ⟨s, rfl, hA⟩
    rw [hne 4 _ _ y4 (by omega) (by omega), if_neg y4]
    have y5 : y = 5 := by omega
    rw [y5, eq_t rfl, if_pos rfl, hl, obd_some, n_0.symm, br_p, CMe_ML h5, h5.2.2.2.1]
    refine ⟨s, ?_, hA⟩
    by_cases a : rk φ < dd φ
    · rw [if_pos a, if_pos a]; rfl
    · rw [if_neg a, if_neg a]
  · rw [if_neg c1]
    unfold f_X5_count_b13 aCount
    rw [n_0, n_1, n_2, n_3, n4, n5, n6]
    by_cases y0 : y = 0
    · rw [y0, eq_t rfl, if_pos rfl, CFr_n hc]; exact ⟨σ, rfl, Ask_rf hk⟩
    rw [hne 0 _ _ y0 (by omega) (by omega), if_neg y0]
    by_cases y1 : y = 1
    · rw [y1, eq_t rfl, if_pos rfl, CFr_b hc]; exact ⟨σ, rfl, Ask_rf hk⟩
    rw [hne 1 _ _ y1 (by omega) (by omega), if_neg y1, hne 2 _ _ (by omega) (by omega) (by omega), if_neg (show ¬ y = 2 by omega), hne 3 _ _ (by omega) (by omega) (by omega), if_neg (show ¬ y = 3 by omega), hne 4 _ _ (by omega) (by omega) (by omega), if_neg (show ¬ y = 4 by omega), hne 5 _ _ (by omega) (by omega) (by omega), if_neg (show ¬ y = 5 by omega)]
    by_cases y6 : y = 6
    · rw [y6, eq_t rfl, if_pos rfl, h06]; exact ⟨σ, rfl, Ask_rf hk⟩
    rw [hne 6 _ _ y6 (by omega) (by omega), if_neg y6]
    exact ⟨σ, rfl, Ask_rf hk⟩
end
