-- ===== the reference: held nodes, its count of rest =====
section
variable {N : Nat} {σ : ZS} {φ : FR}
theorem m_isHeld (h : MFr σ φ) (w : WF φ) {n v : Nat} (hn : n < nn φ) (hv : v < 3) : f_X6_isHeld N (nt (n : Nat)) (nt (v : Nat)) σ = some (nt (if hkd φ n v = true then 1 else 0), σ) := by
  have h7 := w.1
  have hk := (w.2.2.1 n hn).2.2.2.2
  unfold f_X6_isHeld f_X6_isHeld_b24 hkd
  have hin : ∀ (x : Option (Int32 × ZS)), ck (inb (nt (n : Nat)) 7) x = x := fun x => ck_inb (by omega) (by omega) (by omega)
  rw [n_0, n_1, n_2, hin, hin, hin, nat_k (by omega), MFr_k h hn]
  have hne : ∀ (a b : Int) {α : Type} (u x : α), a ≠ b → -10 < a → a < 10 → -10 < b → b < 10 → (if nt a = nt b then u else x) = x := fun a b α u x h1 h2 h3 h4 h5 => eq_f h1 (by omega) (by omega) (by omega) (by omega)
  rcases (show v = 0 ∨ v = 1 ∨ v = 2 by omega) with rfl | rfl | rfl
  · rw [eq_t (show ((0 : Nat) : Int) = 0 by omega), if_pos rfl]
    by_cases e1 : φ.1 2 n = 1
    · rw [eq_t e1, if_pos (by rw [decide_eq_true_eq]; exact Or.inl e1)]
    · rw [hne _ _ _ _ e1 (by omega) (by omega) (by omega) (by omega)]
      by_cases e2 : φ.1 2 n = 2
      · rw [eq_t e2, if_pos (by rw [decide_eq_true_eq]; exact Or.inr e2)]
      · rw [hne _ _ _ _ e2 (by omega) (by omega) (by omega) (by omega), if_neg (by rw [decide_eq_true_eq]; omega)]
  · rw [hne _ _ _ _ (show ((1 : Nat) : Int) ≠ 0 by omega) (by omega) (by omega) (by omega) (by omega), eq_t (show ((1 : Nat) : Int) = 1 by omega), if_neg (show ¬ (1 : Nat) = 0 by omega), if_pos rfl]
    by_cases e1 : φ.1 2 n = 0
    · rw [eq_t e1, if_neg (by rw [decide_eq_true_eq]; omega)]
    · rw [hne _ _ _ _ e1 (by omega) (by omega) (by omega) (by omega), if_pos (by rw [decide_eq_true_eq]; exact e1)]
  · rw [hne _ _ _ _ (show ((2 : Nat) : Int) ≠ 0 by omega) (by omega) (by omega) (by omega) (by omega), hne _ _ _ _ (show ((2 : Nat) : Int) ≠ 1 by omega) (by omega) (by omega) (by omega) (by omega), if_neg (show ¬ (2 : Nat) = 0 by omega), if_neg (show ¬ (2 : Nat) = 1 by omega)]
    by_cases e1 : φ.1 2 n = 2
    · rw [eq_t e1, if_pos (by rw [decide_eq_true_eq]; exact e1)]
    · rw [hne _ _ _ _ e1 (by omega) (by omega) (by omega) (by omega), if_neg (by rw [decide_eq_true_eq]; exact e1)]
theorem hkd_fr3 (w : WF φ) {n : Nat} (hn : n < nn φ) : fr3 φ n = ((if hkd φ n 0 = true then 0 else 1) + (if hkd φ n 1 = true then 0 else 1)) + (if hkd φ n 2 = true then 0 else 1) := by
  have hk := (w.2.2.1 n hn).2.2.2.2
  unfold fr3 hkd
  simp only [decide_eq_true_eq]
  rcases (show φ.1 2 n = 0 ∨ φ.1 2 n = 1 ∨ φ.1 2 n = 2 ∨ φ.1 2 n = 3 by omega) with e | e | e | e <;> rw [e] <;> decide
theorem m_restful (w : WF φ) (hN : 200 ≤ N) (h : MFr σ φ) (h10 : gI σ 1067 10 = nt (dd φ : Nat)) (h11 : gI σ 1067 11 = nt (rk φ : Nat)) : f_X6_restful N σ = some (nt (aSelf φ), σ) := by
  have hw1 := w.1
  have k1 := lp_go (fun n t (x : Int) => f_X6_restful_h4 N n (nt x) (nt (t : Nat)) σ) (fun t => sZ t (fr3 φ)) (nn φ) (fun n t ht => by
    have ht : t < nn φ := ht
    have b56 : ∀ x a b : Int, f_X6_restful_b56 N (fun x1_ x2_ σ_ => f_X6_restful_h4 N n x1_ x2_ σ_) (nt (t : Nat)) (nt x) (nt a) (nt b) σ = f_X6_restful_h4 N n (nt (x + (a + b))) (nt ((t + 1 : Nat) : Int)) σ := fun x a b => by
      rw [f_X6_restful_b56, nt_add, nt_add, bd_eq, n_1, nt_add, bd_eq]; rfl
    have b41 : ∀ x a b : Int, f_X6_restful_b41 N (fun x1_ x2_ σ_ => f_X6_restful_h4 N n x1_ x2_ σ_) (nt (t : Nat)) (nt x) (nt a) (nt b) σ = f_X6_restful_h4 N n (nt (x + (a + b + if hkd φ t 2 = true then 0 else 1))) (nt ((t + 1 : Nat) : Int)) σ := fun x a b => by
      rw [f_X6_restful_b41, show (2 : Int32) = nt ((2 : Nat) : Int) from rfl, m_isHeld h w ht (by omega), obd_some, nt_add, br_p]
      by_cases e : hkd φ t 2 = true
      · rw [if_pos e, if_pos e]; exact b56 x (a + b) 0
      · rw [if_neg e, if_neg e]; exact b56 x (a + b) 1
    have b27 : ∀ x a : Int, f_X6_restful_b27 N (fun x1_ x2_ σ_ => f_X6_restful_h4 N n x1_ x2_ σ_) (nt (t : Nat)) (nt x) (nt a) σ = f_X6_restful_h4 N n (nt (x + (a + (if hkd φ t 1 = true then 0 else 1) + if hkd φ t 2 = true then 0 else 1))) (nt ((t + 1 : Nat) : Int)) σ := fun x a => by
      rw [f_X6_restful_b27, show f_X6_isHeld N (nt (t : Nat)) (1 : Int32) σ = f_X6_isHeld N (nt (t : Nat)) (nt ((1 : Nat) : Int)) σ from rfl, m_isHeld h w ht (by omega), obd_some, br_p]
      by_cases e : hkd φ t 1 = true
      · rw [if_pos e, if_pos e]; exact b41 x a 0
      · rw [if_neg e, if_neg e]; exact b41 x a 1
    rw [f_X6_restful_h4, MFr_n h, le_f (by omega) (by omega) (by omega), show f_X6_isHeld N (nt (t : Nat)) (0 : Int32) σ = f_X6_isHeld N (nt (t : Nat)) (nt ((0 : Nat) : Int)) σ from rfl, m_isHeld h w ht (by omega), obd_some, br_p, sZ_s, hkd_fr3 w ht]
    by_cases e : hkd φ t 0 = true
    · rw [if_pos e, if_pos e]; exact b27 _ 0
    · rw [if_neg e, if_neg e]; exact b27 _ 1) (nn φ) 0 N (by omega) (by omega)
  obtain ⟨m, em⟩ : ∃ m, N - nn φ = m + 1 := ⟨N - nn φ - 1, by omega⟩
  have k1 : f_X6_restful_h4 N N (0 : Int32) (0 : Int32) σ = f_X6_restful_h4 N (N - nn φ) (nt (fdm φ)) (nt (nn φ : Nat)) σ := k1
  unfold f_X6_restful
  rw [k1, em, f_X6_restful_h4, MFr_n h, le_t (by omega) (by omega) (by omega), MFr_b h, h10, h11, n_3, nt_mul, nt_sub, nt_sub, nt_sub]
  rfl
end
