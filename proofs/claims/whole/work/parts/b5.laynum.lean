-- ===== the reference lays its numbers =====
section
variable {N : Nat} {σ : ZS} {φ : FR}
theorem m_layNumbers (w : WF φ) (hN : 200 ≤ N) (h : MFr σ φ) : ∃ τ, f_X6_layNumbers N σ = some ((), τ) ∧ gI τ 1067 10 = nt (dd φ : Nat) ∧ (∀ v n, v < 3 → n < nn φ → gI τ 1076 (7 * v + n) = nt (num φ v n)) ∧ (∀ c, c ≠ 1067 → c ≠ 1075 → c ≠ 1076 → τ.1 c = σ.1 c) ∧ (∀ k, k ≠ 10 → gI τ 1067 k = gI σ 1067 k) ∧ τ.2 = σ.2 := by
  have hw1 := w.1
  obtain ⟨s1, e1, j1, j2, j3, j4⟩ := m_join w hN h (v := 0) (by omega)
  have h1 : MFr s1 φ := MFr_same h (by unfold gI; rw [j3 1067 (by omega)]) (by unfold gI; rw [j3 1067 (by omega)]) (fun c c1 c2 => j3 c (by omega))
  obtain ⟨s2, e2, k1, k2, k3, k4⟩ := m_join w hN h1 (v := 1) (by omega)
  obtain ⟨s3, hs3⟩ : ∃ s3, s3 = sI s2 1067 10 (nt 0) := ⟨_, rfl⟩
  have o3 : ∀ c, c ≠ 1067 → c ≠ 1075 → s3.1 c = σ.1 c := fun c c1 c2 => by rw [hs3, sI_o c1, k3 c c2, j3 c c2]
  have o67 : ∀ k, k ≠ 10 → gI s3 1067 k = gI σ 1067 k := fun k hk => by rw [hs3, gI_sI_k hk]; unfold gI; rw [k3 1067 (by omega), j3 1067 (by omega)]
  have h3 : MFr s3 φ := MFr_same h (o67 0 (by omega)) (o67 4 (by omega)) (fun c c1 c2 => o3 c (by omega) (by omega))
  have hl : ∀ v' n', v' < 2 → n' < nn φ → gI s3 1075 (7 * v' + n') = nt (hdF φ v' n' : Nat) := fun v' n' a b => by
    rw [hs3, gI_sI_c (by omega)]
    rcases (show v' = 0 ∨ v' = 1 by omega) with rfl | rfl
    · rw [k2 _ (by omega)]; exact j1 n' b
    · exact k1 n' b
  obtain ⟨s, e, hI⟩ := lp_inv (fun m v s => f_X6_layNumbers_h17 N m (nt (v : Nat)) s) (fun v s => NS φ s3 v 0 s) 3 (fun m v s hv hs => by
    have hv : v < 3 := hv
    obtain ⟨s', e', hI'⟩ := lp_inv (fun m' n s => f_X6_layNumbers_h24 N (fun x1_ σ_ => f_X6_layNumbers_h17 N m x1_ σ_) (nt (v : Nat)) m' (nt (n : Nat)) s) (fun n s => NS φ s3 v n s) (nn φ) (fun m' n s hn hs => m_num1 w hN h3 hl hv hn _ m' hs) (nn φ) 0 N s (by omega) (by omega) hs
    obtain ⟨m0, em⟩ : ∃ m, N - nn φ = m + 1 := ⟨N - nn φ - 1, by omega⟩
    have e' : f_X6_layNumbers_h24 N (fun x1_ σ_ => f_X6_layNumbers_h17 N m x1_ σ_) (nt (v : Nat)) N (0 : Int32) s = f_X6_layNumbers_h24 N (fun x1_ σ_ => f_X6_layNumbers_h17 N m x1_ σ_) (nt (v : Nat)) (N - nn φ) (nt (nn φ : Nat)) s' := e'
    obtain ⟨q1, q2, q3⟩ := hI'
    refine ⟨s', ?_, by rw [Nat.add_zero, cn_skip w]; exact q1, fun v' n' a b c => q2 v' n' a b (by omega), q3⟩
    rw [f_X6_layNumbers_h17, n_3, le_f (by omega) (by omega) (by omega), e', em, f_X6_layNumbers_h24, MFr_n (NS_M h3 ⟨q1, q2, q3⟩), le_t (by omega) (by omega) (by omega), n_1, nt_add, bd_eq]
    rfl) 3 0 N s3 (by omega) (by omega) ⟨by rw [hs3, gI_sI_at]; rfl, fun v' n' a b c => by omega, fun _ _ _ => rfl, fun _ _ => rfl, rfl⟩
  obtain ⟨q1, q2, q3, q4, q5⟩ := hI
  have e : f_X6_layNumbers_h17 N N (0 : Int32) s3 = f_X6_layNumbers_h17 N (N - 3) (nt 3) s := e
  obtain ⟨m0, em⟩ : ∃ m, N - 3 = m + 1 := ⟨N - 3 - 1, by omega⟩
  refine ⟨s, ?_, q1, fun v n a b => q2 v n a b (Or.inl a), fun c c1 c2 c3 => by rw [q3 c c1 c3, o3 c c1 c2], fun k hk => by rw [q4 k hk, o67 k hk], by rw [q5, hs3]; show s2.2 = _; rw [k4, j4]⟩
  have e1 : f_X6_join N (0 : Int32) σ = _ := e1
  have e2 : f_X6_join N (1 : Int32) s1 = _ := e2
  unfold f_X6_layNumbers
  rw [e1, obd_some, e2, obd_some, show (0 : Int32) = nt 0 from rfl, ← hs3, bd_eq]
  have e : f_X6_layNumbers_h17 N N (nt 0) s3 = _ := e
  rw [e, em, f_X6_layNumbers_h17, n_3, le_t (by omega) (by omega) (by omega)]
end
