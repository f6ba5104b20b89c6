-- ===== the reference: lift, load, images =====
section
variable {N : Nat} {σ : ZS} {φ : FR}
theorem m_lift (hN : 100 ≤ N) (h : MFr σ φ) (w : WF φ) {b : Int} (hb : iR b) : ∃ τ, f_X6_lift N (nt b) σ = some (nt (oLift φ b).1, τ) ∧ Mst (oLift φ b).2.2 σ τ (oLift φ b).2.1 := by
  have hw2 := w.2.1
  unfold f_X6_lift oLift
  rw [m_isBar h w hb, obd_some, br_p]
  by_cases e1 : 0 ≤ b ∧ b ≤ nb φ - 1
  rotate_left
  · rw [if_neg e1, if_neg e1]; exact ⟨σ, rfl, Mst_0 h⟩
  rw [if_pos e1, if_pos e1, MFr_b h, n_1, nt_sub, bd_eq, bd_eq]
  obtain ⟨B, hB⟩ : ∃ B : Nat, b = B := ⟨b.toNat, by omega⟩
  subst hB
  obtain ⟨m, hm⟩ : ∃ m : Nat, nb φ = m + 1 := ⟨nb φ - 1, by omega⟩
  have hmi : ((nb φ : Nat) : Int) - 1 = (m : Nat) := by omega
  rw [hmi]
  have g1 : ∀ t : ZS, (∀ c, c ≠ 1071 → c ≠ 1072 → c ≠ 1073 → t.1 c = (sI σ 1067 4 (nt (m : Nat))).1 c) → gI t 1067 4 = nt (m : Nat) := fun t ht => by
    unfold gI; rw [ht 1067 (by omega) (by omega) (by omega)]
    exact gI_sI_at σ 1067 4 _
  obtain ⟨s, es, hI⟩ := lp_inv (fun n k s => f_X6_lift_h22 N n (nt (k : Nat)) s) (fun k s => B ≤ k ∧ s.2 = σ.2 ∧ (∀ c, c ≠ 1071 → c ≠ 1072 → c ≠ 1073 → s.1 c = (sI σ 1067 4 (nt (m : Nat))).1 c) ∧ ∀ f j, f < 3 → j < nb φ → gI s (1071 + f) j = nt (if B ≤ j ∧ j < k then φ.1 (3 + f) (j + 1) else φ.1 (3 + f) j)) m (fun n k s hk q => by
      obtain ⟨q0, q1, q2, q3⟩ := q
      have hk : k < m := hk
      have hr : ∀ f, f < 3 → gI s (1071 + f) (k + 1) = nt (φ.1 (3 + f) (k + 1)) := fun f hf => by
        rw [q3 f (k + 1) hf (by omega), if_neg (by omega)]
      have h0 : gI s 1071 (k + 1) = _ := hr 0 (by omega)
      have h4 : gI s 1072 (k + 1) = _ := hr 1 (by omega)
      have h5 : gI s 1073 (k + 1) = _ := hr 2 (by omega)
      rw [f_X6_lift_h22, g1 s q2, le_f (by omega) (by omega) (by omega), n_1, nt_add, nat_nt (by omega) (by omega), show ((k : Int) + 1).toNat = k + 1 by omega, ck_inb (by omega) (by omega) (by omega), bd_eq, ck_inb (by omega) (by omega) (by omega), nat_k (by omega), bd_eq, ck_inb (by omega) (by omega) (by omega), bd_eq, gI_sI_c (by omega), ck_inb (by omega) (by omega) (by omega), bd_eq, ck_inb (by omega) (by omega) (by omega), bd_eq, gI_sI_c (by omega), gI_sI_c (by omega), ck_inb (by omega) (by omega) (by omega), bd_eq, bd_eq, h0, h4, h5]
      refine ⟨_, rfl, by omega, q1, fun c c1 c2 c3 => ?_, fun f j hf hj => ?_⟩
      · rw [sI_o c3, sI_o c2, sI_o c1]; exact q2 c c1 c2 c3
      · have hz : gI (sI (sI (sI s 1071 k (nt (φ.1 3 (k + 1)))) 1072 k (nt (φ.1 4 (k + 1)))) 1073 k (nt (φ.1 5 (k + 1)))) (1071 + f) j = if j = k then nt (φ.1 (3 + f) (k + 1)) else gI s (1071 + f) j := by
          rcases (show f = 0 ∨ f = 1 ∨ f = 2 by omega) with rfl | rfl | rfl
          · rw [gI_sI_c (by omega), gI_sI_c (by omega), gI_sI]; simp
          · rw [gI_sI_c (by omega), gI_sI, gI_sI_c (by omega)]; simp
          · rw [gI_sI, gI_sI_c (by omega), gI_sI_c (by omega)]; simp
        refine Eq.trans hz ?_
        by_cases ej : j = k
        · subst ej; rw [if_pos rfl, if_pos (by omega)]
        · rw [if_neg ej, q3 f j hf hj]
          by_cases e7 : B ≤ j ∧ j < k
          · rw [if_pos e7, if_pos (by omega)]
          · rw [if_neg e7, if_neg (by omega)]) (m - B) B N (sI σ 1067 4 (nt (m : Nat))) (by omega) (by omega) ⟨Nat.le_refl B, rfl, fun _ _ _ _ => rfl, fun f j hf hj => by
        rw [gI_sI_c (by omega), if_neg (by omega)]
        have := h.2.2.1 (3 + f) j (by omega) (by unfold lf; rw [if_neg (by omega), if_pos (by omega)]; exact hj)
        rwa [show 1068 + (3 + f) = 1071 + f by omega] at this⟩
  obtain ⟨_, q1, q2, q3⟩ := hI
  obtain ⟨n, en⟩ : ∃ n, N - (m - B) = n + 1 := ⟨N - (m - B) - 1, by omega⟩
  have es : f_X6_lift_h22 N N (nt (B : Nat)) (sI σ 1067 4 (nt (m : Nat))) = f_X6_lift_h22 N (N - (m - B)) (nt (m : Nat)) s := es
  rw [es, en, f_X6_lift_h22, g1 s q2, le_t (by omega) (by omega) (by omega), bd_eq, m_forget hN, obd_some, gI_wI_c (by omega), gI_sI_k (by omega), g1 s q2]
  have hd : ((delB φ B).2.2 : Nat) = m := by show nb φ - 1 = m; omega
  have ho : ∀ c, c ≠ 1071 → c ≠ 1072 → c ≠ 1073 → c ≠ 1067 → s.1 c = σ.1 c := fun c c1 c2 c3 c4 => by rw [q2 c c1 c2 c3, sI_o c4]
  refine ⟨_, rfl, ⟨?_, ?_, fun f j hf hj => ?_, fun c v j hc hv hj => ?_⟩, by exact q1, fun c c1 c2 c3 => ?_, fun j j0 j4 j9 => ?_, fun q => absurd q (by simp), fun _ => ⟨?_, fun j hj => ?_⟩, fun q => absurd q (by simp)⟩
  · rw [gI_wI_c (by omega), gI_sI_k (by omega)]
    unfold gI; rw [q2 1067 (by omega) (by omega) (by omega)]
    show gI (sI σ 1067 4 _) 1067 0 = _
    rw [gI_sI_k (by omega)]; exact h.1
  · rw [gI_wI_c (by omega), gI_sI_k (by omega), g1 s q2]
    show nt (m : Int) = nt (((delB φ B).2.2 : Nat) : Int)
    rw [hd]
  · rw [gI_wI_c (by omega), gI_sI_c (by omega)]
    have hj : j < (if f < 3 then nn φ else if f < 6 then nb φ - 1 else 7) := hj
    show gI s (1068 + f) j = nt (if 3 ≤ f ∧ f < 6 ∧ B ≤ j ∧ j < nb φ - 1 then φ.1 f (j + 1) else φ.1 f j)
    by_cases ef : 3 ≤ f
    · rw [if_neg (by omega), if_pos hf] at hj
      obtain ⟨f', rfl⟩ : ∃ f', f = 3 + f' := ⟨f - 3, by omega⟩
      rw [show 1068 + (3 + f') = 1071 + f' by omega, q3 f' j (by omega) (by omega)]
      by_cases e7 : B ≤ j ∧ j < m
      · rw [if_pos e7, if_pos ⟨by omega, by omega, by omega, by omega⟩]
      · rw [if_neg e7, if_neg (by omega)]
    · rw [if_neg (by omega)]
      rw [if_pos (by omega)] at hj
      have := h.2.2.1 f j hf (by unfold lf; rw [if_pos (by omega)]; exact hj)
      rw [← this]
      unfold gI
      rw [ho _ (by omega) (by omega) (by omega) (by omega)]
  · rw [gI_wI_c (by omega), gI_sI_c (by omega)]
    show _ = nt (if 3 ≤ 6 + 2 * c + v ∧ 6 + 2 * c + v < 6 ∧ B ≤ j ∧ j < nb φ - 1 then φ.1 (6 + 2 * c + v) (j + 1) else φ.1 (6 + 2 * c + v) j)
    rw [if_neg (by omega)]
    have := h.2.2.2 c v j hc hv hj
    rw [← this]; unfold gI; rw [ho _ (by omega) (by omega) (by omega) (by omega)]
  · rw [wI_o c3, sI_o c1, ho c (by omega) (by omega) (by omega) c1]
  · rw [gI_wI_c (by omega), gI_sI_k j9]
    unfold gI; rw [q2 1067 (by omega) (by omega) (by omega)]
    show gI (sI σ 1067 4 _) 1067 j = _
    rw [gI_sI_k j4]; rfl
  · rw [gI_wI_c (by omega), gI_sI_at]; rfl
  · rw [gI_wI, if_pos ⟨rfl, hj⟩]
theorem m_loaded (h : MFr σ φ) (w : WF φ) {c : Nat} (hc : c < 3) : ∀ n, 100 ≤ n → f_X6_load_h84 N (nt (c : Nat)) n (nt 0) (nt 0) σ = some (nt (lds φ c : Nat), σ) := by
  intro n0 hn0
  have hw := w.1
  have hl : ∀ v k, v < 2 → k < nn φ → -5 ≤ φ.1 (6 + 2 * c + v) k ∧ φ.1 (6 + 2 * c + v) k ≤ 5 := fun v k hv hk => by
    have := w.2.2.2.2 (6 + 2 * c + v) k (by omega) (by omega) (by omega)
    exact ⟨this.1, this.2.1⟩
  have key := lp_go (fun n k (m : Nat) => f_X6_load_h84 N (nt (c : Nat)) n (nt (m : Nat)) (nt (k : Nat)) σ) (fun k => cn k (fun n => decide (φ.1 (6 + 2 * c) n ≠ 0 ∨ φ.1 (7 + 2 * c) n ≠ 0))) (nn φ) (fun n k hk => by
    have q1 := hl 0 k (by omega) hk
    have q2 := hl 1 k (by omega) hk
    have r1 := MFr_l h (c := c) (v := 0) (n := k) hc (by omega) hk
    have r2 := MFr_l h (c := c) (v := 1) (n := k) hc (by omega) hk
    rw [show 6 + 2 * c + 1 = 7 + 2 * c by omega] at q2 r2
    have q1 : -5 ≤ φ.1 (6 + 2 * c) k ∧ φ.1 (6 + 2 * c) k ≤ 5 := q1
    have r1 : gI σ 1074 (14 * c + 2 * k) = nt (φ.1 (6 + 2 * c) k) := r1
    rw [f_X6_load_h84, MFr_n h, le_f (by omega) (by omega) (by omega), n_1, n_2, n_14, nt_mul, nt_mul, nt_add, nt_add, ck_inb (by omega) (by omega) (by omega), nat_nt (by omega) (by omega), nat_nt (by omega) (by omega), show ((14 : Int) * (c : Nat) + 2 * (k : Nat)).toNat = 14 * c + 2 * k by omega, show ((14 : Int) * (c : Nat) + 2 * (k : Nat) + 1).toNat = 14 * c + 2 * k + 1 by omega, ck_inb (by omega) (by omega) (by omega), r1, r2, cn_s]
    have f1 : ∀ m : Nat, f_X6_load_b136 N (fun x2_ x3_ σ_ => f_X6_load_h84 N (nt (c : Nat)) n x2_ x3_ σ_) (nt (c : Nat)) (nt (k : Nat)) (nt (m : Nat)) (nt 0) σ = f_X6_load_h84 N (nt (c : Nat)) n (nt (m : Nat)) (nt ((k + 1 : Nat) : Int)) σ := fun m => by
      rw [f_X6_load_b136, n_1, nt_add, nt_add, bd_eq, bd_eq, show (m : Int) + 0 = m by omega]; rfl
    have f2 : ∀ m : Nat, f_X6_load_b131 N (fun x2_ x3_ σ_ => f_X6_load_h84 N (nt (c : Nat)) n x2_ x3_ σ_) (nt (c : Nat)) (nt (k : Nat)) (nt (m : Nat)) σ = f_X6_load_h84 N (nt (c : Nat)) n (nt ((m + 1 : Nat) : Int)) (nt ((k + 1 : Nat) : Int)) σ := fun m => by
      rw [f_X6_load_b131, f_X6_load_b136, n_1, nt_add, nt_add, bd_eq, bd_eq]; rfl
    rw [n_0, f1, f2]
    by_cases e1 : φ.1 (6 + 2 * c) k = 0
    · rw [eq_t e1]
      by_cases e2 : φ.1 (7 + 2 * c) k = 0
      · rw [eq_t e2, if_neg (by simp [e1, e2])]; rfl
      · rw [eq_f e2 (by omega) (by omega) (by omega) (by omega), if_pos (by simp [e2])]
    · rw [eq_f e1 (by omega) (by omega) (by omega) (by omega), if_pos (by simp [e1])]) (nn φ) 0 n0 (by omega) (by omega)
  have key : f_X6_load_h84 N (nt (c : Nat)) n0 (nt 0) (nt 0) σ = f_X6_load_h84 N (nt (c : Nat)) (n0 - nn φ) (nt (lds φ c : Nat)) (nt (nn φ : Nat)) σ := key
  obtain ⟨n, en⟩ : ∃ n, n0 - nn φ = n + 1 := ⟨n0 - nn φ - 1, by omega⟩
  rw [key, en, f_X6_load_h84, MFr_n h, le_t (by omega) (by omega) (by omega)]
theorem m_load (hN : 100 ≤ N) (h : MFr σ φ) (w : WF φ) {c n a b : Int} (hc : iR c) (hn : iR n) (ha : iR a) (hb : iR b) : ∃ τ, f_X6_load N (nt c) (nt n) (nt a) (nt b) σ = some (nt (oLoad φ c n a b).1, τ) ∧ Mst (oLoad φ c n a b).2.2 σ τ (oLoad φ c n a b).2.1 := by
  have hw := w.1
  unfold f_X6_load oLoad
  rw [m_isNode h w hn, obd_some, br_p]
  by_cases e1 : 0 ≤ n ∧ n ≤ nn φ - 1
  rotate_left
  · rw [if_neg e1, if_neg e1]; exact ⟨σ, rfl, Mst_0 h⟩
  rw [if_pos e1, if_pos e1, n_0, n_2, s_in N c 0 2 hc ⟨by omega, by omega⟩ ⟨by omega, by omega⟩, obd_some, n_0.symm, br_p]
  by_cases e2 : 0 ≤ c ∧ c ≤ 2
  rotate_left
  · rw [if_neg e2, if_neg e2]; exact ⟨σ, rfl, Mst_0 h⟩
  rw [if_pos e2, if_pos e2, n_m5, n_5, s_in N a (-5) 5 ha ⟨by omega, by omega⟩ ⟨by omega, by omega⟩, obd_some, br_p]
  by_cases e3 : -5 ≤ a ∧ a ≤ 5
  rotate_left
  · rw [if_neg e3, if_neg e3]; exact ⟨σ, rfl, Mst_0 h⟩
  rw [if_pos e3, if_pos e3, s_in N b (-5) 5 hb ⟨by omega, by omega⟩ ⟨by omega, by omega⟩, obd_some, br_p]
  by_cases e4 : -5 ≤ b ∧ b ≤ 5
  rotate_left
  · rw [if_neg e4, if_neg e4]; exact ⟨σ, rfl, Mst_0 h⟩
  obtain ⟨C, rfl⟩ : ∃ C : Nat, c = C := ⟨c.toNat, by omega⟩
  obtain ⟨M, rfl⟩ : ∃ M : Nat, n = M := ⟨n.toNat, by omega⟩
  rw [if_pos e4, if_pos e4, n_1, n_14, nt_mul, nt_mul, nt_add, nt_add, ck_inb (by omega) (by omega) (by omega), nat_nt (by omega) (by omega), nat_nt (by omega) (by omega), show ((14 : Int) * (C : Nat) + 2 * (M : Nat)).toNat = 14 * C + 2 * M by omega, show ((14 : Int) * (C : Nat) + 2 * (M : Nat) + 1).toNat = 14 * C + 2 * M + 1 by omega, bd_eq, ck_inb (by omega) (by omega) (by omega), bd_eq, m_forget hN, obd_some, n_0]
  have hm : MFr (wI (sI (sI σ 1074 (14 * C + 2 * M) (nt a)) 1074 (14 * C + 2 * M + 1) (nt b)) 1096 3 fun _ => nt 0) (ldF φ C M a b) := by
    refine ⟨?_, ?_, fun f j hf hj => ?_, fun c v j hc hv hj => ?_⟩
    · rw [gI_wI_c (by omega), gI_sI_c (by omega), gI_sI_c (by omega)]; exact h.1
    · rw [gI_wI_c (by omega), gI_sI_c (by omega), gI_sI_c (by omega)]; exact h.2.1
    · rw [gI_wI_c (by omega), gI_sI_c (by omega), gI_sI_c (by omega)]
      show _ = nt (if f = 7 + 2 * C ∧ j = M then b else if f = 6 + 2 * C ∧ j = M then a else φ.1 f j)
      rw [if_neg (by omega), if_neg (by omega)]
      exact h.2.2.1 f j hf hj
    · rw [gI_wI_c (by omega), gI_sI, gI_sI]
      show _ = nt (if 6 + 2 * c + v = 7 + 2 * C ∧ j = M then b else if 6 + 2 * c + v = 6 + 2 * C ∧ j = M then a else φ.1 (6 + 2 * c + v) j)
      have hj : j < nn φ := hj
      by_cases a5 : 6 + 2 * c + v = 7 + 2 * C ∧ j = M
      · rw [if_pos a5, if_pos (by omega)]
      · rw [if_neg a5, if_neg (by omega)]
        by_cases a4 : 6 + 2 * c + v = 6 + 2 * C ∧ j = M
        · rw [if_pos a4, if_pos (by omega)]
        · rw [if_neg a4, if_neg (by omega)]
          exact h.2.2.2 c v j hc hv hj
  rw [m_loaded hm (WF_load w (by omega) (by omega) e3 e4) (by omega) N hN]
  refine ⟨_, rfl, hm, rfl, fun c c1 c2 c3 => ?_, fun j j0 j4 j9 => ?_, fun q => absurd q (by simp), fun q => absurd q (by simp), fun _ => ⟨?_, fun j hj => ?_⟩⟩
  · rw [wI_o c3, sI_o (by omega), sI_o (by omega)]
  · rw [gI_wI_c (by omega), gI_sI_c (by omega), gI_sI_c (by omega)]
  · rw [gI_wI_c (by omega), gI_sI_c (by omega), gI_sI_c (by omega)]
  · rw [gI_wI, if_pos ⟨rfl, hj⟩]
-- images
def MI (σ : ZS) (K : Nat) (φ : FR) : Prop := gI σ 1104 (83 * K + 81) = nt (nn φ) ∧ gI σ 1104 (83 * K + 82) = nt (nb φ) ∧ (∀ f n, f < 3 → n < nn φ → gI σ 1104 (83 * K + 3 * n + f) = nt (φ.1 f n)) ∧ (∀ f n, f < 3 → n < nb φ → gI σ 1104 (83 * K + 21 + 3 * n + f) = nt (φ.1 (3 + f) n)) ∧ ∀ c v n, c < 3 → v < 2 → n < nn φ → gI σ 1104 (83 * K + 39 + (14 * c + 2 * n + v)) = nt (φ.1 (6 + 2 * c + v) n)
def Im (σ : ZS) (K a b c : Nat) (s : ZS) : Prop := s.2 = σ.2 ∧ (∀ c, c ≠ 1104 → s.1 c = σ.1 c) ∧ (∀ p, ¬ (83 * K ≤ p ∧ p < 83 * K + 81) → gI s 1104 p = gI σ 1104 p) ∧ (∀ f n, f < 3 → n < a → gI s 1104 (83 * K + 3 * n + f) = gI σ (1068 + f) n) ∧ (∀ f n, f < 3 → n < b → gI s 1104 (83 * K + 21 + 3 * n + f) = gI σ (1071 + f) n) ∧ ∀ i, i < c → gI s 1104 (83 * K + 39 + i) = gI σ 1074 i
theorem m_image (hN : 100 ≤ N) {k : Int} (hk : iR k) : (¬ (0 ≤ k ∧ k ≤ 1) → f_X6_image N (nt k) σ = some (nt (-2), σ)) ∧ (0 ≤ k ∧ k ≤ 1 → ∃ s, Im σ k.toNat 7 6 42 s ∧ f_X6_image N (nt k) σ = some (nt 1, sI (sI (sI s 1104 (83 * k.toNat + 81) (gI σ 1067 0)) 1104 (83 * k.toNat + 82) (gI σ 1067 4)) 1105 k.toNat (nt 1))) := by
  unfold f_X6_image
  rw [n_0, n_1, s_in N k 0 1 hk ⟨by omega, by omega⟩ ⟨by omega, by omega⟩, obd_some, n_0.symm, br_p]
  refine ⟨fun e => by rw [if_neg e]; rfl, fun e => ?_⟩
  obtain ⟨K, rfl⟩ : ∃ K : Nat, k = K := ⟨k.toNat, by omega⟩
  rw [if_pos e, n_83, nt_mul, bd_eq, n_0]
  -- nodes
  obtain ⟨s1, e1, i1⟩ := lp_inv (fun n j s => f_X6_image_h19 N (nt (K : Nat)) (nt (83 * (K : Nat))) n (nt (j : Nat)) s) (fun j s => Im σ K j 0 0 s) 7 (fun n j s hj q => by
    obtain ⟨q1, q2, q3, q4, q5, q6⟩ := q
    have r0 : gI s 1068 j = gI σ 1068 j := by unfold gI; rw [q2 _ (by omega)]
    have r1 : gI s 1069 j = gI σ 1069 j := by unfold gI; rw [q2 _ (by omega)]
    have r2 : gI s 1070 j = gI σ 1070 j := by unfold gI; rw [q2 _ (by omega)]
    refine ⟨sI (sI (sI s 1104 (83 * K + 3 * j) (gI σ 1068 j)) 1104 (83 * K + 3 * j + 1) (gI σ 1069 j)) 1104 (83 * K + 3 * j + 2) (gI σ 1070 j), ?_, q1, fun c hc => by rw [sI_o hc, sI_o hc, sI_o hc]; exact q2 c hc, fun p hp => ?_, fun f m hf hm => ?_, fun f m hf hm => by omega, fun i hi => by omega⟩
    · rw [f_X6_image_h19, n_7, le_f (by omega) (by omega) (by omega), n_1, n_2, n_3, nt_mul, nt_add, nt_add, nt_add, nt_add, ck_inb (by omega) (by omega) (by omega), nat_k (by omega), r0, bd_eq, ck_inb (by omega) (by omega) (by omega), nat_nt (by omega) (by omega), show ((83 : Int) * (K : Nat) + 3 * (j : Nat)).toNat = 83 * K + 3 * j by omega, bd_eq, ck_inb (by omega) (by omega) (by omega), gI_sI_c (by omega), r1, bd_eq, ck_inb (by omega) (by omega) (by omega), nat_nt (by omega) (by omega), show ((83 : Int) * (K : Nat) + 3 * (j : Nat) + 1).toNat = 83 * K + 3 * j + 1 by omega, bd_eq, ck_inb (by omega) (by omega) (by omega), gI_sI_c (by omega), gI_sI_c (by omega), r2, bd_eq, ck_inb (by omega) (by omega) (by omega), nat_nt (by omega) (by omega), show ((83 : Int) * (K : Nat) + 3 * (j : Nat) + 2).toNat = 83 * K + 3 * j + 2 by omega, bd_eq, bd_eq]
      rfl
    · rw [gI_sI_k (by omega), gI_sI_k (by omega), gI_sI_k (by omega)]; exact q3 p hp
    · rw [gI_sI, gI_sI, gI_sI]
      by_cases em : m = j
      · subst em
        rcases (show f = 0 ∨ f = 1 ∨ f = 2 by omega) with rfl | rfl | rfl
        · rw [if_neg (by omega), if_neg (by omega), if_pos ⟨rfl, rfl⟩]
        · rw [if_neg (by omega), if_pos ⟨rfl, rfl⟩]
        · rw [if_pos ⟨rfl, rfl⟩]
      · rw [if_neg (by omega), if_neg (by omega), if_neg (by omega)]; exact q4 f m hf (by omega)) 7 0 N σ (by omega) (by omega) ⟨rfl, fun _ _ => rfl, fun _ _ => rfl, fun f m _ hm => by omega, fun f m _ hm => by omega, fun i hi => by omega⟩
  obtain ⟨n1, en1⟩ : ∃ n, N - 7 = n + 1 := ⟨N - 7 - 1, by omega⟩
  have e1 : f_X6_image_h19 N (nt (K : Nat)) (nt (83 * (K : Nat))) N (nt 0) σ = f_X6_image_h19 N (nt (K : Nat)) (nt (83 * (K : Nat))) (N - 7) (nt 7) s1 := e1
  -- bars
  obtain ⟨s2, e2, i2⟩ := lp_inv (fun n j s => f_X6_image_h85 N (nt (K : Nat)) (nt (83 * (K : Nat))) n (nt (j : Nat)) s) (fun j s => Im σ K 7 j 0 s) 6 (fun n j s hj q => by
    obtain ⟨q1, q2, q3, q4, q5, q6⟩ := q
    have r0 : gI s 1071 j = gI σ 1071 j := by unfold gI; rw [q2 _ (by omega)]
    have r1 : gI s 1072 j = gI σ 1072 j := by unfold gI; rw [q2 _ (by omega)]
    have r2 : gI s 1073 j = gI σ 1073 j := by unfold gI; rw [q2 _ (by omega)]
    refine ⟨sI (sI (sI s 1104 (83 * K + 21 + 3 * j) (gI σ 1071 j)) 1104 (83 * K + 21 + 3 * j + 1) (gI σ 1072 j)) 1104 (83 * K + 21 + 3 * j + 2) (gI σ 1073 j), ?_, q1, fun c hc => by rw [sI_o hc, sI_o hc, sI_o hc]; exact q2 c hc, fun p hp => ?_, fun f m hf hm => ?_, fun f m hf hm => ?_, fun i hi => by omega⟩
    · rw [f_X6_image_h85, n_6, le_f (by omega) (by omega) (by omega), n_1, n_3, n_21, n_22, n_23, nt_mul, nt_add, nt_add, nt_add, nt_add, nt_add, nt_add, nt_add, ck_inb (by omega) (by omega) (by omega), nat_k (by omega), r0, bd_eq, ck_inb (by omega) (by omega) (by omega), nat_nt (by omega) (by omega), show ((83 : Int) * (K : Nat) + 21 + 3 * (j : Nat)).toNat = 83 * K + 21 + 3 * j by omega, bd_eq, ck_inb (by omega) (by omega) (by omega), gI_sI_c (by omega), r1, bd_eq, ck_inb (by omega) (by omega) (by omega), nat_nt (by omega) (by omega), show ((83 : Int) * (K : Nat) + 22 + 3 * (j : Nat)).toNat = 83 * K + 21 + 3 * j + 1 by omega, bd_eq, ck_inb (by omega) (by omega) (by omega), gI_sI_c (by omega), gI_sI_c (by omega), r2, bd_eq, ck_inb (by omega) (by omega) (by omega), nat_nt (by omega) (by omega), show ((83 : Int) * (K : Nat) + 23 + 3 * (j : Nat)).toNat = 83 * K + 21 + 3 * j + 2 by omega, bd_eq, bd_eq]
      rfl
    · rw [gI_sI_k (by omega), gI_sI_k (by omega), gI_sI_k (by omega)]; exact q3 p hp
    · rw [gI_sI_k (by omega), gI_sI_k (by omega), gI_sI_k (by omega)]; exact q4 f m hf hm
    · rw [gI_sI, gI_sI, gI_sI]
      by_cases em : m = j
      · subst em
        rcases (show f = 0 ∨ f = 1 ∨ f = 2 by omega) with rfl | rfl | rfl
        · rw [if_neg (by omega), if_neg (by omega), if_pos ⟨rfl, rfl⟩]
        · rw [if_neg (by omega), if_pos ⟨rfl, rfl⟩]
        · rw [if_pos ⟨rfl, rfl⟩]
      · rw [if_neg (by omega), if_neg (by omega), if_neg (by omega)]; exact q5 f m hf (by omega)) 6 0 N s1 (by omega) (by omega) i1
  obtain ⟨n2, en2⟩ : ∃ n, N - 6 = n + 1 := ⟨N - 6 - 1, by omega⟩
  have e2 : f_X6_image_h85 N (nt (K : Nat)) (nt (83 * (K : Nat))) N (nt 0) s1 = f_X6_image_h85 N (nt (K : Nat)) (nt (83 * (K : Nat))) (N - 6) (nt 6) s2 := e2
  -- loads
  obtain ⟨s3, e3, i3⟩ := lp_inv (fun n j s => f_X6_image_h156 N (nt (K : Nat)) (nt (83 * (K : Nat))) n (nt (j : Nat)) s) (fun j s => Im σ K 7 6 j s) 42 (fun n j s hj q => by
    obtain ⟨q1, q2, q3, q4, q5, q6⟩ := q
    have r0 : gI s 1074 j = gI σ 1074 j := by unfold gI; rw [q2 _ (by omega)]
    refine ⟨sI s 1104 (83 * K + 39 + j) (gI σ 1074 j), ?_, q1, fun c hc => by rw [sI_o hc]; exact q2 c hc, fun p hp => ?_, fun f m hf hm => ?_, fun f m hf hm => ?_, fun i hi => ?_⟩
    · rw [f_X6_image_h156, n_42, le_f (by omega) (by omega) (by omega), n_1, show (39 : Int32) = nt 39 from rfl, nt_add, nt_add, nt_add, ck_inb (by omega) (by omega) (by omega), nat_k (by omega), r0, bd_eq, ck_inb (by omega) (by omega) (by omega), nat_nt (by omega) (by omega), show ((83 : Int) * (K : Nat) + 39 + (j : Nat)).toNat = 83 * K + 39 + j by omega, bd_eq, bd_eq]
      rfl
    · rw [gI_sI_k (by omega)]; exact q3 p hp
    · rw [gI_sI_k (by omega)]; exact q4 f m hf hm
    · rw [gI_sI_k (by omega)]; exact q5 f m hf hm
    · rw [gI_sI]
      by_cases em : i = j
      · subst em; rw [if_pos ⟨rfl, rfl⟩]
      · rw [if_neg (by omega)]; exact q6 i (by omega)) 42 0 N s2 (by omega) (by omega) i2
  obtain ⟨n3, en3⟩ : ∃ n, N - 42 = n + 1 := ⟨N - 42 - 1, by omega⟩
  have e3 : f_X6_image_h156 N (nt (K : Nat)) (nt (83 * (K : Nat))) N (nt 0) s2 = f_X6_image_h156 N (nt (K : Nat)) (nt (83 * (K : Nat))) (N - 42) (nt 42) s3 := e3
  refine ⟨s3, i3, ?_⟩
  have g0 : gI s3 1067 0 = gI σ 1067 0 := by unfold gI; rw [i3.2.1 _ (by omega)]
  have g4 : gI s3 1067 4 = gI σ 1067 4 := by unfold gI; rw [i3.2.1 _ (by omega)]
  rw [e1, en1, f_X6_image_h19, n_7, le_t (by omega) (by omega) (by omega), n_0, e2, en2, f_X6_image_h85, n_6, le_t (by omega) (by omega) (by omega), n_0, e3, en3, f_X6_image_h156, n_42, le_t (by omega) (by omega) (by omega), show (81 : Int32) = nt 81 from rfl, show (82 : Int32) = nt 82 from rfl, nt_add, nt_add, bd_eq, ck_inb (by omega) (by omega) (by omega), nat_k (by omega), nat_nt (by omega) (by omega), nat_nt (by omega) (by omega), bd_eq, gI_sI_c (by omega), bd_eq, ck_inb (by omega) (by omega) (by omega), bd_eq, ck_inb (by omega) (by omega) (by omega), bd_eq, g0, g4, show ((83 : Int) * (K : Nat) + 81).toNat = 83 * K + 81 by omega, show ((83 : Int) * (K : Nat) + 82).toNat = 83 * K + 82 by omega]
  rfl
end
