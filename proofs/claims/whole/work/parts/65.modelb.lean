-- ===== the reference's methods that change the frame =====
section
variable {N : Nat} {σ : ZS} {φ : FR}
theorem m_node (hN : 100 ≤ N) (h : MFr σ φ) (w : WF φ) {x y k : Int} (hx : iR x) (hy : iR y) (hk : iR k) : ∃ τ, f_X6_node N (nt x) (nt y) (nt k) σ = some (nt (oNode φ x y k).1, τ) ∧ Mst (oNode φ x y k).2.2 σ τ (oNode φ x y k).2.1 := by
  have hw := w.1
  unfold f_X6_node oNode
  rw [n_0, n_9, n_3, s_in N x 0 9 hx ⟨by omega, by omega⟩ ⟨by omega, by omega⟩, obd_some, n_0.symm, br_p]
  by_cases e1 : 0 ≤ x ∧ x ≤ 9
  rotate_left
  · rw [if_neg e1, if_neg e1]; exact ⟨σ, rfl, Mst_0 h⟩
  rw [if_pos e1, if_pos e1, n_0, s_in N y 0 9 hy ⟨by omega, by omega⟩ ⟨by omega, by omega⟩, obd_some, n_0.symm, br_p]
  by_cases e2 : 0 ≤ y ∧ y ≤ 9
  rotate_left
  · rw [if_neg e2, if_neg e2]; exact ⟨σ, rfl, Mst_0 h⟩
  rw [if_pos e2, if_pos e2, n_0, s_in N k 0 3 hk ⟨by omega, by omega⟩ ⟨by omega, by omega⟩, obd_some, n_0.symm, br_p]
  by_cases e3 : 0 ≤ k ∧ k ≤ 3
  rotate_left
  · rw [if_neg e3, if_neg e3]; exact ⟨σ, rfl, Mst_0 h⟩
  rw [if_pos e3, if_pos e3]
  have hg : ∀ j, j < nn φ → (nt (φ.1 0 j) = nt x ↔ φ.1 0 j = x) ∧ (nt (φ.1 1 j) = nt y ↔ φ.1 1 j = y) := fun j hj => by
    have := w.2.2.1 j hj
    exact ⟨nt_eq ⟨by omega, by omega⟩ hx, nt_eq ⟨by omega, by omega⟩ hy⟩
  obtain ⟨rE, hrE⟩ : ∃ r, r = f_X6_node_h35 N (nt x) (nt y) (nt k) 1 (nt (nn φ : Nat)) σ := ⟨_, rfl⟩
  have key := lp_any (fun n j => f_X6_node_h35 N (nt x) (nt y) (nt k) n (nt (j : Nat)) σ) (fun n => decide (φ.1 0 n = x ∧ φ.1 1 n = y)) (nn φ) rE (some (nt (-5), σ)) (fun n => by
      rw [hrE, f_X6_node_h35, f_X6_node_h35, MFr_n h, le_t (by omega) (by omega) (by omega), le_t (by omega) (by omega) (by omega)]) (fun n j hj hp => by
      rw [decide_eq_true_eq] at hp
      rw [f_X6_node_h35, MFr_n h, le_f (by omega) (by omega) (by omega), ck_inb (by omega) (by omega) (by omega), nat_k (by omega), MFr_x h hj, MFr_y h hj, if_pos ((hg j hj).1.mpr hp.1), ck_inb (by omega) (by omega) (by omega), if_pos ((hg j hj).2.mpr hp.2), n_m5]) (fun n j hj hp => by
      rw [decide_eq_false_iff_not] at hp
      rw [f_X6_node_h35, MFr_n h, le_f (by omega) (by omega) (by omega), ck_inb (by omega) (by omega) (by omega), nat_k (by omega), MFr_x h hj, MFr_y h hj]
      have e : f_X6_node_b69 N (fun x4_ σ_ => f_X6_node_h35 N (nt x) (nt y) (nt k) n x4_ σ_) (nt x) (nt y) (nt k) (nt (j : Nat)) σ = f_X6_node_h35 N (nt x) (nt y) (nt k) n (nt ((j + 1 : Nat) : Int)) σ := by
        rw [f_X6_node_b69, bd_eq, n_1, nt_add]; rfl
      by_cases e1 : φ.1 0 j = x
      · rw [if_pos ((hg j hj).1.mpr e1), ck_inb (by omega) (by omega) (by omega), if_neg (fun q => hp ⟨e1, (hg j hj).2.mp q⟩), e]
      · rw [if_neg (fun q => e1 ((hg j hj).1.mp q)), e]) (nn φ) 0 N (by omega) (by omega) (fun k hk => by omega)
  have key : f_X6_node_h35 N (nt x) (nt y) (nt k) N (0 : Int32) σ = _ := key
  rw [key]
  by_cases e4 : an (fun n => decide (φ.1 0 n = x ∧ φ.1 1 n = y)) (nn φ) = true
  · rw [if_pos e4, if_pos e4]; exact ⟨σ, rfl, Mst_0 h⟩
  rw [if_neg e4, if_neg e4, hrE, f_X6_node_h35, MFr_n h, le_t (by omega) (by omega) (by omega), n_7]
  by_cases e5 : nn φ < 7
  rotate_left
  · rw [if_neg e5, eq_t (by omega)]; exact ⟨σ, rfl, Mst_0 h⟩
  rw [if_pos e5, eq_f (by omega) (by omega) (by omega) (by omega) (by omega), ck_inb (by omega) (by omega) (by omega), bd_eq, gI_sI_c (by omega), MFr_n h, ck_inb (by omega) (by omega) (by omega), bd_eq, gI_sI_c (by omega), gI_sI_c (by omega), MFr_n h, ck_inb (by omega) (by omega) (by omega), bd_eq, nat_k (by omega)]
  obtain ⟨σ1, e⟩ : ∃ s, s = sI (sI (sI σ 1068 (nn φ) (nt x)) 1069 (nn φ) (nt y)) 1070 (nn φ) (nt k) := ⟨_, rfl⟩
  rw [← e]
  have hn1 : ∀ s : ZS, (∀ c, c ≠ 1074 → s.1 c = σ1.1 c) → gI s 1067 0 = nt (nn φ : Nat) := fun s hs => by
    unfold gI; rw [hs 1067 (by omega), e]
    show gI (sI (sI (sI σ 1068 _ _) 1069 _ _) 1070 _ _) 1067 0 = _
    rw [gI_sI_c (by omega), gI_sI_c (by omega), gI_sI_c (by omega)]; exact h.1
  obtain ⟨s, es, hI⟩ := lp_inv (fun n k s => f_X6_node_h120 N n (nt (k : Nat)) s) (fun j s => s.2 = σ1.2 ∧ (∀ c, c ≠ 1074 → s.1 c = σ1.1 c) ∧ (∀ c v n, c < 3 → v < 2 → n < nn φ → gI s 1074 (14 * c + 2 * n + v) = gI σ 1074 (14 * c + 2 * n + v)) ∧ ∀ c v, c < j → v < 2 → gI s 1074 (14 * c + 2 * nn φ + v) = nt 0) 3 (fun n j s hj q => by
    obtain ⟨q1, q2, q3, q4⟩ := q
    refine ⟨sI (sI s 1074 (14 * j + 2 * nn φ) (nt 0)) 1074 (14 * j + 2 * nn φ + 1) (nt 0), ?_, q1, fun c hc => by rw [sI_o hc, sI_o hc]; exact q2 c hc, fun c v n hc hv hn => ?_, fun c v hc hv => ?_⟩
    · rw [f_X6_node_h120, n_3, le_f (by omega) (by omega) (by omega), n_0, n_1, n_2, n_14, hn1 s q2, nt_mul, nt_mul, nt_add, ck_inb (by omega) (by omega) (by omega), nat_nt (by omega) (by omega), show ((14 : Int) * (j : Nat) + 2 * (nn φ : Nat)).toNat = 14 * j + 2 * nn φ by omega, bd_eq, gI_sI_c (by omega), hn1 s q2, nt_mul, nt_add, nt_add, ck_inb (by omega) (by omega) (by omega), nat_nt (by omega) (by omega), show ((14 : Int) * (j : Nat) + 2 * (nn φ : Nat) + 1).toNat = 14 * j + 2 * nn φ + 1 by omega, bd_eq, nt_add, bd_eq]
      rfl
    · rw [gI_sI_k (by omega), gI_sI_k (by omega)]; exact q3 c v n hc hv hn
    · rw [gI_sI, gI_sI]
      by_cases e6 : c = j
      · subst e6
        by_cases e7 : v = 0
        · subst e7; rw [if_neg (by omega), if_pos ⟨rfl, rfl⟩]
        · rw [if_pos ⟨rfl, by omega⟩]
      · rw [if_neg (by omega), if_neg (by omega)]; exact q4 c v (by omega) hv) 3 0 N σ1 (by omega) (by omega) ⟨rfl, fun _ _ => rfl, fun c v n hc hv hn => by
      rw [e, gI_sI_c (by omega), gI_sI_c (by omega), gI_sI_c (by omega)], fun c v hc => by omega⟩
  obtain ⟨q1, q2, q3, q4⟩ := hI
  have es : f_X6_node_h120 N N (0 : Int32) σ1 = f_X6_node_h120 N (N - 3) (nt 3) s := es
  obtain ⟨n, en⟩ : ∃ n, N - 3 = n + 1 := ⟨N - 3 - 1, by omega⟩
  rw [es, en, f_X6_node_h120, n_3, le_t (by omega) (by omega) (by omega), bd_eq, m_forget hN, obd_some, bd_eq, gI_wI_c (by omega), gI_sI_k (by omega), hn1 s q2, n_1, nt_add, bd_eq, bd_eq]
  have ho : ∀ c, c ≠ 1068 → c ≠ 1069 → c ≠ 1070 → c ≠ 1074 → s.1 c = σ.1 c := fun c c1 c2 c3 c4 => by rw [q2 c c4, e, sI_o c3, sI_o c2, sI_o c1]
  have hr : ∀ f j, f < 3 → gI s (1068 + f) j = if j = nn φ then (if f = 0 then nt x else if f = 1 then nt y else nt k) else gI σ (1068 + f) j := fun f j hf => by
    have : gI s (1068 + f) j = gI σ1 (1068 + f) j := by unfold gI; rw [q2 _ (by omega)]
    rw [this, e]
    rcases (show f = 0 ∨ f = 1 ∨ f = 2 by omega) with rfl | rfl | rfl
    · rw [gI_sI_c (by omega), gI_sI_c (by omega), gI_sI]; simp
    · rw [gI_sI_c (by omega), gI_sI, gI_sI_c (by omega)]; simp
    · rw [gI_sI, gI_sI_c (by omega), gI_sI_c (by omega)]; simp
  refine ⟨_, rfl, ⟨?_, ?_, fun f j hf hj => ?_, fun c v j hc hv hj => ?_⟩, by rw [e] at q1; exact q1, fun c c1 c2 c3 => ?_, fun j j0 j4 j9 => ?_, fun q => absurd q (by simp), fun _ => ⟨?_, fun j hj => ?_⟩, fun q => absurd q (by simp)⟩
  · rw [gI_sI_at]; rfl
  · rw [gI_sI_k (by omega), gI_wI_c (by omega), gI_sI_k (by omega)]
    unfold gI; rw [ho 1067 (by omega) (by omega) (by omega) (by omega)]; exact h.2.1
  · rw [gI_sI_c (by omega), gI_wI_c (by omega), gI_sI_c (by omega)]
    have hj : j < (if f < 3 then nn φ + 1 else if f < 6 then nb φ else 7) := hj
    show gI s (1068 + f) j = nt (if f = 2 ∧ j = nn φ then k else if f = 1 ∧ j = nn φ then y else if f = 0 ∧ j = nn φ then x else φ.1 f j)
    by_cases ef : f < 3
    · rw [if_pos ef] at hj
      rw [hr f j ef]
      by_cases ej : j = nn φ
      · rw [if_pos ej]
        rcases (show f = 0 ∨ f = 1 ∨ f = 2 by omega) with rfl | rfl | rfl <;> simp [ej]
      · rw [if_neg ej, if_neg (by omega), if_neg (by omega), if_neg (by omega)]
        exact h.2.2.1 f j hf (by unfold lf; rw [if_pos ef]; omega)
    · rw [if_neg (by omega), if_neg (by omega), if_neg (by omega)]
      have := h.2.2.1 f j hf (by unfold lf; rw [if_neg ef, if_pos hf]; rw [if_neg ef, if_pos hf] at hj; exact hj)
      rw [← this]; unfold gI; rw [ho _ (by omega) (by omega) (by omega) (by omega)]
  · rw [gI_sI_c (by omega), gI_wI_c (by omega), gI_sI_c (by omega)]
    have hj : j < nn φ + 1 := hj
    show _ = nt (if 6 + 2 * c + v = 2 ∧ j = nn φ then k else if 6 + 2 * c + v = 1 ∧ j = nn φ then y else if 6 + 2 * c + v = 0 ∧ j = nn φ then x else φ.1 (6 + 2 * c + v) j)
    rw [if_neg (by omega), if_neg (by omega), if_neg (by omega)]
    by_cases ej : j = nn φ
    · subst ej
      rw [q4 c v hc hv, (w.2.2.2.2 (6 + 2 * c + v) (nn φ) (by omega) (by omega) (by omega)).2.2 (Nat.le_refl _)]
    · rw [q3 c v j hc hv (by omega)]; exact h.2.2.2 c v j hc hv (by omega)
  · rw [sI_o c1, wI_o c3, sI_o c1, ho c (by omega) (by omega) (by omega) (by omega)]
  · rw [gI_sI_k j0, gI_wI_c (by omega), gI_sI_k j9]
    unfold gI; rw [ho 1067 (by omega) (by omega) (by omega) (by omega)]
  · rw [gI_sI_k (by omega), gI_wI_c (by omega), gI_sI_at]
  · rw [gI_sI_c (by omega), gI_wI, if_pos ⟨rfl, hj⟩]
theorem m_bar (hN : 100 ≤ N) (h : MFr σ φ) (w : WF φ) {x y k : Int} (hx : iR x) (hy : iR y) (hk : iR k) : ∃ τ, f_X6_bar N (nt x) (nt y) (nt k) σ = some (nt (oBar φ x y k).1, τ) ∧ Mst (oBar φ x y k).2.2 σ τ (oBar φ x y k).2.1 := by
  have hw := w.1
  have hw2 := w.2.1
  unfold f_X6_bar oBar
  rw [m_isNode h w hx, obd_some, br_p]
  by_cases e1 : 0 ≤ x ∧ x ≤ nn φ - 1
  rotate_left
  · rw [if_neg e1, if_neg e1]; exact ⟨σ, rfl, Mst_0 h⟩
  rw [if_pos e1, if_pos e1, m_isNode h w hy, obd_some, br_p]
  by_cases e2 : 0 ≤ y ∧ y ≤ nn φ - 1
  rotate_left
  · rw [if_neg e2, if_neg e2]; exact ⟨σ, rfl, Mst_0 h⟩
  have g1 := w.2.2.1 x.toNat (by omega)
  have g2 := w.2.2.1 y.toNat (by omega)
  rw [if_pos e2, if_pos e2, ck_inb (by omega) (by omega) (by omega), ck_inb (by omega) (by omega) (by omega), nat_nt (by omega) (by omega), nat_nt (by omega) (by omega), MFr_x h (by omega), MFr_x h (by omega), nt_sub, bd_eq, ck_inb (by omega) (by omega) (by omega), ck_inb (by omega) (by omega) (by omega), MFr_y h (by omega), MFr_y h (by omega), nt_sub, bd_eq]
  have hX : iR (φ.1 0 y.toNat - φ.1 0 x.toNat) := ⟨by omega, by omega⟩
  have hY : iR (φ.1 1 y.toNat - φ.1 1 x.toNat) := ⟨by omega, by omega⟩
  have hc : ∀ b : Int, (b = 0 ∨ b = 1) → (b = 1 ↔ (φ.1 1 y.toNat - φ.1 1 x.toNat = 0 ∧ 1 ≤ φ.1 0 y.toNat - φ.1 0 x.toNat ∧ φ.1 0 y.toNat - φ.1 0 x.toNat ≤ 4)) → ∀ r, f_X6_bar_b68 N (nt x) (nt y) (nt k) (nt (φ.1 0 y.toNat - φ.1 0 x.toNat)) (nt (φ.1 1 y.toNat - φ.1 1 x.toNat)) (nt b) σ = r → r = (if 1 ≤ k ∧ k ≤ 12 then (if (φ.1 1 y.toNat - φ.1 1 x.toNat = 0 ∧ 1 ≤ φ.1 0 y.toNat - φ.1 0 x.toNat ∧ φ.1 0 y.toNat - φ.1 0 x.toNat ≤ 4) ∨ (φ.1 0 y.toNat - φ.1 0 x.toNat = 0 ∧ 1 ≤ φ.1 1 y.toNat - φ.1 1 x.toNat ∧ φ.1 1 y.toNat - φ.1 1 x.toNat ≤ 4) then f_X6_bar_h118 N (nt x) (nt y) (nt k) N (nt 0) σ else some (nt (-2), σ)) else some (nt (-2), σ)) := by
    intro b hb hb2 r hr
    generalize φ.1 0 y.toNat - φ.1 0 x.toNat = X at *
    generalize φ.1 1 y.toNat - φ.1 1 x.toNat = Y at *
    obtain ⟨hX1, hX2⟩ := id hX
    obtain ⟨hY1, hY2⟩ := id hY
    have f90 : ∀ b2 : Int, (b2 = 0 ∨ b2 = 1) → f_X6_bar_b90 N (nt x) (nt y) (nt k) (nt b) (nt b2) σ = if 1 ≤ k ∧ k ≤ 12 then (if b = 0 ∧ b2 = 0 then some (nt (-2), σ) else f_X6_bar_h118 N (nt x) (nt y) (nt k) N (nt 0) σ) else some (nt (-2), σ) := by
      intro b2 hb3
      unfold f_X6_bar_b90 f_X6_bar_b115
      rw [n_1, n_12, s_in N k 1 12 hk ⟨by omega, by omega⟩ ⟨by omega, by omega⟩, obd_some, br_p, n_0, n_m2]
      by_cases e3 : 1 ≤ k ∧ k ≤ 12
      · rw [if_pos e3, if_pos e3]
        rcases hb with rfl | rfl
        · rcases hb3 with rfl | rfl
          · rw [eq_t rfl, eq_t rfl, if_pos ⟨rfl, rfl⟩]
          · rw [eq_t rfl, eq_f (by omega) (by omega) (by omega) (by omega) (by omega), if_neg (by omega)]
        · rw [eq_f (by omega) (by omega) (by omega) (by omega) (by omega), if_neg (by omega)]
      · rw [if_neg e3, if_neg e3]
    rw [← hr]
    unfold f_X6_bar_b68 f_X6_bar_b89
    rw [n_0, n_1, n_4]
    by_cases e5 : X = 0
    · rw [eq_t e5, s_in N Y 1 4 hY ⟨by omega, by omega⟩ ⟨by omega, by omega⟩, obd_some, n_0.symm, br_p]
      by_cases e6 : 1 ≤ Y ∧ Y ≤ 4
      · rw [if_pos e6, f90 1 (Or.inr rfl)]
        by_cases e3 : 1 ≤ k ∧ k ≤ 12
        · rw [if_pos e3, if_pos e3, if_neg (by omega), if_pos (Or.inr ⟨e5, e6⟩)]; rfl
        · rw [if_neg e3, if_neg e3]
      · rw [if_neg e6, n_0, f90 0 (Or.inl rfl)]
        by_cases e3 : 1 ≤ k ∧ k ≤ 12
        · rw [if_pos e3, if_pos e3]
          by_cases e7 : b = 0
          · rw [if_pos ⟨e7, rfl⟩, if_neg (by omega)]
          · rw [if_neg (by omega), if_pos (by omega)]
        · rw [if_neg e3, if_neg e3]
    · rw [eq_f e5 (by omega) (by omega) (by omega) (by omega), f90 0 (Or.inl rfl)]
      by_cases e3 : 1 ≤ k ∧ k ≤ 12
      · rw [if_pos e3, if_pos e3]
        by_cases e7 : b = 0
        · rw [if_pos ⟨e7, rfl⟩, if_neg (by omega)]
        · rw [if_neg (by omega), if_pos (by omega)]
      · rw [if_neg e3, if_neg e3]
  have hall : ∀ r, r = (if nt (φ.1 1 y.toNat - φ.1 1 x.toNat) = 0 then obd (f_X6_in N (nt (φ.1 0 y.toNat - φ.1 0 x.toNat)) (1 : Int32) (4 : Int32) σ) fun v42 σ43 => (if v42 = 0 then f_X6_bar_b67 N (nt x) (nt y) (nt k) (nt (φ.1 0 y.toNat - φ.1 0 x.toNat)) (nt (φ.1 1 y.toNat - φ.1 1 x.toNat)) σ43 else f_X6_bar_b68 N (nt x) (nt y) (nt k) (nt (φ.1 0 y.toNat - φ.1 0 x.toNat)) (nt (φ.1 1 y.toNat - φ.1 1 x.toNat)) (1 : Int32) σ43) else f_X6_bar_b67 N (nt x) (nt y) (nt k) (nt (φ.1 0 y.toNat - φ.1 0 x.toNat)) (nt (φ.1 1 y.toNat - φ.1 1 x.toNat)) σ) → r = (if 1 ≤ k ∧ k ≤ 12 then (if (φ.1 1 y.toNat - φ.1 1 x.toNat = 0 ∧ 1 ≤ φ.1 0 y.toNat - φ.1 0 x.toNat ∧ φ.1 0 y.toNat - φ.1 0 x.toNat ≤ 4) ∨ (φ.1 0 y.toNat - φ.1 0 x.toNat = 0 ∧ 1 ≤ φ.1 1 y.toNat - φ.1 1 x.toNat ∧ φ.1 1 y.toNat - φ.1 1 x.toNat ≤ 4) then f_X6_bar_h118 N (nt x) (nt y) (nt k) N (nt 0) σ else some (nt (-2), σ)) else some (nt (-2), σ)) := by
    intro r hr
    unfold f_X6_bar_b67 at hr
    obtain ⟨hY1, hY2⟩ := id hY
    rw [n_0, n_1, n_4, s_in N _ 1 4 hX ⟨by omega, by omega⟩ ⟨by omega, by omega⟩, obd_some, n_0.symm, br_p] at hr
    by_cases e5 : φ.1 1 y.toNat - φ.1 1 x.toNat = 0
    · rw [n_0, eq_t e5] at hr
      by_cases e6 : 1 ≤ φ.1 0 y.toNat - φ.1 0 x.toNat ∧ φ.1 0 y.toNat - φ.1 0 x.toNat ≤ 4
      · rw [if_pos e6] at hr
        exact hc 1 (Or.inr rfl) ⟨fun _ => ⟨e5, e6⟩, fun _ => rfl⟩ r hr.symm
      · rw [if_neg e6] at hr
        exact hc 0 (Or.inl rfl) ⟨fun q => by omega, fun q => absurd q.2 e6⟩ r hr.symm
    · rw [n_0, eq_f e5 (by omega) (by omega) (by omega) (by omega)] at hr
      exact hc 0 (Or.inl rfl) ⟨fun q => by omega, fun q => absurd q.1 e5⟩ r hr.symm
  rw [hall _ rfl]
  by_cases e3 : 1 ≤ k ∧ k ≤ 12
  rotate_left
  · rw [if_neg e3, if_neg e3]; exact ⟨σ, rfl, Mst_0 h⟩
  rw [if_pos e3, if_pos e3]
  by_cases e6 : (φ.1 1 y.toNat - φ.1 1 x.toNat = 0 ∧ 1 ≤ φ.1 0 y.toNat - φ.1 0 x.toNat ∧ φ.1 0 y.toNat - φ.1 0 x.toNat ≤ 4) ∨ (φ.1 0 y.toNat - φ.1 0 x.toNat = 0 ∧ 1 ≤ φ.1 1 y.toNat - φ.1 1 x.toNat ∧ φ.1 1 y.toNat - φ.1 1 x.toNat ≤ 4)
  rotate_left
  · rw [if_neg e6, if_neg e6]; exact ⟨σ, rfl, Mst_0 h⟩
  rw [if_pos e6, if_pos e6]
  have hg : ∀ j, j < nb φ → (nt (φ.1 3 j) = nt x ↔ φ.1 3 j = x) ∧ (nt (φ.1 4 j) = nt y ↔ φ.1 4 j = y) := fun j hj => by
    have := w.2.2.2.1 j hj
    exact ⟨nt_eq ⟨by omega, by omega⟩ hx, nt_eq ⟨by omega, by omega⟩ hy⟩
  obtain ⟨rE, hrE⟩ : ∃ r, r = f_X6_bar_h118 N (nt x) (nt y) (nt k) 1 (nt (nb φ : Nat)) σ := ⟨_, rfl⟩
  have key := lp_any (fun n j => f_X6_bar_h118 N (nt x) (nt y) (nt k) n (nt (j : Nat)) σ) (fun n => decide (φ.1 3 n = x ∧ φ.1 4 n = y)) (nb φ) rE (some (nt (-5), σ)) (fun n => by
      rw [hrE, f_X6_bar_h118, f_X6_bar_h118, MFr_b h, le_t (by omega) (by omega) (by omega), le_t (by omega) (by omega) (by omega)]) (fun n j hj hp => by
      rw [decide_eq_true_eq] at hp
      rw [f_X6_bar_h118, MFr_b h, le_f (by omega) (by omega) (by omega), ck_inb (by omega) (by omega) (by omega), nat_k (by omega), MFr_f h hj, MFr_g h hj, if_pos ((hg j hj).1.mpr hp.1), ck_inb (by omega) (by omega) (by omega), if_pos ((hg j hj).2.mpr hp.2), n_m5]) (fun n j hj hp => by
      rw [decide_eq_false_iff_not] at hp
      rw [f_X6_bar_h118, MFr_b h, le_f (by omega) (by omega) (by omega), ck_inb (by omega) (by omega) (by omega), nat_k (by omega), MFr_f h hj, MFr_g h hj]
      have e : f_X6_bar_b152 N (fun x4_ σ_ => f_X6_bar_h118 N (nt x) (nt y) (nt k) n x4_ σ_) (nt x) (nt y) (nt k) (nt (j : Nat)) σ = f_X6_bar_h118 N (nt x) (nt y) (nt k) n (nt ((j + 1 : Nat) : Int)) σ := by
        rw [f_X6_bar_b152, bd_eq, n_1, nt_add]; rfl
      by_cases e1 : φ.1 3 j = x
      · rw [if_pos ((hg j hj).1.mpr e1), ck_inb (by omega) (by omega) (by omega), if_neg (fun q => hp ⟨e1, (hg j hj).2.mp q⟩), e]
      · rw [if_neg (fun q => e1 ((hg j hj).1.mp q)), e]) (nb φ) 0 N (by omega) (by omega) (fun k hk => by omega)
  have key : f_X6_bar_h118 N (nt x) (nt y) (nt k) N (nt 0) σ = _ := key
  rw [key]
  by_cases e4 : an (fun n => decide (φ.1 3 n = x ∧ φ.1 4 n = y)) (nb φ) = true
  · rw [if_pos e4, if_pos e4]; exact ⟨σ, rfl, Mst_0 h⟩
  rw [if_neg e4, if_neg e4, hrE, f_X6_bar_h118, MFr_b h, le_t (by omega) (by omega) (by omega), n_6]
  by_cases e5 : nb φ < 6
  rotate_left
  · rw [if_neg e5, eq_t (by omega)]; exact ⟨σ, rfl, Mst_0 h⟩
  rw [if_pos e5, eq_f (by omega) (by omega) (by omega) (by omega) (by omega), ck_inb (by omega) (by omega) (by omega), bd_eq, gI_sI_c (by omega), MFr_b h, ck_inb (by omega) (by omega) (by omega), bd_eq, gI_sI_c (by omega), gI_sI_c (by omega), MFr_b h, ck_inb (by omega) (by omega) (by omega), bd_eq, nat_k (by omega), bd_eq, m_forget hN, obd_some, bd_eq, gI_wI_c (by omega), gI_sI_k (by omega), gI_sI_c (by omega), gI_sI_c (by omega), gI_sI_c (by omega), MFr_b h, n_1, nt_add, bd_eq, bd_eq]
  refine ⟨_, rfl, ⟨?_, ?_, fun f j hf hj => ?_, fun c v j hc hv hj => ?_⟩, rfl, fun c c1 c2 c3 => ?_, fun j j0 j4 j9 => ?_, fun q => absurd q (by simp), fun _ => ⟨?_, fun j hj => ?_⟩, fun q => absurd q (by simp)⟩
  · rw [gI_sI_k (by omega), gI_wI_c (by omega), gI_sI_k (by omega), gI_sI_c (by omega), gI_sI_c (by omega), gI_sI_c (by omega)]; exact h.1
  · rw [gI_sI_at]; rfl
  · rw [gI_sI_c (by omega), gI_wI_c (by omega), gI_sI_c (by omega)]
    have hj : j < (if f < 3 then nn φ else if f < 6 then nb φ + 1 else 7) := hj
    show _ = nt (if f = 5 ∧ j = nb φ then k else if f = 4 ∧ j = nb φ then y else if f = 3 ∧ j = nb φ then x else φ.1 f j)
    have hz : gI (sI (sI (sI σ 1071 (nb φ) (nt x)) 1072 (nb φ) (nt y)) 1073 (nb φ) (nt k)) (1068 + f) j = if f = 5 ∧ j = nb φ then nt k else if f = 4 ∧ j = nb φ then nt y else if f = 3 ∧ j = nb φ then nt x else gI σ (1068 + f) j := by
      rw [gI_sI, gI_sI, gI_sI]
      by_cases a5 : f = 5 ∧ j = nb φ
      · rw [if_pos a5, if_pos (by omega)]
      · rw [if_neg a5, if_neg (by omega)]
        by_cases a4 : f = 4 ∧ j = nb φ
        · rw [if_pos a4, if_pos (by omega)]
        · rw [if_neg a4, if_neg (by omega)]
          by_cases a3 : f = 3 ∧ j = nb φ
          · rw [if_pos a3, if_pos (by omega)]
          · rw [if_neg a3, if_neg (by omega)]
    rw [hz]
    split
    · rfl
    · split
      · rfl
      · split
        · rfl
        · refine h.2.2.1 f j hf ?_
          unfold lf
          by_cases ef : f < 3
          · rw [if_pos ef] at hj ⊢; exact hj
          · rw [if_neg ef, if_pos hf] at hj ⊢; omega
  · rw [gI_sI_c (by omega), gI_wI_c (by omega), gI_sI_c (by omega), gI_sI_c (by omega), gI_sI_c (by omega), gI_sI_c (by omega)]
    show _ = nt (if 6 + 2 * c + v = 5 ∧ j = nb φ then k else if 6 + 2 * c + v = 4 ∧ j = nb φ then y else if 6 + 2 * c + v = 3 ∧ j = nb φ then x else φ.1 (6 + 2 * c + v) j)
    rw [if_neg (by omega), if_neg (by omega), if_neg (by omega)]
    exact h.2.2.2 c v j hc hv hj
  · rw [sI_o c1, wI_o c3, sI_o c1, sI_o (by omega), sI_o (by omega), sI_o (by omega)]
  · rw [gI_sI_k j4, gI_wI_c (by omega), gI_sI_k j9, gI_sI_c (by omega), gI_sI_c (by omega), gI_sI_c (by omega)]
  · rw [gI_sI_k (by omega), gI_wI_c (by omega), gI_sI_at]
  · rw [gI_sI_c (by omega), gI_wI, if_pos ⟨rfl, hj⟩]
end
