-- ===== lists by what stands in them =====
theorem fl_len (s : Nat → Bool) : ∀ n : Nat, ((List.range n).filter s).length = cn n s := by
  intro n
  induction n with
  | zero => rfl
  | succ n ih =>
    rw [List.range_succ, List.filter_append, List.length_append, ih, cn_s]
    congr 1
    by_cases h : s n = true
    · rw [List.filter_cons_of_pos h, if_pos h]; rfl
    · rw [List.filter_cons_of_neg h, if_neg h]; rfl
theorem fl_get (s : Nat → Bool) {k : Nat} (hs : s k = true) : ∀ n : Nat, k < n → ((List.range n).filter s)[cn k s]? = some k := by
  intro n
  induction n with
  | zero => intro h; omega
  | succ n ih =>
    intro h
    rw [List.range_succ, List.filter_append]
    by_cases q : k = n
    · subst q
      rw [List.getElem?_append_right (by rw [fl_len]; exact Nat.le_refl _), fl_len, Nat.sub_self, List.filter_cons_of_pos hs]
      rfl
    · have h1 := ih (by omega)
      rw [List.getElem?_append_left (by
        have h2 := cn_up (s := s) (show k < n by omega) hs
        rw [fl_len]; exact h2)]
      exact h1
theorem fl_asc (s : Nat → Bool) (n : Nat) : ((List.range n).filter s).Pairwise (· < ·) := List.Pairwise.filter s List.pairwise_lt_range
theorem fl_mem (s : Nat → Bool) (n k : Nat) : k ∈ (List.range n).filter s ↔ k < n ∧ s k = true := by
  rw [List.mem_filter, List.mem_range]
section
variable {N : Nat} {σ : ZS} {φ : FR}
theorem IsM_lt (w : WF φ) {s : Nat} (h : IsM φ s) : s < 4096 := by
  have hw2 := w.2.1
  obtain ⟨q, _, rfl⟩ := h
  exact Nat.lt_of_lt_of_le (mq_lt φ q) (Nat.pow_le_pow_right (by decide) (show 2 * nb φ ≤ 12 by omega))
theorem ML_fl (w : WF φ) {seen : Nat → Bool} (h : ∀ k, k < 4096 → (seen k = true ↔ IsM φ k)) : ML φ = (List.range 4096).filter seen := ML_of ⟨fl_asc _ _, fun s => by
  rw [fl_mem]
  constructor
  · intro ⟨h1, h2⟩; exact (h s h1).mp h2
  · intro h1; exact ⟨IsM_lt w h1, (h s (IsM_lt w h1)).mpr h1⟩⟩
/-- a frame's class knows it, in some state -/
theorem ex_CK (w : WF φ) : ∃ τ, CK1 φ τ := by
  obtain ⟨σ, hσ⟩ : ∃ σ : ZS, σ = (fun c k => if c = 2 then (if k = 0 then nt (nn φ) else if k = 1 then nt (nb φ) else nt 0) else if 20 ≤ c ∧ c < 26 then nt (φ.1 (c - 20) k) else if 38 ≤ c ∧ c < 44 then nt (φ.1 (c - 32) k) else nt 0, fun _ _ => jl 0) := ⟨_, rfl⟩
  have hc : CFr σ 0 φ := by
    subst hσ
    refine ⟨rfl, rfl, fun f k hf hk => ?_⟩
    unfold gI cl
    by_cases q : f < 6
    · rw [if_pos q]
      try dsimp only
      rw [if_neg (by omega), if_pos (by omega), show 20 + 6 * 0 + f - 20 = f by omega]
    · rw [if_neg q]
      try dsimp only
      rw [if_neg (by omega), if_neg (by omega), if_pos (by omega), show 32 + 6 * 0 + f - 32 = f by omega]
  have hk : CK φ σ := by
    subst hσ
    exact ⟨0, 0, rfl, rfl, Or.inl rfl, Or.inl rfl, fun h => absurd h (by decide), fun h => absurd h (by decide)⟩
  obtain ⟨τ, _, h1, _⟩ := s_refresh (N := 1200) w (Nat.le_refl _) hc hk
  exact ⟨τ, h1⟩
theorem ex_rk (w : WF φ) : rk φ ≤ dd φ ∧ (rk φ = dd φ → NLF φ) ∧ (ML φ).length ≤ 924 ∧ MLp φ (ML φ) := by
  obtain ⟨τ, _, _, pi, L, _, _, h1, h2, h3, _⟩ := ex_CK w
  have := CMe_ML h3
  exact ⟨h1, h2, by rw [this]; exact h3.2.2.1, by rw [this]; exact ⟨h3.1, h3.2.1⟩⟩
theorem IsM_924 (w : WF φ) : cn 4096 (fun s => cd (IsM φ s)) ≤ 924 := by
  obtain ⟨_, _, h1, h2⟩ := ex_rk w
  rw [← fl_len]
  rw [ML_fl w (seen := fun s => cd (IsM φ s)) (fun k _ => cd_iff)] at h1
  exact h1
/-- the reference's mechanisms, in their cells -/
def RMe (φ : FR) (s : ZS) : Prop := gI s 1067 17 = nt ((ML φ).length : Nat) ∧ ∀ k, k < (ML φ).length → gI s 1080 k = nt (nth (ML φ) k : Nat) ∧ ∃ u, MotM φ u (nth (ML φ) k) ∧ ∀ j, j < dd φ → gJ s 1081 (12 * k + j) = jl (u j)
theorem KM_RMe (w : WF φ) {s : ZS} {seen : Nat → Bool} {M : Nat → Nat → Int} (h : KM φ s seen M) (hs : ∀ k, k < 4096 → (seen k = true ↔ IsM φ k)) : RMe φ s := by
  obtain ⟨h1, _, h3⟩ := h
  have hL := ML_fl w hs
  refine ⟨by rw [hL, fl_len]; exact h1, fun k hk => ?_⟩
  rw [hL, fl_len] at hk
  obtain ⟨i, i1, i2, i3⟩ := cn_at seen 4096 k hk
  have hn : nth (ML φ) k = i := nth_of (by rw [hL, ← i3]; exact fl_get seen i2 4096 i1)
  obtain ⟨b1, b2, b3⟩ := h3 i i1 i2
  rw [hn]
  rw [i3] at b2 b3
  exact ⟨b2, M i, b1, b3⟩
theorem m_layMechanisms (w : WF φ) (hN : 30000 ≤ N) (hA : AMB φ σ) (h11 : gI σ 1067 11 = nt (rk φ : Nat)) : ∃ τ, f_X6_layMechanisms N σ = some ((), τ) ∧ frM σ τ ∧ RMe φ τ := by
  have hw2 := w.2.1
  have hdd := dd_le (φ := φ)
  obtain ⟨hrk, hNL, _, _⟩ := ex_rk w
  have hrl := rk_le (φ := φ)
  have k0 := lp_go (fun n x (s : ZS) => f_X6_layMechanisms_h2 N n (nt (x : Nat)) s) (fun x => wI σ 1082 x (fun _ => nt 0)) 4096 (fun n x hx => by
    have hst : sI (wI σ 1082 x (fun _ => nt 0)) 1082 x (nt 0) = wI σ 1082 (x + 1) (fun _ => nt 0) := wI_s σ 1082 x (fun _ => nt 0)
    rw [f_X6_layMechanisms_h2, n_4096, le_f (by omega) (by omega) (by omega), ck_inb (by omega) (by omega) (by omega), nat_k (by omega), bd_eq, n_1, nt_add, bd_eq, n_0, hst]
    rfl) 4096 0 N (by omega) (by omega)
  have k0 : f_X6_layMechanisms_h2 N N (0 : Int32) (wI σ 1082 0 (fun _ => nt 0)) = f_X6_layMechanisms_h2 N (N - 4096) (nt 4096) (wI σ 1082 4096 (fun _ => nt 0)) := k0
  rw [wI_0] at k0
  obtain ⟨n0, en0⟩ : ∃ m, N - 4096 = m + 1 := ⟨N - 4096 - 1, by omega⟩
  obtain ⟨s0, hs0⟩ : ∃ s0, s0 = sI (wI σ 1082 4096 (fun _ => nt 0)) 1067 17 (nt 0) := ⟨_, rfl⟩
  rw [en0, f_X6_layMechanisms_h2, n_4096, le_t (by omega) (by omega) (by omega), n_0, bd_eq, ← hs0] at k0
  have f0 : frM σ s0 := ⟨fun c a1 _ _ a4 _ => by rw [hs0, sI_o a1, wI_o a4], fun k hk => by rw [hs0, gI_sI_k hk, gI_wI_c (by decide)], fun c _ _ _ => by rw [hs0]; rfl⟩
  have hA0 := AMB_M hA f0
  have hK0 : KM φ s0 (fun _ => false) (fun _ _ => 0) := by
    have hcn : cn 4096 (fun _ => false) = 0 := by
      have : ∀ n, cn n (fun _ => false) = 0 := fun n => by
        induction n with
        | zero => rfl
        | succ n ih => rw [cn_s, ih]; rfl
      exact this 4096
    refine ⟨by rw [hs0, gI_sI_at, hcn]; rfl, fun k hk => ?_, fun k _ h => absurd (show false = true from h) (by decide)⟩
    rw [hs0, gI_sI_c (by decide), gI_wI, if_pos ⟨rfl, hk⟩, if_neg (show ¬ (false = true) by decide)]
  unfold f_X6_layMechanisms
  rw [n_0, k0, hA0.2.1]
  by_cases z : dd φ = 0
  · rw [eq_t (by omega)]
    refine ⟨s0, rfl, f0, KM_RMe w hK0 (fun k _ => ⟨fun h => absurd (show false = true from h) (by decide), fun ⟨q, hq, _⟩ => ?_⟩)⟩
    obtain ⟨j, hj, _⟩ := El_ne hq
    omega
  · rw [eq_f (by omega) (by omega) (by omega) (by omega) (by omega), f0.2.1 11 (by decide), h11]
    by_cases hl : rk φ < dd φ
    · rw [le_f (by omega) (by omega) (by omega)]
      exact ⟨s0, rfl, f0, KM_RMe w hK0 (fun k _ => ⟨fun h => absurd (show false = true from h) (by decide), fun ⟨q, hq, _⟩ => absurd hq (loose_el hl q)⟩)⟩
    · have hre : rk φ = dd φ := by omega
      rw [le_t (by omega) (by omega) (by omega), n_1, nt_sub, bd_eq, ck_inb (by omega) (by omega) (by omega), bd_eq, nt_neg]
      obtain ⟨s1, hs1⟩ : ∃ s1, s1 = sI s0 1083 0 (nt (-1)) := ⟨_, rfl⟩
      have f1 : frM s0 s1 := ⟨fun c _ _ _ _ a5 => by rw [hs1, sI_o a5], fun k _ => by rw [hs1, gI_sI_c (by decide)], fun c _ _ _ => by rw [hs1]; rfl⟩
      have hA1 := AMB_M hA0 f1
      have hK1 : KM φ s1 (fun _ => false) (fun _ _ => 0) := KM_o hK0 (by rw [hs1, gI_sI_c (by decide)]) (by rw [hs1, sI_o (by decide)]) (by rw [hs1, sI_o (by decide)]) (by rw [hs1]; rfl)
      obtain ⟨c, s2, seen, M, g1, g2, g3, _, g5, g6, _⟩ := m_explore (N := N) w (hNL hre) (by omega) (by omega) (m := dd φ - 1) (by omega) (IsM_924 w) (2 * nb φ) 0 0 s1 (fun _ => false) (fun _ _ => 0) (fun _ => 0) (fun _ => 0) (fun _ _ => 0) (by omega) (by omega) hA1 ⟨fun k hk => absurd hk (Nat.not_lt_zero _), fun k hk => absurd hk (Nat.not_lt_zero _)⟩ hK1 (by rw [hs1, gI_sI_at]; rfl)
      have hc : c ≤ 8191 := by
        have h1 : 2 ^ (2 * nb φ + 1) ≤ 2 ^ 13 := Nat.pow_le_pow_right (by decide) (by omega)
        have h2 : (2 : Nat) ^ 13 = 8192 := by decide
        omega
      obtain ⟨n1, en1⟩ : ∃ m, N = m + 1 + c := ⟨N - c - 1, by omega⟩
      have e2 := g2 (n1 + 1) 0 (by omega)
      rw [← en1, f_X6_layMechanisms_h64, n_20000, le_f (by omega) (by omega) (by omega), n_0, lt_t (by omega) (by omega) (by omega)] at e2
      refine ⟨s2, ?_, frM_tr f0 (frM_tr f1 g6), KM_RMe w g3 (fun k _ => ⟨fun h => ?_, fun ⟨q, hq, hk⟩ => ?_⟩)⟩
      · have hz : ((nt 0).toNatClampNeg) = 0 := rfl
        rw [hz, ← hs1, show ((dd φ : Nat) : Int) - 1 = ((dd φ - 1 : Nat) : Int) by omega]
        exact e2
      · obtain ⟨b1, _⟩ := g3.2.2 k (by assumption) h
        exact ⟨_, b1.1, b1.2.1⟩
      · rw [hk]; exact g5 q hq (Dtm_0 hq)
end
