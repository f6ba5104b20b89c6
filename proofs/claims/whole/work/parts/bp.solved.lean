-- ===== the reference solves the rules, whole =====
theorem nt_bitv {a e : Nat} (ha : a < 2147483648) (he : e < 32) : ((nt (a : Nat) >>> (nt (e : Nat) &&& 31)) &&& nt 1) = nt (if a.testBit e = true then 1 else 0) := by
  rw [nt_shr ha he, show nt 1 = nt ((1 : Nat) : Int) from rfl, nt_and]
  have hb : a.testBit e = (1 &&& (a >>> e) != 0) := rfl
  have h2 : 1 &&& (a >>> e) = (a >>> e) &&& 1 := Nat.and_comm _ _
  have h3 : (a >>> e) &&& 1 ≤ 1 := Nat.and_le_right
  rw [h2] at hb
  by_cases q : (a >>> e) &&& 1 = 0
  · rw [q] at hb ⊢
    rw [hb]; rfl
  · have q1 : (a >>> e) &&& 1 = 1 := by omega
    rw [q1] at hb ⊢
    rw [hb]; rfl
section
variable {N : Nat} {σ : ZS} {φ : FR}
theorem m_bits (hN : 200 ≤ N) {a : Nat} (ha : a < 2147483648) : f_X6_bits N (nt (a : Nat)) σ = some (nt (cn 12 (bt a) : Nat), σ) := by
  have k0 := lp_go (fun n k (x : Int32) => f_X6_bits_h4 N (nt (a : Nat)) n x (nt (k : Nat)) σ) (fun k => nt (cn k (bt a) : Nat)) 12 (fun n k hk => by
    have hc : (cn (k + 1) (bt a) : Int) = (cn k (bt a) : Nat) + (if a.testBit k = true then 1 else 0) := by
      have : cn (k + 1) (bt a) = cn k (bt a) + (if a.testBit k = true then 1 else 0) := cn_s k (bt a)
      rw [this]
      split <;> rfl
    show f_X6_bits_h4 N (nt (a : Nat)) (n + 1) (nt (cn k (bt a) : Nat)) (nt (k : Nat)) σ = f_X6_bits_h4 N (nt (a : Nat)) n (nt (cn (k + 1) (bt a) : Nat)) (nt ((k + 1 : Nat) : Int)) σ
    rw [f_X6_bits_h4, n_12, le_f (by omega) (by omega) (by omega), n_1, nt_bitv ha (by omega), nt_add, bd_eq, nt_add, bd_eq, hc]
    rfl) 12 0 N (by omega) (by omega)
  have k0 : f_X6_bits_h4 N (nt (a : Nat)) N (0 : Int32) (0 : Int32) σ = f_X6_bits_h4 N (nt (a : Nat)) (N - 12) (nt (cn 12 (bt a) : Nat)) (nt 12) σ := k0
  obtain ⟨m, em⟩ : ∃ m, N - 12 = m + 1 := ⟨N - 12 - 1, by omega⟩
  unfold f_X6_bits
  rw [k0, em, f_X6_bits_h4, n_12, le_t (by omega) (by omega) (by omega)]
theorem m_unsets {Cm done : Nat} (hCm : Cm < 32768) : ∀ (j col n : Nat) (s : ZS), col + j ≤ 15 → j ≤ n → (∀ k, col ≤ k → k < col + j → ¬ Cm.testBit k = true) → ∃ s', f_X6_isSolved_h40 N (nt (Cm : Nat)) n (nt (done : Nat)) (nt (col : Nat)) s = f_X6_isSolved_h40 N (nt (Cm : Nat)) (n - j) (nt (done : Nat)) (nt ((col + j : Nat) : Int)) s' ∧ frI s s' ∧ s'.2 = s.2 ∧ (∀ k, col ≤ k → k < col + j → gI s' 1089 k = nt (-1)) ∧ ∀ k, (k < col ∨ col + j ≤ k) → gI s' 1089 k = gI s 1089 k := by
  intro j
  induction j with
  | zero => intro col n s _ _ _; exact ⟨s, rfl, frI_rf s, rfl, fun k a b => by omega, fun _ _ => rfl⟩
  | succ j ih =>
    intro col n s hc hn hu
    obtain ⟨n, rfl⟩ : ∃ m, n = m + 1 := ⟨n - 1, by omega⟩
    obtain ⟨s', e, f1, f2, f3, f4⟩ := ih (col + 1) n (sI s 1089 col (nt (-1))) (by omega) (by omega) (fun k a b => hu k (by omega) (by omega))
    refine ⟨s', ?_, frI_tr frI_told f1, by rw [f2]; rfl, fun k a b => ?_, fun k hk => ?_⟩
    · rw [m_unset hCm (by omega) (hu col (by omega) (by omega)), e, show n + 1 - (j + 1) = n - j by omega, show col + 1 + j = col + (j + 1) by omega]
    · by_cases q : k = col
      · rw [f4 k (by omega), q, gI_sI_at]
      · exact f3 k (by omega) (by omega)
    · rw [f4 k (by omega), gI_sI_k (by omega)]
/-- solved, with sizes -/
def SLV (φ : FR) (s : ZS) (Cm : Nat) (P : Nat → Nat → Int) (pi : Nat → Nat) (B1 B2 : Nat) : Prop := SOL φ s P pi ∧ (∀ k, k < 15 → gI s 1089 k = nt (if Cm.testBit k = true then ((cn k (bt Cm) : Nat) : Int) else -1)) ∧ cn 15 (bt Cm) = dd φ ∧ (∀ k, k < 15 → Cm.testBit k = true → ∀ j, j < dd φ → P (pi (cn k (bt Cm))) j = rcl φ k j) ∧ (dt (dd φ) P).natAbs ≤ B1 ∧ ∀ i k, i < dd φ → k < 15 → (dt (dd φ) (up P (pi i) (rcl φ k))).natAbs ≤ if k < 12 then B1 else B2
theorem m_solStart (w : WF φ) (hN : 400 ≤ N) (hd12 : dd φ ≤ 12) (h10 : gI σ 1067 10 = nt (dd φ : Nat)) (hru : ∀ j col, j < dd φ → col < 15 → gJ σ 1087 (15 * j + col) = jl (rcl φ col j)) (Cm : Nat) : ∃ s, f_X6_isSolved N (nt (Cm : Nat)) σ = f_X6_isSolved_h40 N (nt (Cm : Nat)) N (nt (cn 0 (bt Cm) : Nat)) (nt (0 : Nat)) s ∧ IsA φ s Cm 0 (fun j => 12 + j) (fun i => i) ∧ frI σ s ∧ gI s 1067 10 = nt (dd φ : Nat) := by
  have n15 : (15 : Int32) = nt 15 := rfl
  have k0 := lp_go (fun n k (s : ZS) => f_X6_isSolved_h2 N (nt (Cm : Nat)) n (nt (k : Nat)) s) (fun k => oJ σ 1088 0 k (fun j => gJ σ 1087 j)) (15 * dd φ) (fun n k hk => by
    have h10' : gI (oJ σ 1088 0 k (fun j => gJ σ 1087 j)) 1067 10 = nt (dd φ : Nat) := h10
    have hr : gJ (oJ σ 1088 0 k (fun j => gJ σ 1087 j)) 1087 k = gJ σ 1087 k := by rw [gJ_oJ, if_neg (by omega)]
    rw [f_X6_isSolved_h2, h10', n15, nt_mul, le_f (by omega) (by omega) (by omega), ck_inb (by omega) (by omega) (by omega), nat_k (by omega), hr, bd_eq, ck_inb (by omega) (by omega) (by omega), bd_eq, n_1, nt_add, bd_eq, oJ_s0 σ 1088 k (fun j => gJ σ 1087 j)]
    rfl) (15 * dd φ) 0 N (by omega) (by omega)
  have k0 : f_X6_isSolved_h2 N (nt (Cm : Nat)) N (0 : Int32) (oJ σ 1088 0 0 (fun j => gJ σ 1087 j)) = f_X6_isSolved_h2 N (nt (Cm : Nat)) (N - 15 * dd φ) (nt (15 * dd φ : Nat)) (oJ σ 1088 0 (15 * dd φ) (fun j => gJ σ 1087 j)) := k0
  rw [oJ_0] at k0
  obtain ⟨m, em⟩ : ∃ m, N - 15 * dd φ = m + 1 := ⟨N - 15 * dd φ - 1, by omega⟩
  have h10' : gI (oJ σ 1088 0 (15 * dd φ) (fun j => gJ σ 1087 j)) 1067 10 = nt (dd φ : Nat) := h10
  rw [em, f_X6_isSolved_h2, h10', n15, nt_mul, le_t (by omega) (by omega) (by omega), bd_eq, j_1, n_0] at k0
  have hMx : ∀ i, i < dd φ → ∀ j, j < dd φ → Mx φ (fun j => 12 + j) i j = un i j := fun i _ j _ => by
    show fu φ (12 + i) j = un i j
    unfold fu
    rw [if_neg (by omega), show 12 + i - 12 = i by omega]
  refine ⟨sJ (oJ σ 1088 0 (15 * dd φ) (fun j => gJ σ 1087 j)) 1067 29 (jl 1), ?_, ⟨⟨fun i k hi hk => ?_, ?_, ?_, fun a b _ _ h => h, fun i hi => hi⟩, fun i hi => Or.inr ⟨show 12 ≤ 12 + i by omega, show 12 + i < 12 + dd φ by omega⟩, fun k hk => by omega, Nat.zero_le _, fun k hk => by omega, fun i _ _ => rfl⟩, ⟨fun _ _ => rfl, fun c c1 c2 => by rw [sJ_o c1, oJ_o c2], fun k hk => by rw [gJ_sJ_k hk]; unfold gJ; rw [oJ_o (by decide)]⟩, h10⟩
  · unfold f_X6_isSolved
    exact k0
  · rw [gJ_sJ_c (by decide), gJ_oJ0 (show 15 * i + k < 15 * dd φ by omega), hru i k hi hk]
    have : dt (dd φ) (up (Mx φ (fun j => 12 + j)) i (rcl φ k)) = dt (dd φ) (up un i (rcl φ k)) := dt_congr (fun a ha b hb => by
      unfold up
      by_cases q : a = i
      · rw [if_pos q, if_pos q]
      · rw [if_neg q, if_neg q]; exact hMx a ha b hb)
    rw [this, dt_urow _ hi]
  · rw [gJ_sJ_at, dt_congr (w := un) hMx, dt_un]
  · rw [dt_congr (w := un) hMx, dt_un]; decide
theorem m_isSolved0 (w : WF φ) (hN : 400 ≤ N) (hd12 : dd φ ≤ 12) (h10 : gI σ 1067 10 = nt (dd φ : Nat)) (hru : ∀ j col, j < dd φ → col < 15 → gJ σ 1087 (15 * j + col) = jl (rcl φ col j)) {Cm : Nat} (hCm : Cm < 4096) (hends : ∀ k, k < 12 → Cm.testBit k = true → k < 2 * nb φ) (hcnt : cn 12 (bt Cm) = dd φ) : (Dep φ Cm ∧ ∃ τ, f_X6_isSolved N (nt (Cm : Nat)) σ = some (nt 0, τ) ∧ frI σ τ) ∨ ∃ τ P pi, f_X6_isSolved N (nt (Cm : Nat)) σ = some (nt 1, τ) ∧ SLV φ τ Cm P pi 524288 36700160 ∧ frI σ τ := by
  have n15 : (15 : Int32) = nt 15 := rfl
  obtain ⟨s0, e0, a1, a2, a3⟩ := m_solStart (N := N) w hN hd12 h10 hru Cm
  have hbig : ∀ k, 12 ≤ k → ¬ Cm.testBit k = true := fun k hk q => by
    have h1 := Nat.testBit_lt_two_pow (Nat.lt_of_lt_of_le hCm (show 4096 ≤ 2 ^ k from Nat.le_trans (by decide) (Nat.pow_le_pow_right (by decide) hk)))
    rw [h1] at q; exact absurd q (by decide)
  rcases m_colsA (N := N) w (by omega) hd12 (show Cm < 32768 by omega) hends 12 0 N s0 _ _ (by omega) (by omega) a3 a1 with ⟨d1, τ, d2, d3⟩ | ⟨s1, Y, pi, d1, d2, d3⟩
  · exact Or.inl ⟨d1, τ, e0.trans d2, frI_tr a2 d3⟩
  · right
    obtain ⟨s2, g1, g2, g3, g4, g5⟩ := m_unsets (N := N) (Cm := Cm) (done := cn 12 (bt Cm)) (by omega) 3 12 (N - 12) s1 (by omega) (by omega) (fun k h1 _ => hbig k h1)
    have g1 : f_X6_isSolved_h40 N (nt (Cm : Nat)) (N - 12) (nt (cn 12 (bt Cm) : Nat)) (nt 12) s1 = f_X6_isSolved_h40 N (nt (Cm : Nat)) (N - 12 - 3) (nt (cn 12 (bt Cm) : Nat)) (nt 15) s2 := g1
    obtain ⟨m, em⟩ : ∃ m, N - 12 - 3 = m + 1 := ⟨N - 12 - 3 - 1, by omega⟩
    rw [em, f_X6_isSolved_h40, n15, le_t (by omega) (by omega) (by omega)] at g1
    obtain ⟨b1, b2, b3, b4, b5, b6⟩ := id d2
    have hall : ∀ l, l < dd φ → Y l < 2 * nb φ := fun l hl => by
      obtain ⟨i, hi, rfl⟩ := inj_on b1.2.2.2.1 b1.2.2.2.2 l hl
      obtain ⟨k, k1, k2, k3⟩ := cn_at (bt Cm) 12 i (by omega)
      have := b5 k k1 k2
      rw [k3] at this
      rw [this]
      exact hends k k1 k2
    have hok : ∀ i, i < dd φ → okc φ (ds φ) (Y i) := fun i hi => Or.inl (hall i hi)
    have h15 : cn 15 (bt Cm) = cn 12 (bt Cm) := by
      have f12 : ∀ k, 12 ≤ k → bt Cm k = false := fun k hk => by
        cases hq : bt Cm k with
        | false => rfl
        | true => exact absurd hq (hbig k hk)
      rw [cn_s, cn_s, cn_s, f12 12 (by omega), f12 13 (by omega), f12 14 (by omega)]
      rfl
    refine ⟨s2, Mx φ Y, pi, (e0.trans d1).trans g1, ⟨SOL_o b1 g3, fun k hk => ?_, by rw [h15]; exact hcnt, fun k hk hb j hj => ?_, dt_few w hok, fun i k hi hk => ?_⟩, frI_tr a2 (frI_tr d3 g2)⟩
    · by_cases q : k < 12
      · rw [g5 k (Or.inl q)]; exact b3 k q
      · rw [g4 k (by omega) (by omega), if_neg (hbig k (by omega))]
    · have q : k < 12 := by
        apply Classical.byContradiction
        intro q
        exact hbig k (by omega) hb
      exact IsA_cols w d2 hends q q hb j
    · exact dt_col w (Bm_few w) hok (b1.2.2.2.2 i hi) hk
theorem m_isSolvedL (w : WF φ) (hN : 400 ≤ N) (hd12 : dd φ ≤ 12) (hnb : 0 < nb φ) (h10 : gI σ 1067 10 = nt (dd φ : Nat)) (hru : ∀ j col, j < dd φ → col < 15 → gJ σ 1087 (15 * j + col) = jl (rcl φ col j)) {Cm c : Nat} (hc : c < 3) (hCm : Cm < 32768) (hends : ∀ k, k < 12 → Cm.testBit k = true → k < 2 * nb φ) (hL : ∀ k, 12 ≤ k → k < 15 → (Cm.testBit k = true ↔ k = 12 + c)) (hcnt : cn 12 (bt Cm) + 1 = dd φ) : (Dep φ Cm ∧ ∃ τ, f_X6_isSolved N (nt (Cm : Nat)) σ = some (nt 0, τ) ∧ frI σ τ) ∨ ∃ τ P pi, f_X6_isSolved N (nt (Cm : Nat)) σ = some (nt 1, τ) ∧ SLV φ τ Cm P pi 36700160 2569011200 ∧ frI σ τ := by
  have n15 : (15 : Int32) = nt 15 := rfl
  obtain ⟨s0, e0, a1, a2, a3⟩ := m_solStart (N := N) w hN hd12 h10 hru Cm
  rcases m_colsA (N := N) w (by omega) hd12 hCm hends 12 0 N s0 _ _ (by omega) (by omega) a3 a1 with ⟨d1, τ, d2, d3⟩ | ⟨s1, Y, pi, d1, d2, d3⟩
  · exact Or.inl ⟨d1, τ, e0.trans d2, frI_tr a2 d3⟩
  have hf : ∀ k, 12 ≤ k → k < 15 → k ≠ 12 + c → bt Cm k = false := fun k h1 h2 h3 => by
    cases hq : bt Cm k with
    | false => rfl
    | true => exact absurd ((hL k h1 h2).mp hq) h3
  have hbL : Cm.testBit (12 + c) = true := (hL (12 + c) (by omega) (by omega)).mpr rfl
  have hcn : ∀ j, j ≤ c → cn (12 + j) (bt Cm) = cn 12 (bt Cm) := fun j => by
    induction j with
    | zero => intro _; rfl
    | succ j ih =>
      intro hj
      rw [show 12 + (j + 1) = 12 + j + 1 by omega, cn_s, hf (12 + j) (by omega) (by omega) (by omega), ih (by omega)]
      rfl
  have hcn2 : ∀ j, 12 + c + 1 + j ≤ 15 → cn (12 + c + 1 + j) (bt Cm) = dd φ := fun j => by
    induction j with
    | zero =>
      intro _
      rw [Nat.add_zero, cn_s, hcn c (Nat.le_refl _), if_pos (show bt Cm (12 + c) = true from hbL)]
      exact hcnt
    | succ j ih =>
      intro hj
      rw [show 12 + c + 1 + (j + 1) = 12 + c + 1 + j + 1 by omega, cn_s, hf (12 + c + 1 + j) (by omega) (by omega) (by omega), ih (by omega)]
      rfl
  obtain ⟨b1, b2, b3, b4, b5, b6⟩ := id d2
  have hinj := b1.2.2.2.1
  have hdone : cn 12 (bt Cm) < dd φ := by omega
  -- all slots but the last hold ends
  have hall : ∀ i, i < cn 12 (bt Cm) → Y (pi i) < 2 * nb φ := fun i hi => by
    obtain ⟨k, k1, k2, k3⟩ := cn_at (bt Cm) 12 i hi
    have := b5 k k1 k2
    rw [k3] at this
    rw [this]
    exact hends k k1 k2
  have hslot : ∀ l, l < dd φ → l ≠ pi (cn 12 (bt Cm)) → Y l < 2 * nb φ := fun l hl hne => by
    obtain ⟨i, hi, rfl⟩ := inj_on hinj b1.2.2.2.2 l hl
    refine hall i ?_
    have : i ≠ cn 12 (bt Cm) := fun q => hne (by rw [q])
    omega
  have hokU : ∀ x, okc φ (ds φ) x → ∀ l, l < dd φ → okc φ (ds φ) (upN Y (pi (cn 12 (bt Cm))) x l) := fun x hx l hl => by
    unfold upN
    by_cases q : l = pi (cn 12 (bt Cm))
    · rw [if_pos q]; exact hx
    · rw [if_neg q]; exact Or.inl (hslot l hl q)
  have hrl : rcl φ (12 + c) = pz φ c := by
    funext j
    unfold rcl
    rw [if_neg (by omega), show 12 + c - 12 = c by omega]
  have hpl := b1.2.2.2.2 _ hdone
  have hPb : (dt (dd φ) (Mx φ Y)).natAbs ≤ 67108864 := dt_any w b2
  -- no loads before
  obtain ⟨s2, g1, g2, g3, g4, g5⟩ := m_unsets (N := N) (Cm := Cm) (done := cn 12 (bt Cm)) hCm c 12 (N - 12) s1 (by omega) (by omega) (fun k h1 h2 q => by
    have := (hL k h1 (by omega)).mp q; omega)
  have h102 : gI s2 1067 10 = nt (dd φ : Nat) := by
    unfold gI
    rw [g2.1 1067 (by decide), d3.1 1067 (by decide)]
    exact a3
  have hS2 := SOL_o b1 g3
  obtain ⟨m, em⟩ : ∃ m, N - 12 - c = m + 1 := ⟨N - 12 - c - 1, by omega⟩
  have e1 : f_X6_isSolved N (nt (Cm : Nat)) σ = f_X6_isSolved_h40 N (nt (Cm : Nat)) (m + 1) (nt (cn 12 (bt Cm) : Nat)) (nt ((12 + c : Nat) : Int)) s2 := by
    rw [← em]
    exact (e0.trans d1).trans g1
  have hcolsL : ∀ k, k < 12 + c → Cm.testBit k = true → ∀ j, j < dd φ → Mx φ Y (pi (cn k (bt Cm))) j = rcl φ k j := fun k hk hb j _ => by
    have q : k < 12 := by
      apply Classical.byContradiction
      intro q
      have := (hL k (by omega) (by omega)).mp hb
      omega
    exact IsA_cols w d2 hends q q hb j
  rcases m_colset (N := N) (φ := φ) (by omega) hd12 hCm (show 12 + c < 15 by omega) hbL h102 hS2 (by omega) (Nat.le_trans hPb (by decide)) (fun i hi => by
    have := dt_col w (Bm_any w) b2 (k := pi i) (col := 12 + c) (b1.2.2.2.2 i hi) (by omega)
    exact Nat.le_trans this (by split <;> decide)) (fun i hi1 hi2 q hq hqi k hk => by
    have hie : i = cn 12 (bt Cm) := by omega
    rw [hie, hrl]
    rw [hie] at hqi
    have b := dt_col2 w (Bm_few w) hc hpl (Y := Y) (fun l hl hne => Or.inl (hslot l hl hne)) hq hk hqi
    have b2 : (dt (dd φ) (up (up (Mx φ Y) (pi (cn 12 (bt Cm))) (pz φ c)) q (rcl φ k))).natAbs ≤ 4900 * 524288 := Nat.le_trans b (by split <;> decide)
    exact Nat.le_trans (mul_bd hPb b2) (by decide)) m with ⟨h1, h2⟩ | ⟨a, s3, h1, h2, h3, h4, h5, h6, h7⟩
  · obtain ⟨τ, f1, f2⟩ := h2
    refine Or.inl ⟨dep_of b1.2.2.1 hinj b1.2.2.2.2 (show 12 + c < 15 by omega) hbL hcolsL (by rw [hcn c (Nat.le_refl _)]; omega) (fun i hi1 hi2 => h1 i (by rw [hcn c (Nat.le_refl _)] at hi1; exact hi1) hi2), τ, e1.trans f1, frI_tr a2 (frI_tr d3 (frI_tr g2 f2))⟩
  · right
    have hae : a = cn 12 (bt Cm) := by omega
    subst hae
    obtain ⟨s4, k1, k2, k3, k4, k5⟩ := m_unsets (N := N) (Cm := Cm) (done := cn 12 (bt Cm) + 1) hCm (2 - c) (12 + c + 1) m s3 (by omega) (by omega) (fun k q1 q2 q => by
      have := (hL k (by omega) (by omega)).mp q; omega)
    obtain ⟨m2, em2⟩ : ∃ x, m - (2 - c) = x + 1 := ⟨m - (2 - c) - 1, by omega⟩
    have k1 := (e1.trans h3).trans k1
    rw [em2, f_X6_isSolved_h40, n15, show ((12 + c + 1 + (2 - c) : Nat) : Int) = 15 by omega, le_t (by omega) (by omega) (by omega)] at k1
    have htr : ∀ i, tr2 (cn 12 (bt Cm)) (cn 12 (bt Cm)) i = i := fun i => by
      unfold tr2
      by_cases q : i = cn 12 (bt Cm)
      · rw [if_pos q, q]
      · rw [if_neg q, if_neg q]
    have hpie : (fun i => pi (tr2 (cn 12 (bt Cm)) (cn 12 (bt Cm)) i)) = pi := by
      funext i; rw [htr]
    rw [hpie, hrl] at h4
    refine ⟨s4, up (Mx φ Y) (pi (cn 12 (bt Cm))) (pz φ c), pi, k1, ⟨SOL_o h4 k3, fun k hk => ?_, ?_, fun k hk hb j hj => ?_, ?_, fun i k hi hk => ?_⟩, frI_tr a2 (frI_tr d3 (frI_tr g2 (frI_tr h5 k2)))⟩
    · by_cases q1 : 12 + c + 1 ≤ k
      · rw [k4 k q1 (by omega), if_neg (fun q => by have := (hL k (by omega) hk).mp q; omega)]
      · rw [k5 k (Or.inl (by omega))]
        by_cases q2 : k = 12 + c
        · rw [q2, h6, if_pos hbL, hcn c (Nat.le_refl _)]
        · rw [h7 k q2]
          by_cases q3 : k < 12
          · rw [g5 k (Or.inl q3)]; exact b3 k q3
          · rw [g4 k (by omega) (by omega), if_neg (fun q => by have := (hL k (by omega) hk).mp q; omega)]
    · have := hcn2 (2 - c) (by omega)
      rw [show 12 + c + 1 + (2 - c) = 15 by omega] at this
      exact this
    · by_cases q : k < 12
      · have hlt := cn_up (s := bt Cm) q hb
        rw [up_ne (fun q2 => by have := hinj _ _ (by omega) hdone q2; omega)]
        exact IsA_cols w d2 hends q q hb j
      · have hk2 := (hL k (by omega) hk).mp hb
        rw [hk2, hcn c (Nat.le_refl _), up_at, hrl]
    · refine Nat.le_trans (dt_ld w (B := 524288) hpl hc (fun j hj => ?_)) (by decide)
      rw [← Mx_un]
      exact dt_few w (hokU _ (Or.inr ⟨by omega, by omega⟩))
    · by_cases q : pi i = pi (cn 12 (bt Cm))
      · rw [q, up_up]
        have hsame : up (Mx φ Y) (pi (cn 12 (bt Cm))) (rcl φ k) = up (Mx φ (upN Y (pi (cn 12 (bt Cm))) 0)) (pi (cn 12 (bt Cm))) (rcl φ k) := by
          funext l
          unfold up
          by_cases q2 : l = pi (cn 12 (bt Cm))
          · rw [if_pos q2, if_pos q2]
          · rw [if_neg q2, if_neg q2]
            unfold Mx upN
            rw [if_neg q2]
        rw [hsame]
        refine Nat.le_trans (dt_col w (Bm_few w) (hokU 0 (Or.inl (by omega))) hpl hk) ?_
        split <;> decide
      · refine Nat.le_trans (dt_col2 w (Bm_few w) hc hpl (Y := Y) (fun l hl hne => Or.inl (hslot l hl hne)) (b1.2.2.2.2 i hi) hk q) ?_
        split <;> decide
end
