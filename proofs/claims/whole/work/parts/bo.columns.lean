-- ===== the reference solves the rules: all columns of ends =====
theorem sZ_trunc {f : Nat → Int} {n : Nat} : ∀ m : Nat, n ≤ m → (∀ i, n ≤ i → i < m → f i = 0) → sZ m f = sZ n f := by
  intro m
  induction m with
  | zero => intro h _; obtain rfl : n = 0 := by omega
            rfl
  | succ m ih =>
    intro h hz
    by_cases q : n = m + 1
    · rw [q]
    · rw [sZ_s, ih (by omega) (fun i a b => hz i a (by omega)), hz m (by omega) (by omega), Int.add_zero]
/-- a set as its places -/
def bt (Cm : Nat) : Nat → Bool := fun k => Cm.testBit k
theorem dt_urow (d : Nat) {i : Nat} (hi : i < d) (y : Nat → Int) : dt d (up un i y) = y i := by
  rw [← dt_adj d un i hi y]
  rw [sZ_one (f := fun j => y j * dt d (up un i (un j))) (k := i) hi (fun j hj hji => by
    show y j * dt d (up un i (un j)) = 0
    rw [dt_up_same d un i j hi hj (fun q => hji q.symm), Int.mul_zero])]
  show y i * dt d (up un i (un i)) = y i
  rw [up_self, dt_un, Int.mul_one]
section
variable {N : Nat} {σ : ZS} {φ : FR}
/-- columns of which one is made of others -/
def Dep (φ : FR) (Cm : Nat) : Prop := ∃ y : Nat → Int, (∃ k, k < 15 ∧ y k ≠ 0) ∧ (∀ k, Cm.testBit k = false → y k = 0) ∧ ∀ j, j < dd φ → sZ 15 (fun k => y k * rcl φ k j) = 0
theorem dep_of {P : Nat → Nat → Int} {pi : Nat → Nat} {Cm col : Nat} (hne : dt (dd φ) P ≠ 0) (hi : inj (dd φ) pi) (hb : ∀ i, i < dd φ → pi i < dd φ) (hcol : col < 15) (hbit : Cm.testBit col = true) (hcols : ∀ k, k < col → Cm.testBit k = true → ∀ j, j < dd φ → P (pi (cn k (bt Cm))) j = rcl φ k j) (hdone : cn col (bt Cm) ≤ dd φ) (hz : ∀ i, cn col (bt Cm) ≤ i → i < dd φ → dt (dd φ) (up P (pi i) (rcl φ col)) = 0) : Dep φ Cm := by
  refine ⟨fun k => if k = col then dt (dd φ) P else if k < col ∧ Cm.testBit k = true then - dt (dd φ) (up P (pi (cn k (bt Cm))) (rcl φ col)) else 0, ⟨col, hcol, by
    show (if col = col then dt (dd φ) P else _) ≠ 0
    rw [if_pos rfl]; exact hne⟩, fun k hk => ?_, fun j hj => ?_⟩
  · try dsimp only
    have h1 : k ≠ col := fun q => by rw [q, hbit] at hk; exact absurd hk (by decide)
    rw [if_neg h1, if_neg (fun q => by rw [q.2] at hk; exact absurd hk (by decide))]
  · have h1 : sZ 15 (fun k => (if k = col then dt (dd φ) P else if k < col ∧ Cm.testBit k = true then - dt (dd φ) (up P (pi (cn k (bt Cm))) (rcl φ col)) else 0) * rcl φ k j) = sZ 15 (fun k => (if k = col then dt (dd φ) P * rcl φ col j else 0) + (if k < col ∧ Cm.testBit k = true then - dt (dd φ) (up P (pi (cn k (bt Cm))) (rcl φ col)) * P (pi (cn k (bt Cm))) j else 0)) := sZ_congr (fun k hk => by
      try dsimp only
      by_cases q : k = col
      · rw [if_pos q, if_pos q, if_neg (by omega), q, Int.add_zero]
      · rw [if_neg q, if_neg q, Int.zero_add]
        by_cases q2 : k < col ∧ Cm.testBit k = true
        · rw [if_pos q2, if_pos q2, hcols k q2.1 q2.2 j hj]
        · rw [if_neg q2, if_neg q2, Int.zero_mul])
    try dsimp only
    rw [h1, sZ_add]
    have h2 : sZ 15 (fun k => if k = col then dt (dd φ) P * rcl φ col j else 0) = dt (dd φ) P * rcl φ col j := by
      have hz1 : ∀ i, i < 15 → i ≠ col → (if i = col then dt (dd φ) P * rcl φ col j else 0) = 0 := fun i _ hic => by rw [if_neg hic]
      rw [sZ_one (f := fun k => if k = col then dt (dd φ) P * rcl φ col j else 0) (k := col) hcol hz1]
      rw [if_pos rfl]
    have h3 : sZ 15 (fun k => if k < col ∧ Cm.testBit k = true then - dt (dd φ) (up P (pi (cn k (bt Cm))) (rcl φ col)) * P (pi (cn k (bt Cm))) j else 0) = sZ col (fun k => if bt Cm k = true then (fun i => - dt (dd φ) (up P (pi i) (rcl φ col)) * P (pi i) j) (cn k (bt Cm)) else 0) := by
      rw [sZ_trunc (n := col) 15 (by omega) (fun i h1 h2 => by rw [if_neg (by omega)])]
      refine sZ_congr (fun k hk => ?_)
      try dsimp only
      by_cases q : Cm.testBit k = true
      · rw [if_pos ⟨hk, q⟩, if_pos (show bt Cm k = true from q)]
      · rw [if_neg (fun w => q w.2), if_neg (show ¬ bt Cm k = true from q)]
    have h4 : sZ (dd φ) (fun i => - dt (dd φ) (up P (pi i) (rcl φ col)) * P (pi i) j) = sZ (cn col (bt Cm)) (fun i => - dt (dd φ) (up P (pi i) (rcl φ col)) * P (pi i) j) := sZ_trunc (dd φ) hdone (fun i h1 h2 => by
      rw [hz i h1 h2, Int.neg_zero, Int.zero_mul])
    have h5 := sZ_perm (dd φ) pi (fun l => - dt (dd φ) (up P l (rcl φ col)) * P l j) hi hb
    have h6 : sZ (dd φ) (fun l => - dt (dd φ) (up P l (rcl φ col)) * P l j) = - (dt (dd φ) P * rcl φ col j) := by
      rw [dt_cramer (dd φ) P (rcl φ col) j hj, ← sZ_neg]
      have hng : ∀ l : Nat, l < dd φ → - dt (dd φ) (up P l (rcl φ col)) * P l j = - (dt (dd φ) (up P l (rcl φ col)) * P l j) := fun l _ => Int.neg_mul _ _
      exact sZ_congr hng
    rw [h2, h3, sZ_bits (bt Cm) (fun i => - dt (dd φ) (up P (pi i) (rcl φ col)) * P (pi i) j) col, ← h4]
    have h5 : sZ (dd φ) (fun i => - dt (dd φ) (up P (pi i) (rcl φ col)) * P (pi i) j) = _ := h5
    rw [h5, h6]
    omega
/-- solved for the ends up to a column -/
def IsA (φ : FR) (s : ZS) (Cm col : Nat) (Y pi : Nat → Nat) : Prop := SOL φ s (Mx φ Y) pi ∧ (∀ i, i < dd φ → okc φ (dd φ) (Y i)) ∧ (∀ k, k < col → gI s 1089 k = nt (if Cm.testBit k = true then ((cn k (bt Cm) : Nat) : Int) else -1)) ∧ cn col (bt Cm) ≤ dd φ ∧ (∀ k, k < col → Cm.testBit k = true → Y (pi (cn k (bt Cm))) = k) ∧ ∀ i, cn col (bt Cm) ≤ i → i < dd φ → Y (pi i) = 12 + pi i
theorem rcl_end {e : Nat} (w : WF φ) (he : e < 2 * nb φ) : rcl φ e = Rz φ e := by
  have hw2 := w.2.1
  funext j
  unfold rcl
  rw [if_pos (by omega), if_pos he]
theorem IsA_cols (w : WF φ) {s : ZS} {Cm col : Nat} {Y pi : Nat → Nat} (h : IsA φ s Cm col Y pi) (hends : ∀ k, k < 12 → Cm.testBit k = true → k < 2 * nb φ) {k : Nat} (hk : k < col) (hk12 : k < 12) (hb : Cm.testBit k = true) (j : Nat) : Mx φ Y (pi (cn k (bt Cm))) j = rcl φ k j := by
  have hw2 := w.2.1
  have he := hends k hk12 hb
  rw [rcl_end w he]
  unfold Mx
  rw [h.2.2.2.2.1 k hk hb]
  unfold fu
  rw [if_pos hk12]
theorem m_colsA (w : WF φ) (hN : 200 ≤ N) (hd12 : dd φ ≤ 12) {Cm : Nat} (hCm : Cm < 32768) (hends : ∀ k, k < 12 → Cm.testBit k = true → k < 2 * nb φ) : ∀ (j col n : Nat) (s : ZS) (Y pi : Nat → Nat), col + j = 12 → j ≤ n → gI s 1067 10 = nt (dd φ : Nat) → IsA φ s Cm col Y pi → (Dep φ Cm ∧ ∃ τ, f_X6_isSolved_h40 N (nt (Cm : Nat)) n (nt (cn col (bt Cm) : Nat)) (nt (col : Nat)) s = some (nt 0, τ) ∧ frI s τ) ∨ ∃ s' Y' pi', f_X6_isSolved_h40 N (nt (Cm : Nat)) n (nt (cn col (bt Cm) : Nat)) (nt (col : Nat)) s = f_X6_isSolved_h40 N (nt (Cm : Nat)) (n - j) (nt (cn 12 (bt Cm) : Nat)) (nt 12) s' ∧ IsA φ s' Cm 12 Y' pi' ∧ frI s s' := by
  have hw2 := w.2.1
  intro j
  induction j with
  | zero =>
    intro col n s Y pi hc hn h10 h
    obtain rfl : col = 12 := by omega
    exact Or.inr ⟨s, Y, pi, rfl, h, frI_rf s⟩
  | succ j ih =>
    intro col n s Y pi hc hn h10 h
    obtain ⟨n, rfl⟩ : ∃ m, n = m + 1 := ⟨n - 1, by omega⟩
    obtain ⟨h1, h2, h3, h4, h5, h6⟩ := id h
    have hcs : cn (col + 1) (bt Cm) = cn col (bt Cm) + (if Cm.testBit col = true then 1 else 0) := cn_s col (bt Cm)
    by_cases hbit : Cm.testBit col = true
    · have he := hends col (by omega) hbit
      rw [if_pos hbit] at hcs
      have hMx : ∀ p, up (Mx φ Y) p (rcl φ col) = Mx φ (upN Y p col) := fun p => by rw [rcl_end w he, Mx_up w Y p he]
      have hok : ∀ p i, i < dd φ → okc φ (dd φ) (upN Y p col i) := fun p i hi => okc_up h2 (Or.inl he) i hi
      have hPb : (dt (dd φ) (Mx φ Y)).natAbs ≤ 67108864 := dt_any w h2
      rcases m_colset (N := N) (φ := φ) hN hd12 hCm (by omega) hbit h10 h1 h4 (Nat.le_trans hPb (by decide)) (fun i hi => by
        rw [hMx]
        exact Nat.le_trans (dt_any w (hok _)) (by decide)) (fun i _ hi q hq hqi k hk => by
        rw [hMx]
        have b1 := dt_col w (Bm_any w) (hok (pi i)) hq hk
        have b2 : (dt (dd φ) (up (Mx φ (upN Y (pi i) col)) q (rcl φ k))).natAbs ≤ 70 * 67108864 := Nat.le_trans b1 (by split <;> omega)
        exact Nat.le_trans (mul_bd hPb b2) (by decide)) n with ⟨g1, g2⟩ | ⟨a, τ, a1, a2, g1, g2, g3, g4, g5⟩
      · exact Or.inl ⟨dep_of h1.2.2.1 h1.2.2.2.1 h1.2.2.2.2 (by omega) hbit (fun k hk hb j _ => IsA_cols w h hends hk (by omega) hb j) h4 g1, g2⟩
      · rw [hMx] at g2
        have hinj := h1.2.2.2.1
        have hA : IsA φ τ Cm (col + 1) (upN Y (pi a) col) (fun i => pi (tr2 a (cn col (bt Cm)) i)) := by
          refine ⟨g2, hok _, fun k hk => ?_, by omega, fun k hk hb => ?_, fun i hi1 hi2 => ?_⟩
          · by_cases q : k = col
            · rw [q, g4, if_pos hbit]
            · rw [g5 k q]; exact h3 k (by omega)
          · try dsimp only
            unfold upN
            by_cases q : k = col
            · rw [q, tr2_b, if_pos rfl]
            · have hlt := cn_up (s := bt Cm) (show k < col by omega) hb
              have ht : tr2 a (cn col (bt Cm)) (cn k (bt Cm)) = cn k (bt Cm) := by
                unfold tr2
                rw [if_neg (by omega), if_neg (by omega)]
              rw [ht, if_neg (fun q2 => by have := hinj _ _ (by omega) a2 q2; omega)]
              exact h5 k (by omega) hb
          · try dsimp only
            have ht : tr2 a (cn col (bt Cm)) i ≠ a ∧ cn col (bt Cm) ≤ tr2 a (cn col (bt Cm)) i ∧ tr2 a (cn col (bt Cm)) i < dd φ := by
              unfold tr2
              split
              · omega
              · split <;> omega
            unfold upN
            rw [if_neg (fun q2 => ht.1 (hinj _ _ ht.2.2 a2 q2))]
            exact h6 _ ht.2.1 ht.2.2
        have h10' : gI τ 1067 10 = nt (dd φ : Nat) := by unfold gI; rw [g3.1 1067 (by decide)]; exact h10
        rw [g1]
        rcases ih (col + 1) n τ _ _ (by omega) (by omega) h10' hA with ⟨d1, τ2, d2, d3⟩ | ⟨s', Y', pi', d1, d2, d3⟩
        · rw [hcs] at d2
          exact Or.inl ⟨d1, τ2, d2, frI_tr g3 d3⟩
        · rw [hcs] at d1
          refine Or.inr ⟨s', Y', pi', ?_, d2, frI_tr g3 d3⟩
          rw [show n + 1 - (j + 1) = n - j by omega]
          exact d1
    · rw [if_neg hbit] at hcs
      have hcs : cn (col + 1) (bt Cm) = cn col (bt Cm) := hcs
      have hA : IsA φ (sI s 1089 col (nt (-1))) Cm (col + 1) Y pi := by
        refine ⟨SOL_o h1 rfl, h2, fun k hk => ?_, by omega, fun k hk hb => ?_, fun i hi1 hi2 => h6 i (by omega) hi2⟩
        · by_cases q : k = col
          · rw [q, gI_sI_at, if_neg hbit]
          · rw [gI_sI_k q]; exact h3 k (by omega)
        · have q : k ≠ col := fun q => by rw [q] at hb; exact hbit hb
          exact h5 k (by omega) hb
      rw [m_unset hCm (by omega) hbit]
      have h10' : gI (sI s 1089 col (nt (-1))) 1067 10 = nt (dd φ : Nat) := by rw [gI_sI_c (by decide)]; exact h10
      rcases ih (col + 1) n _ Y pi (by omega) (by omega) h10' hA with ⟨d1, τ2, d2, d3⟩ | ⟨s', Y', pi', d1, d2, d3⟩
      · rw [hcs] at d2
        exact Or.inl ⟨d1, τ2, d2, frI_tr frI_told d3⟩
      · rw [hcs] at d1
        refine Or.inr ⟨s', Y', pi', ?_, d2, frI_tr frI_told d3⟩
        rw [show n + 1 - (j + 1) = n - j by omega]
        exact d1
end
