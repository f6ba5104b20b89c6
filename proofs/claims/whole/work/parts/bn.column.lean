-- ===== the reference solves the rules, a column at a time =====
theorem nt_bit1 {α : Type} {a e : Nat} (ha : a < 2147483648) (he : e < 32) (x y : α) : (if ((nt (a : Nat) >>> (nt (e : Nat) &&& 31)) &&& (1 : Int32)) = (1 : Int32) then x else y) = if a.testBit e = true then x else y := by
  have h := nt_bit (α := Bool) ha he true false
  rw [nt_shr ha he, show (1 : Int32) = nt ((1 : Nat) : Int) from rfl, nt_and] at h ⊢
  have h3 : (a >>> e) &&& 1 ≤ 1 := Nat.and_le_right
  by_cases q : (a >>> e) &&& 1 = 0
  · rw [q] at h ⊢
    rw [if_pos (show nt ((0 : Nat) : Int) = 0 from rfl)] at h
    have hb : ¬ a.testBit e = true := fun w => by rw [if_pos w] at h; exact absurd h (by decide)
    rw [if_neg hb, if_neg (by decide)]
  · have q1 : (a >>> e) &&& 1 = 1 := by omega
    rw [q1] at h ⊢
    rw [if_neg (by decide)] at h
    have hb : a.testBit e = true := by
      apply Classical.byContradiction
      intro w
      rw [if_neg w] at h; exact absurd h (by decide)
    rw [if_pos hb, if_pos rfl]
theorem tr2_lt {a b i d : Nat} (ha : a < d) (hb : b < d) (hi : i < d) : tr2 a b i < d := by
  unfold tr2
  split
  · exact hb
  · split
    · exact ha
    · exact hi
theorem tr2_inj {a b i j : Nat} (h : tr2 a b i = tr2 a b j) : i = j := by
  unfold tr2 at h
  split at h <;> split at h <;> (try split at h) <;> (try split at h) <;> omega
theorem tr2_b (a b : Nat) : tr2 a b b = a := by
  unfold tr2
  by_cases q : b = a
  · rw [if_pos q, q]
  · rw [if_neg q, if_pos rfl]
section
variable {N : Nat} {σ : ZS} {φ : FR}
/-- the rules solved for the columns in the slots -/
def SOL (φ : FR) (s : ZS) (P : Nat → Nat → Int) (pi : Nat → Nat) : Prop := (∀ i k, i < dd φ → k < 15 → gJ s 1088 (15 * i + k) = jl (dt (dd φ) (up P (pi i) (rcl φ k)))) ∧ gJ s 1067 29 = jl (dt (dd φ) P) ∧ dt (dd φ) P ≠ 0 ∧ inj (dd φ) pi ∧ ∀ i, i < dd φ → pi i < dd φ
theorem SOL_o {s t : ZS} {P : Nat → Nat → Int} {pi : Nat → Nat} (h : SOL φ s P pi) (e : t.2 = s.2) : SOL φ t P pi := by
  obtain ⟨h1, h2, h3⟩ := h
  exact ⟨fun i k hi hk => by unfold gJ; rw [e]; exact h1 i k hi hk, by unfold gJ; rw [e]; exact h2, h3⟩
/-- what solving leaves -/
def frI (s τ : ZS) : Prop := (∀ c, c ≠ 1089 → τ.1 c = s.1 c) ∧ (∀ c, c ≠ 1067 → c ≠ 1088 → τ.2 c = s.2 c) ∧ ∀ k, k ≠ 29 → gJ τ 1067 k = gJ s 1067 k
theorem frI_rf (s : ZS) : frI s s := ⟨fun _ _ => rfl, fun _ _ _ => rfl, fun _ _ => rfl⟩
theorem frI_tr {a b c : ZS} (h : frI a b) (h2 : frI b c) : frI a c := ⟨fun k hk => (h2.1 k hk).trans (h.1 k hk), fun k a1 a2 => (h2.2.1 k a1 a2).trans (h.2.1 k a1 a2), fun k hk => (h2.2.2 k hk).trans (h.2.2 k hk)⟩
theorem frI_told {s : ZS} {k : Nat} {v : Int32} : frI s (sI s 1089 k v) := ⟨fun c hc => sI_o hc, fun _ _ _ => rfl, fun _ _ => rfl⟩
theorem m_unset {Cm col done : Nat} (hCm : Cm < 32768) (hcol : col < 15) (hbit : ¬ Cm.testBit col = true) (n : Nat) (s : ZS) : f_X6_isSolved_h40 N (nt (Cm : Nat)) (n + 1) (nt (done : Nat)) (nt (col : Nat)) s = f_X6_isSolved_h40 N (nt (Cm : Nat)) n (nt (done : Nat)) (nt ((col + 1 : Nat) : Int)) (sI s 1089 col (nt (-1))) := by
  have n15 : (15 : Int32) = nt 15 := rfl
  rw [f_X6_isSolved_h40, n15, le_f (by omega) (by omega) (by omega), ck_inb (by omega) (by omega) (by omega), nat_k (by omega), bd_eq, nt_bit1 (by omega) (by omega), if_neg hbit, f_X6_isSolved_b131, n_1, nt_add, bd_eq, nt_neg]
  rfl
theorem m_colset (hN : 200 ≤ N) (hd12 : dd φ ≤ 12) {Cm col done : Nat} (hCm : Cm < 32768) (hcol : col < 15) (hbit : Cm.testBit col = true) {s : ZS} {P : Nat → Nat → Int} {pi : Nat → Nat} (h10 : gI s 1067 10 = nt (dd φ : Nat)) (hS : SOL φ s P pi) (hdone : done ≤ dd φ) (hPb : (dt (dd φ) P).natAbs ≤ 4000000000000000000) (hbe : ∀ i, i < dd φ → (dt (dd φ) (up P (pi i) (rcl φ col))).natAbs ≤ 4000000000000000000) (hbd : ∀ i, done ≤ i → i < dd φ → ∀ q, q < dd φ → q ≠ pi i → ∀ k, k < 15 → (dt (dd φ) P * dt (dd φ) (up (up P (pi i) (rcl φ col)) q (rcl φ k))).natAbs ≤ 4000000000000000000) (n : Nat) : ((∀ i, done ≤ i → i < dd φ → dt (dd φ) (up P (pi i) (rcl φ col)) = 0) ∧ ∃ τ, f_X6_isSolved_h40 N (nt (Cm : Nat)) (n + 1) (nt (done : Nat)) (nt (col : Nat)) s = some (nt 0, τ) ∧ frI s τ) ∨ (∃ a τ, done ≤ a ∧ a < dd φ ∧ f_X6_isSolved_h40 N (nt (Cm : Nat)) (n + 1) (nt (done : Nat)) (nt (col : Nat)) s = f_X6_isSolved_h40 N (nt (Cm : Nat)) n (nt ((done + 1 : Nat) : Int)) (nt ((col + 1 : Nat) : Int)) τ ∧ SOL φ τ (up P (pi a) (rcl φ col)) (fun i => pi (tr2 a done i)) ∧ frI s τ ∧ gI τ 1089 col = nt (done : Nat) ∧ ∀ k, k ≠ col → gI τ 1089 k = gI s 1089 k) := by
  have n15 : (15 : Int32) = nt 15 := rfl
  obtain ⟨s5, hs5⟩ : ∃ s5, s5 = sI s 1089 col (nt (-1)) := ⟨_, rfl⟩
  have hS5 : SOL φ s5 P pi := SOL_o hS (by rw [hs5]; rfl)
  have h105 : gI s5 1067 10 = nt (dd φ : Nat) := by rw [hs5, gI_sI_c (by decide)]; exact h10
  have f5 : frI s s5 := by rw [hs5]; exact frI_told
  have hstart : f_X6_isSolved_h40 N (nt (Cm : Nat)) (n + 1) (nt (done : Nat)) (nt (col : Nat)) s = f_X6_isSolved_h65 N (fun x2_ x3_ σ_ => f_X6_isSolved_h40 N (nt (Cm : Nat)) n x2_ x3_ σ_) (nt (Cm : Nat)) (nt (done : Nat)) (nt (col : Nat)) N (nt (done : Nat)) s5 := by
    rw [f_X6_isSolved_h40, n15, le_f (by omega) (by omega) (by omega), ck_inb (by omega) (by omega) (by omega), nat_k (by omega), bd_eq, nt_bit1 (by omega) (by omega), if_pos hbit, n_m1, ← hs5]
  -- the row found
  have found : ∀ a, done ≤ a → a < dd φ → dt (dd φ) (up P (pi a) (rcl φ col)) ≠ 0 → ∃ τ, f_X6_isSolved_b97 N (fun x2_ x3_ σ_ => f_X6_isSolved_h40 N (nt (Cm : Nat)) n x2_ x3_ σ_) (nt (Cm : Nat)) (nt (done : Nat)) (nt (col : Nat)) (nt (a : Nat)) s5 = f_X6_isSolved_h40 N (nt (Cm : Nat)) n (nt ((done + 1 : Nat) : Int)) (nt ((col + 1 : Nat) : Int)) τ ∧ SOL φ τ (up P (pi a) (rcl φ col)) (fun i => pi (tr2 a done i)) ∧ frI s τ ∧ gI τ 1089 col = nt (done : Nat) ∧ ∀ k, k ≠ col → gI τ 1089 k = gI s 1089 k := fun a hda had hne => by
    obtain ⟨g1, g2, g3, g4, g5⟩ := hS5
    obtain ⟨s6, e6, a1, a2, a3⟩ := m_swap (N := N) (σ := s5) hN (a := a) (b := done) (by omega) (by omega)
    have h106 : gI s6 1067 10 = nt (dd φ : Nat) := by unfold gI; rw [a1]; exact h105
    have hdd : done < dd φ := by omega
    have hpd : pi (tr2 a done done) = pi a := by rw [tr2_b]
    have hpi : ∀ i, i < dd φ → i ≠ done → pi (tr2 a done i) ≠ pi a := fun i hi hid q => by
      have h1 := g4 _ _ (tr2_lt had hdd hi) had q
      exact hid (tr2_inj (a := a) (b := done) (by rw [h1, tr2_b]))
    obtain ⟨s7, e7, b1, b2, b3, b4, b5⟩ := m_clear (N := N) (σ := s6) hN hd12 h106 hdd hcol (L := fun i k => dt (dd φ) (up P (pi (tr2 a done i)) (rcl φ k))) (L' := fun i k => dt (dd φ) (up (up P (pi a) (rcl φ col)) (pi (tr2 a done i)) (rcl φ k))) (B := dt (dd φ) P) (fun i k hi hk => by
      rw [a3 i k (by omega) hk]
      exact g1 _ k (tr2_lt had hdd hi) hk) (by unfold gJ; rw [a2 1067 (by decide)]; exact g2) g3 hPb (fun i k hi hid hk => by
      have h6 := dt_two (dd φ) P (pi a) (pi (tr2 a done i)) (g5 a had) (g5 _ (tr2_lt had hdd hi)) (fun q => hpi i hi hid q.symm) (rcl φ col) (rcl φ k)
      try dsimp only
      rw [hpd]
      exact h6.symm) (fun k hk => by
      try dsimp only
      rw [hpd, up_up]) (fun i k hi hid hk => hbd a hda had _ (g5 _ (tr2_lt had hdd hi)) (hpi i hi hid) k hk)
    have hlast : gJ s7 1067 29 = jl (dt (dd φ) (up P (pi a) (rcl φ col))) := by
      rw [b4]
      try dsimp only
      rw [hpd]
    refine ⟨sI s7 1089 col (nt (done : Nat)), ?_, SOL_o (s := s7) ⟨b5, hlast, hne, fun i j hi hj q => tr2_inj (g4 _ _ (tr2_lt had hdd hi) (tr2_lt had hdd hj) q), fun i hi => g5 _ (tr2_lt had hdd hi)⟩ rfl, ⟨fun c hc => by rw [sI_o hc, b1, a1]; exact f5.1 c hc, fun c c1 c2 => ?_, fun k hk => ?_⟩, gI_sI_at _ _ _ _, fun k hk => by
      rw [gI_sI_k hk]
      unfold gI
      rw [b1, a1, hs5]
      show gI (sI s 1089 col (nt (-1))) 1089 k = gI s 1089 k
      rw [gI_sI_k hk]⟩
    · rw [f_X6_isSolved_b97, h105, eq_f (by omega) (by omega) (by omega) (by omega) (by omega), e6, obd_some, e7, obd_some, n_1, nt_add, bd_eq, ck_inb (by omega) (by omega) (by omega), nat_k (by omega), bd_eq, f_X6_isSolved_b131, n_1, nt_add, bd_eq]
      rfl
    · show s7.2 c = s.2 c
      rw [b2 c c1 c2, a2 c c2]
      exact f5.2.1 c c1 c2
    · show gJ s7 1067 k = gJ s 1067 k
      rw [b3 k hk]
      unfold gJ
      rw [a2 1067 (by decide)]
      exact f5.2.2 k hk
  have scan : ∀ (m a k : Nat), a + m = dd φ → m + 1 ≤ k → done ≤ a → (∀ i, done ≤ i → i < a → dt (dd φ) (up P (pi i) (rcl φ col)) = 0) → ((∀ i, done ≤ i → i < dd φ → dt (dd φ) (up P (pi i) (rcl φ col)) = 0) ∧ f_X6_isSolved_h65 N (fun x2_ x3_ σ_ => f_X6_isSolved_h40 N (nt (Cm : Nat)) n x2_ x3_ σ_) (nt (Cm : Nat)) (nt (done : Nat)) (nt (col : Nat)) k (nt (a : Nat)) s5 = some (nt 0, s5)) ∨ (∃ b, done ≤ b ∧ b < dd φ ∧ dt (dd φ) (up P (pi b) (rcl φ col)) ≠ 0 ∧ f_X6_isSolved_h65 N (fun x2_ x3_ σ_ => f_X6_isSolved_h40 N (nt (Cm : Nat)) n x2_ x3_ σ_) (nt (Cm : Nat)) (nt (done : Nat)) (nt (col : Nat)) k (nt (a : Nat)) s5 = f_X6_isSolved_b97 N (fun x2_ x3_ σ_ => f_X6_isSolved_h40 N (nt (Cm : Nat)) n x2_ x3_ σ_) (nt (Cm : Nat)) (nt (done : Nat)) (nt (col : Nat)) (nt (b : Nat)) s5) := by
    intro m
    induction m with
    | zero =>
      intro a k ha hk hda hz
      obtain ⟨k, rfl⟩ : ∃ m, k = m + 1 := ⟨k - 1, by omega⟩
      left
      refine ⟨fun i h1 h2 => hz i h1 (by omega), ?_⟩
      rw [f_X6_isSolved_h65, h105, le_t (by omega) (by omega) (by omega), f_X6_isSolved_b97, h105, eq_t (by omega)]
      rfl
    | succ m ih =>
      intro a k ha hk hda hz
      obtain ⟨k, rfl⟩ : ∃ m, k = m + 1 := ⟨k - 1, by omega⟩
      have hb := hbe a (by omega)
      rw [f_X6_isSolved_h65, h105, le_f (by omega) (by omega) (by omega), n15, nt_mul, nt_add, ck_inb (by omega) (by omega) (by omega), nat_nt (by omega) (by omega), show ((15 : Int) * (a : Nat) + (col : Nat)).toNat = 15 * a + col by omega, hS5.1 a col (by omega) hcol, j_0]
      by_cases q : dt (dd φ) (up P (pi a) (rcl φ col)) = 0
      · rw [jeq_t q, n_1, nt_add, bd_eq]
        exact ih (a + 1) k (by omega) (by omega) (by omega) (fun i h1 h2 => by
          by_cases q2 : i = a
          · rw [q2]; exact q
          · exact hz i h1 (by omega))
      · right
        refine ⟨a, hda, by omega, q, ?_⟩
        rw [jeq_f q (by omega) (by omega) (by omega) (by omega)]
  rw [hstart]
  rcases scan (dd φ - done) done N (by omega) (by omega) (Nat.le_refl _) (fun i h1 h2 => by omega) with ⟨h1, h2⟩ | ⟨b, h1, h2, h3, h4⟩
  · exact Or.inl ⟨h1, s5, h2, f5⟩
  · obtain ⟨τ, k1, k2, k3, k4, k5⟩ := found b h1 h2 h3
    exact Or.inr ⟨b, τ, h1, h2, h4.trans k1, k2, k3, k4, k5⟩
end
