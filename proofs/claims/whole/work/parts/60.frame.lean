-- ===== the frame, abstractly: 0 x, 1 y, 2 kind by node; 3 first, 4 second, 5 strength by bar; 6 + 2c right, 7 + 2c up by node; then how many nodes and bars =====
abbrev FR : Type := (Nat → Nat → Int) × Nat × Nat
def nn (φ : FR) : Nat := φ.2.1
def nb (φ : FR) : Nat := φ.2.2
def sF (φ : FR) (f k : Nat) (v : Int) : FR := (fun f' k' => if f' = f ∧ k' = k then v else φ.1 f' k', φ.2)
def bOK (φ : FR) (b : Nat) : Prop := (φ.1 1 (φ.1 4 b).toNat - φ.1 1 (φ.1 3 b).toNat = 0 ∧ 1 ≤ φ.1 0 (φ.1 4 b).toNat - φ.1 0 (φ.1 3 b).toNat ∧ φ.1 0 (φ.1 4 b).toNat - φ.1 0 (φ.1 3 b).toNat ≤ 4) ∨ (φ.1 0 (φ.1 4 b).toNat - φ.1 0 (φ.1 3 b).toNat = 0 ∧ 1 ≤ φ.1 1 (φ.1 4 b).toNat - φ.1 1 (φ.1 3 b).toNat ∧ φ.1 1 (φ.1 4 b).toNat - φ.1 1 (φ.1 3 b).toNat ≤ 4)
def WF (φ : FR) : Prop := nn φ ≤ 7 ∧ nb φ ≤ 6 ∧ (∀ n, n < nn φ → 0 ≤ φ.1 0 n ∧ φ.1 0 n ≤ 9 ∧ 0 ≤ φ.1 1 n ∧ φ.1 1 n ≤ 9 ∧ 0 ≤ φ.1 2 n ∧ φ.1 2 n ≤ 3) ∧ (∀ b, b < nb φ → 0 ≤ φ.1 3 b ∧ φ.1 3 b < nn φ ∧ 0 ≤ φ.1 4 b ∧ φ.1 4 b < nn φ ∧ 1 ≤ φ.1 5 b ∧ φ.1 5 b ≤ 12 ∧ bOK φ b) ∧ (∀ f k, 6 ≤ f → f < 12 → k < 7 → -5 ≤ φ.1 f k ∧ φ.1 f k ≤ 5 ∧ (nn φ ≤ k → φ.1 f k = 0))
-- the class's cells of a frame: 0 the frame, 1 and 2 the images
def cl (i f : Nat) : Nat := if f < 6 then 20 + 6 * i + f else 32 + 6 * i + f
def lf (φ : FR) (f : Nat) : Nat := if f < 3 then nn φ else if f < 6 then nb φ else 7
def CFr (σ : ZS) (i : Nat) (φ : FR) : Prop := gI σ (2 + i) 0 = nt (nn φ) ∧ gI σ (2 + i) 1 = nt (nb φ) ∧ ∀ f k, f < 12 → k < lf φ f → gI σ (cl i f) k = nt (φ.1 f k)
theorem CFr_x {σ : ZS} {φ : FR} (h : CFr σ 0 φ) {k : Nat} (hk : k < nn φ) : gI σ 20 k = nt (φ.1 0 k) := h.2.2 0 k (by omega) hk
theorem CFr_y {σ : ZS} {φ : FR} (h : CFr σ 0 φ) {k : Nat} (hk : k < nn φ) : gI σ 21 k = nt (φ.1 1 k) := h.2.2 1 k (by omega) hk
theorem CFr_k {σ : ZS} {φ : FR} (h : CFr σ 0 φ) {k : Nat} (hk : k < nn φ) : gI σ 22 k = nt (φ.1 2 k) := h.2.2 2 k (by omega) hk
theorem CFr_f {σ : ZS} {φ : FR} (h : CFr σ 0 φ) {k : Nat} (hk : k < nb φ) : gI σ 23 k = nt (φ.1 3 k) := h.2.2 3 k (by omega) hk
theorem CFr_g {σ : ZS} {φ : FR} (h : CFr σ 0 φ) {k : Nat} (hk : k < nb φ) : gI σ 24 k = nt (φ.1 4 k) := h.2.2 4 k (by omega) hk
theorem CFr_s {σ : ZS} {φ : FR} (h : CFr σ 0 φ) {k : Nat} (hk : k < nb φ) : gI σ 25 k = nt (φ.1 5 k) := h.2.2 5 k (by omega) hk
theorem CFr_l {σ : ZS} {φ : FR} (h : CFr σ 0 φ) {j k : Nat} (hj : j < 6) (hk : k < 7) : gI σ (38 + j) k = nt (φ.1 (6 + j) k) := by
  have := h.2.2 (6 + j) k (by omega) (by unfold lf; rw [if_neg (by omega), if_neg (by omega)]; exact hk)
  rwa [show cl 0 (6 + j) = 38 + j from by unfold cl; rw [if_neg (by omega)]; omega] at this
theorem CFr_n {σ : ZS} {φ : FR} (h : CFr σ 0 φ) : gI σ 2 0 = nt (nn φ) := h.1
theorem CFr_b {σ : ZS} {φ : FR} (h : CFr σ 0 φ) : gI σ 2 1 = nt (nb φ) := h.2.1
/-- whether one of the first places has it -/
def an (p : Nat → Bool) (n : Nat) : Bool := (List.range n).any p
theorem an_iff {p : Nat → Bool} {n : Nat} : an p n = true ↔ ∃ k, k < n ∧ p k = true := by
  unfold an; rw [List.any_eq_true]
  exact ⟨fun ⟨k, h1, h2⟩ => ⟨k, List.mem_range.mp h1, h2⟩, fun ⟨k, h1, h2⟩ => ⟨k, List.mem_range.mpr h1, h2⟩⟩
theorem an_f {p : Nat → Bool} {n : Nat} (h : ∀ k, k < n → p k = false) : an p n = false := by
  cases e : an p n with
  | false => rfl
  | true => obtain ⟨k, hk, h2⟩ := an_iff.mp e; rw [h k hk] at h2; cases h2
theorem an_congr {p q : Nat → Bool} {n : Nat} (h : ∀ k, k < n → p k = q k) : an p n = an q n := by
  rw [Bool.eq_iff_iff, an_iff, an_iff]
  exact ⟨fun ⟨k, h1, h2⟩ => ⟨k, h1, by rw [← h k h1]; exact h2⟩, fun ⟨k, h1, h2⟩ => ⟨k, h1, by rw [h k h1]; exact h2⟩⟩
/-- a loop that looks for a place -/
theorem lp_any {ρ : Type} (C : Nat → Nat → Option ρ) (p : Nat → Bool) (hi : Nat) (r0 r1 : Option ρ) (h0 : ∀ n, C (n + 1) hi = r0) (h1 : ∀ n k, k < hi → p k = true → C (n + 1) k = r1) (h2 : ∀ n k, k < hi → p k = false → C (n + 1) k = C n (k + 1)) : ∀ (j lo n : Nat), lo + j = hi → j < n → (∀ k, k < lo → p k = false) → C n lo = if an p hi = true then r1 else r0 := by
  intro j
  induction j with
  | zero =>
    intro lo n h hn hl
    obtain rfl : lo = hi := by omega
    obtain ⟨n, rfl⟩ : ∃ m, n = m + 1 := ⟨n - 1, by omega⟩
    rw [h0, an_f hl, if_neg (by simp)]
  | succ j ih =>
    intro lo n h hn hl
    obtain ⟨n, rfl⟩ : ∃ m, n = m + 1 := ⟨n - 1, by omega⟩
    cases e : p lo with
    | true => rw [h1 n lo (by omega) e, if_pos (an_iff.mpr ⟨lo, by omega, e⟩)]
    | false =>
      rw [h2 n lo (by omega) e, ih (lo + 1) n (by omega) (by omega) (fun k hk => by
        by_cases w : k = lo
        · subst w; exact e
        · exact hl k (by omega))]
/-- a truth value as an int, tested -/
theorem br_p {α : Type} (p : Prop) [Decidable p] (x y : α) : (if nt (if p then 1 else 0) = 0 then x else y) = if p then y else x := by
  by_cases h : p
  · rw [if_pos h, if_pos h, n_0, eq_f (by omega) (by omega) (by omega) (by omega) (by omega)]
  · rw [if_neg h, if_neg h]; rfl
theorem bb_p {α : Type} (p : Prop) [Decidable p] (x : Option α) : ck (bb (nt (if p then 1 else 0))) x = x := bb_nt (by split <;> simp)
section
variable {N : Nat} {σ : ZS} {φ : FR}
theorem s_nodeAt (hN : 100 ≤ N) (h : CFr σ 0 φ) (w : WF φ) {x y : Int} (hx : iR x) (hy : iR y) : f_X2_nodeAt N (nt x) (nt y) σ = some (nt (if an (fun n => decide (φ.1 0 n = x ∧ φ.1 1 n = y)) (nn φ) = true then 1 else 0), σ) := by
  unfold f_X2_nodeAt
  have hw := w.1
  have hg : ∀ k, k < nn φ → (nt (φ.1 0 k) = nt x ↔ φ.1 0 k = x) ∧ (nt (φ.1 1 k) = nt y ↔ φ.1 1 k = y) := fun k hk => by
    have := w.2.2.1 k hk
    exact ⟨nt_eq ⟨by omega, by omega⟩ hx, nt_eq ⟨by omega, by omega⟩ hy⟩
  have := lp_any (fun n k => f_X2_nodeAt_h2 N (nt x) (nt y) n (nt (k : Nat)) σ) (fun n => decide (φ.1 0 n = x ∧ φ.1 1 n = y)) (nn φ) (some (nt 0, σ)) (some (nt 1, σ)) (fun n => by
      rw [f_X2_nodeAt_h2, CFr_n h, le_t (by omega) (by omega) (by omega), n_0]) (fun n k hk hp => by
      rw [decide_eq_true_eq] at hp
      rw [f_X2_nodeAt_h2, CFr_n h, le_f (by omega) (by omega) (by omega), ck_inb (by omega) (by omega) (by omega), nat_k (by omega), CFr_x h hk, CFr_y h hk, if_pos ((hg k hk).1.mpr hp.1), ck_inb (by omega) (by omega) (by omega), if_pos ((hg k hk).2.mpr hp.2), n_1]) (fun n k hk hp => by
      rw [decide_eq_false_iff_not] at hp
      rw [f_X2_nodeAt_h2, CFr_n h, le_f (by omega) (by omega) (by omega), ck_inb (by omega) (by omega) (by omega), nat_k (by omega), CFr_x h hk, CFr_y h hk]
      have e : f_X2_nodeAt_b32 N (fun x3_ σ_ => f_X2_nodeAt_h2 N (nt x) (nt y) n x3_ σ_) (nt x) (nt y) (nt (k : Nat)) σ = f_X2_nodeAt_h2 N (nt x) (nt y) n (nt ((k + 1 : Nat) : Int)) σ := by
        rw [f_X2_nodeAt_b32, bd_eq, n_1, nt_add]; rfl
      by_cases e1 : φ.1 0 k = x
      · rw [if_pos ((hg k hk).1.mpr e1), ck_inb (by omega) (by omega) (by omega), if_neg (fun q => hp ⟨e1, (hg k hk).2.mp q⟩), e]
      · rw [if_neg (fun q => e1 ((hg k hk).1.mp q)), e]) (nn φ) 0 N (by omega) (by omega) (fun k hk => by omega)
  rw [show (0 : Int32) = nt ((0 : Nat) : Int) from rfl, this]
  split <;> rfl
end
