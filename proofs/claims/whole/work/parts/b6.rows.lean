-- ===== the reference's rows of ends =====
section
variable {N : Nat} {σ : ZS} {φ : FR}
/-- the row of an end in its cells, the others alike -/
def RoS (σ : ZS) (e : Nat) (r : Nat → Int) (s : ZS) : Prop := s.1 = σ.1 ∧ (∀ j, j < 21 → gJ s 1077 (21 * e + j) = jl (r j)) ∧ (∀ k, (k < 21 * e ∨ 21 * e + 21 ≤ k) → gJ s 1077 k = gJ σ 1077 k) ∧ ∀ c, c ≠ 1077 → s.2 c = σ.2 c
theorem m_addTo (w : WF φ) (hn : ∀ v n, v < 3 → n < nn φ → gI σ 1076 (7 * v + n) = nt (num φ v n)) {e v n : Nat} (he : e < 12) (hv : v < 3) (hnn : n < nn φ) {x : Int} (hx : -10 ≤ x ∧ x ≤ 10) {r : Nat → Int} {s : ZS} (hs : RoS σ e r s) : ∃ s', f_X6_addTo N (nt (e : Nat)) (nt (v : Nat)) (nt (n : Nat)) (nt x) s = some ((), s') ∧ RoS σ e (fun j => r j + x * dl (num φ v n) j) s' := by
  have hw1 := w.1
  have hdd := dd_le (φ := φ)
  have n7 : (7 : Int32) = nt 7 := rfl
  have n21 : (21 : Int32) = nt 21 := rfl
  obtain ⟨s1, s2, s3, s4⟩ := hs
  have hg : gI s 1076 (7 * v + n) = nt (num φ v n) := by unfold gI; rw [s1]; exact hn v n hv hnn
  unfold f_X6_addTo
  rw [n7, n21, nt_mul, nt_add, ck_inb (by omega) (by omega) (by omega), nat_nt (by omega) (by omega), show ((7 : Int) * (v : Nat) + (n : Nat)).toNat = 7 * v + n by omega, hg, bd_eq, n_0]
  rcases num_rg w hv hnn with ⟨h1, _⟩ | ⟨h1, h2, _⟩
  · rw [lt_t (by omega) (by omega) (by omega)]
    refine ⟨s, rfl, s1, fun j hj => ?_, s3, s4⟩
    have : dl (num φ v n) j = 0 := if_neg (by omega)
    dsimp only
    rw [this, Int.mul_zero, Int.add_zero]
    exact s2 j hj
  · obtain ⟨a, ha⟩ : ∃ a : Nat, num φ v n = (a : Int) := ⟨(num φ v n).toNat, by omega⟩
    rw [lt_f (by omega) (by omega) (by omega), nt_mul, nt_add, ha, bd_eq, ck_inb (by omega) (by omega) (by omega), nat_nt (by omega) (by omega), show ((21 : Int) * (e : Nat) + (a : Nat)).toNat = 21 * e + a by omega, s2 a (by omega), long_nt (by omega) (by omega), jl_add, bd_eq, ck_inb (by omega) (by omega) (by omega), bd_eq]
    refine ⟨_, rfl, s1, fun j hj => ?_, fun k hk => by rw [gJ_sJ_k (by omega)]; exact s3 k hk, fun c hc => by rw [sJ_o hc]; exact s4 c hc⟩
    by_cases q : j = a
    · subst q
      have : dl ((j : Nat) : Int) j = 1 := if_pos rfl
      rw [gJ_sJ_at]
      dsimp only
      rw [this, Int.mul_one]
    · have : dl ((a : Nat) : Int) j = 0 := if_neg (by omega)
      rw [gJ_sJ_k (by omega)]
      dsimp only
      rw [this, Int.mul_zero, Int.add_zero]
      exact s2 j hj
end
