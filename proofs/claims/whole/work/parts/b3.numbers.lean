-- ===== the reference numbers the motions =====
section
variable {N : Nat} {σ : ZS} {φ : FR}
/-- numbers up to a place -/
def NS (φ : FR) (σ : ZS) (v n : Nat) (s : ZS) : Prop := gI s 1067 10 = nt (cn (7 * v + n) (isH φ) : Nat) ∧ (∀ v' n', v' < 3 → n' < nn φ → (v' < v ∨ v' = v ∧ n' < n) → gI s 1076 (7 * v' + n') = nt (num φ v' n')) ∧ (∀ c, c ≠ 1067 → c ≠ 1076 → s.1 c = σ.1 c) ∧ (∀ k, k ≠ 10 → gI s 1067 k = gI σ 1067 k) ∧ s.2 = σ.2
theorem NS_M {v n : Nat} {s : ZS} (h : MFr σ φ) (hs : NS φ σ v n s) : MFr s φ := MFr_same h (hs.2.2.2.1 0 (by omega)) (hs.2.2.2.1 4 (by omega)) (fun c c1 c2 => hs.2.2.1 c (by omega) (by omega))
/-- whether one of the first nodes that go alike is held -/
theorem m_held (w : WF φ) (hN : 200 ≤ N) (h : MFr σ φ) {v n : Nat} (hv : v < 3) (hn : n < nn φ) (hl : ∀ v' n', v' < 2 → n' < nn φ → gI σ 1075 (7 * v' + n') = nt (hdF φ v' n' : Nat)) (kb : Int32 → ZS → Option (Unit × ZS)) : ∀ (j k m : Nat) (f : Bool), k + j = nn φ → j + 1 ≤ m → (f = an (fun k => hkd φ k v && (hdF φ v k == hdF φ v n)) k) → ∃ m', f_X6_layNumbers_h59 N kb (nt (v : Nat)) (nt (n : Nat)) (nt (hdF φ v n : Nat)) m (nt (if f = true then 1 else 0)) (nt (k : Nat)) σ = f_X6_layNumbers_h59 N kb (nt (v : Nat)) (nt (n : Nat)) (nt (hdF φ v n : Nat)) (m' + 1) (nt (if hld φ v n = true then 1 else 0)) (nt (nn φ : Nat)) σ := by
  have hw1 := w.1
  have n7 : (7 : Int32) = nt 7 := rfl
  have hd2 : ∀ k, hdF φ 2 k = k := fun k => by unfold hdF; rw [if_pos rfl]
  have hdn := hdF_le φ v n
  intro j
  induction j with
  | zero =>
    intro k m f hk hm hf
    obtain ⟨m, rfl⟩ : ∃ n, m = n + 1 := ⟨m - 1, by omega⟩
    obtain rfl : k = nn φ := by omega
    refine ⟨m, ?_⟩
    rw [hf]; rfl
  | succ j ih =>
    intro k m f hk hm hf
    obtain ⟨m, rfl⟩ : ∃ n, m = n + 1 := ⟨m - 1, by omega⟩
    have hkn : k < nn φ := by omega
    have hdk := hdF_le φ v k
    have b118 : ∀ x : Int, f_X6_layNumbers_b118 N (fun x4_ x5_ σ_ => f_X6_layNumbers_h59 N kb (nt (v : Nat)) (nt (n : Nat)) (nt (hdF φ v n : Nat)) m x4_ x5_ σ_) (nt (v : Nat)) (nt (n : Nat)) (nt (hdF φ v n : Nat)) (nt (k : Nat)) (nt x) σ = f_X6_layNumbers_h59 N kb (nt (v : Nat)) (nt (n : Nat)) (nt (hdF φ v n : Nat)) m (nt x) (nt ((k + 1 : Nat) : Int)) σ := fun x => by
      rw [f_X6_layNumbers_b118, n_1, nt_add, bd_eq]; rfl
    have b113 : f_X6_layNumbers_b113 N (fun x4_ x5_ σ_ => f_X6_layNumbers_h59 N kb (nt (v : Nat)) (nt (n : Nat)) (nt (hdF φ v n : Nat)) m x4_ x5_ σ_) (nt (v : Nat)) (nt (n : Nat)) (nt (hdF φ v n : Nat)) (nt (k : Nat)) σ = f_X6_layNumbers_h59 N kb (nt (v : Nat)) (nt (n : Nat)) (nt (hdF φ v n : Nat)) m (nt (if true = true then 1 else 0)) (nt ((k + 1 : Nat) : Int)) σ := b118 1
    have b117 : f_X6_layNumbers_b117 N (fun x4_ x5_ σ_ => f_X6_layNumbers_h59 N kb (nt (v : Nat)) (nt (n : Nat)) (nt (hdF φ v n : Nat)) m x4_ x5_ σ_) (nt (v : Nat)) (nt (n : Nat)) (nt (hdF φ v n : Nat)) (nt (k : Nat)) σ = f_X6_layNumbers_h59 N kb (nt (v : Nat)) (nt (n : Nat)) (nt (hdF φ v n : Nat)) m (nt (if false = true then 1 else 0)) (nt ((k + 1 : Nat) : Int)) σ := b118 0
    have han : an (fun k => hkd φ k v && (hdF φ v k == hdF φ v n)) (k + 1) = (an (fun k => hkd φ k v && (hdF φ v k == hdF φ v n)) k || (hkd φ k v && (hdF φ v k == hdF φ v n))) := by
      rw [Bool.eq_iff_iff, an_s, Bool.or_eq_true]
    rw [f_X6_layNumbers_h59, MFr_n h, le_f (by omega) (by omega) (by omega), br_p]
    cases f with
    | true =>
      rw [if_pos rfl, b113]
      exact ih (k + 1) m true (by omega) (by omega) (by rw [han, ← hf]; rfl)
    | false =>
      rw [if_neg (by decide), m_isHeld h w hkn hv, obd_some, br_p]
      by_cases e : hkd φ k v = true
      · rw [if_pos e]
        have hgo : ∀ b : Bool, b = (hdF φ v k == hdF φ v n) → ∃ m', f_X6_layNumbers_h59 N kb (nt (v : Nat)) (nt (n : Nat)) (nt (hdF φ v n : Nat)) m (nt (if b = true then 1 else 0)) (nt ((k + 1 : Nat) : Int)) σ = f_X6_layNumbers_h59 N kb (nt (v : Nat)) (nt (n : Nat)) (nt (hdF φ v n : Nat)) (m' + 1) (nt (if hld φ v n = true then 1 else 0)) (nt (nn φ : Nat)) σ := fun b hb => ih (k + 1) m b (by omega) (by omega) (by rw [han, ← hf, e, ← hb]; rfl)
        by_cases v2 : v = 2
        · subst v2
          rw [n_2, eq_t (by omega)]
          by_cases q : k = n
          · rw [eq_t (by omega), b113]
            exact hgo true (by rw [q]; simp)
          · rw [eq_f (by omega) (by omega) (by omega) (by omega) (by omega), b117]
            exact hgo false (by rw [hd2, hd2]; simp; omega)
        · rw [n_2, eq_f (by omega) (by omega) (by omega) (by omega) (by omega), n7, nt_mul, nt_add, ck_inb (by omega) (by omega) (by omega), nat_nt (by omega) (by omega), show ((7 : Int) * (v : Nat) + (k : Nat)).toNat = 7 * v + k by omega, hl v k (by omega) hkn]
          by_cases q : hdF φ v k = hdF φ v n
          · rw [eq_t (by omega), b113]
            exact hgo true (by rw [q]; simp)
          · rw [eq_f (by omega) (by omega) (by omega) (by omega) (by omega), b117]
            exact hgo false (by simp; omega)
      · rw [if_neg e, b117]
        exact ih (k + 1) m false (by omega) (by omega) (by rw [han, ← hf]; simp at e; rw [e]; rfl)
end
