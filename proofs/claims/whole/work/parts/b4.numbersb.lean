-- ===== the reference's numbers, all =====
section
variable {N : Nat} {σ : ZS} {φ : FR}
theorem isH_at (w : WF φ) {v n : Nat} (hn : n < nn φ) : isH φ (7 * v + n) = ((hdF φ v n == n) && !hld φ v n) := by
  have h7 := w.1
  unfold isH
  rw [show (7 * v + n) / 7 = v by omega, show (7 * v + n) % 7 = n by omega, decide_eq_true hn]
  rfl
theorem cn_skip (w : WF φ) (v : Nat) : cn (7 * (v + 1)) (isH φ) = cn (7 * v + nn φ) (isH φ) := by
  have h7 := w.1
  have key : ∀ k, nn φ + k ≤ 7 → cn (7 * v + nn φ + k) (isH φ) = cn (7 * v + nn φ) (isH φ) := by
    intro k
    induction k with
    | zero => intro _; rfl
    | succ k ih =>
      intro hk
      have : isH φ (7 * v + nn φ + k) = false := by
        unfold isH
        rw [show (7 * v + nn φ + k) % 7 = nn φ + k by omega, decide_eq_false (by omega)]
        rfl
      show cn (7 * v + nn φ + k) (isH φ) + (if isH φ (7 * v + nn φ + k) = true then 1 else 0) = _
      rw [this, if_neg (by decide), ih (by omega)]
      rfl
  have := key (7 - nn φ) (by omega)
  rw [show 7 * v + nn φ + (7 - nn φ) = 7 * (v + 1) by omega] at this
  exact this
theorem m_num1 (w : WF φ) (hN : 200 ≤ N) (h : MFr σ φ) (hl : ∀ v' n', v' < 2 → n' < nn φ → gI σ 1075 (7 * v' + n') = nt (hdF φ v' n' : Nat)) {v n : Nat} (hv : v < 3) (hn : n < nn φ) (kb : Int32 → ZS → Option (Unit × ZS)) (m : Nat) {s : ZS} (hs : NS φ σ v n s) : ∃ s', f_X6_layNumbers_h24 N kb (nt (v : Nat)) (m + 1) (nt (n : Nat)) s = f_X6_layNumbers_h24 N kb (nt (v : Nat)) m (nt ((n + 1 : Nat) : Int)) s' ∧ NS φ σ v (n + 1) s' := by
  have hw1 := w.1
  have n7 : (7 : Int32) = nt 7 := rfl
  have hM := NS_M h hs
  obtain ⟨s1, s2, s3, s4, s5⟩ := hs
  have hdn := hdF_le φ v n
  have hls : ∀ v' n', v' < 2 → n' < nn φ → gI s 1075 (7 * v' + n') = nt (hdF φ v' n' : Nat) := fun v' n' a b => by unfold gI; rw [s3 1075 (by omega) (by omega)]; exact hl v' n' a b
  have hbd := cn_bd (isH φ) (7 * v + n)
  have hcs : cn (7 * v + (n + 1)) (isH φ) = cn (7 * v + n) (isH φ) + (if isH φ (7 * v + n) = true then 1 else 0) := rfl
  rw [isH_at w hn] at hcs
  obtain ⟨m', e⟩ := m_held w hN hM hv hn hls (fun x2_ σ_ => f_X6_layNumbers_h24 N kb (nt (v : Nat)) m x2_ σ_) (nn φ) 0 N false (by omega) (by omega) rfl
  have b189 : ∀ (x y : Int) (s' : ZS), f_X6_layNumbers_b189 N (fun x2_ σ_ => f_X6_layNumbers_h24 N kb (nt (v : Nat)) m x2_ σ_) (nt (v : Nat)) (nt (n : Nat)) (nt x) (nt y) s' = f_X6_layNumbers_h24 N kb (nt (v : Nat)) m (nt ((n + 1 : Nat) : Int)) (sI s' 1067 10 (nt (x + y))) := fun x y s' => by
    rw [f_X6_layNumbers_b189, nt_add, bd_eq, bd_eq, n_1, nt_add, bd_eq]; rfl
  have fin : ∀ (x y : Int), x = num φ v n → ((cn (7 * v + n) (isH φ) : Nat) : Int) + y = (cn (7 * v + (n + 1)) (isH φ) : Nat) → NS φ σ v (n + 1) (sI (sI s 1076 (7 * v + n) (nt x)) 1067 10 (nt ((cn (7 * v + n) (isH φ) : Nat) + y))) := fun x y hx hy => by
    refine ⟨by rw [gI_sI_at, hy], fun v' n' a b c => ?_, fun c c1 c2 => by rw [sI_o c1, sI_o c2]; exact s3 c c1 c2, fun k hk => by rw [gI_sI_k hk, gI_sI_c (by omega)]; exact s4 k hk, s5⟩
    rw [gI_sI_c (by omega), gI_sI]
    by_cases q : v' = v ∧ n' = n
    · obtain ⟨rfl, rfl⟩ := q
      rw [if_pos ⟨rfl, rfl⟩, hx]
    · rw [if_neg (by omega)]
      exact s2 v' n' a b (by omega)
  have g10 : ∀ x : Int32, gI (sI s 1076 (7 * v + n) x) 1067 10 = nt (cn (7 * v + n) (isH φ) : Nat) := fun x => by rw [gI_sI_c (by omega)]; exact s1
  have hst : f_X6_layNumbers_h24 N kb (nt (v : Nat)) (m + 1) (nt (n : Nat)) s = f_X6_layNumbers_h59 N (fun x2_ σ_ => f_X6_layNumbers_h24 N kb (nt (v : Nat)) m x2_ σ_) (nt (v : Nat)) (nt (n : Nat)) (nt (hdF φ v n : Nat)) N (0 : Int32) (0 : Int32) s := by
    rw [f_X6_layNumbers_h24, MFr_n hM, le_f (by omega) (by omega) (by omega)]
    by_cases v2 : v = 2
    · subst v2
      rw [n_2, eq_t (by omega)]
      have : hdF φ 2 n = n := by unfold hdF; rw [if_pos rfl]
      rw [this]; rfl
    · rw [n_2, eq_f (by omega) (by omega) (by omega) (by omega) (by omega), n7, nt_mul, nt_add, ck_inb (by omega) (by omega) (by omega), nat_nt (by omega) (by omega), show ((7 : Int) * (v : Nat) + (n : Nat)).toNat = 7 * v + n by omega, hls v n (by omega) hn]
      rfl
  have e : f_X6_layNumbers_h59 N (fun x2_ σ_ => f_X6_layNumbers_h24 N kb (nt (v : Nat)) m x2_ σ_) (nt (v : Nat)) (nt (n : Nat)) (nt (hdF φ v n : Nat)) N (0 : Int32) (0 : Int32) s = _ := e
  rw [hst, e, f_X6_layNumbers_h59, MFr_n hM, le_t (by omega) (by omega) (by omega), br_p, n7, nt_mul, nt_add, nt_add]
  have i1 : (nt ((7 : Int) * (v : Nat) + (n : Nat))).toNatClampNeg = 7 * v + n := by rw [nat_nt (by omega) (by omega)]; omega
  by_cases eh : hld φ v n = true
  · rw [if_pos eh]
    refine ⟨_, ?_, fin (-1) 0 (by unfold num; rw [if_pos eh]) (by rw [hcs, eh]; simp)⟩
    unfold f_X6_layNumbers_b168 f_X6_layNumbers_b188
    rw [ck_inb (by omega) (by omega) (by omega), i1, bd_eq, if_pos eh, n_0, eq_f (by omega) (by omega) (by omega) (by omega) (by omega), g10]
    exact b189 _ 0 _
  · have ef : hld φ v n = false := by simpa using eh
    rw [if_neg eh]
    by_cases q : n ≤ hdF φ v n
    · have hq : hdF φ v n = n := by omega
      rw [le_t (by omega) (by omega) (by omega), s1]
      refine ⟨_, ?_, fin (cn (7 * v + n) (isH φ) : Nat) 1 (by unfold num; rw [if_neg eh, hq]) (by rw [hcs, hq, ef]; simp)⟩
      unfold f_X6_layNumbers_b168
      rw [ck_inb (by omega) (by omega) (by omega), i1, bd_eq, if_neg eh, n_0, eq_t rfl, eq_t (by omega), g10]
      exact b189 _ 1 _
    · rw [le_f (by omega) (by omega) (by omega), ck_inb (by omega) (by omega) (by omega), nat_nt (by omega) (by omega), show ((7 : Int) * (v : Nat) + (hdF φ v n : Nat)).toNat = 7 * v + hdF φ v n by omega, s2 v (hdF φ v n) hv (by omega) (Or.inr ⟨rfl, by omega⟩)]
      have hf : (hdF φ v n == n) = false := by simp; omega
      refine ⟨_, ?_, fin (num φ v (hdF φ v n)) 0 (num_eq (hdF_hd φ v n)) (by rw [hcs, hf]; simp)⟩
      unfold f_X6_layNumbers_b168 f_X6_layNumbers_b188
      rw [ck_inb (by omega) (by omega) (by omega), i1, bd_eq, if_neg eh, n_0, eq_t rfl, eq_f (by omega) (by omega) (by omega) (by omega) (by omega), g10]
      exact b189 _ 0 _
end
