-- ===== the reference's twists; a set made bit by bit =====
theorem mkd_or (Y : Nat → Bool) (e : Nat) : (Y e = true → mkd Y 0 e ||| 2 ^ e = mkd Y 0 (e + 1)) ∧ (Y e = false → mkd Y 0 e = mkd Y 0 (e + 1)) := by
  refine ⟨fun a => ?_, fun a => ?_⟩
  · apply Nat.eq_of_testBit_eq
    intro i
    rw [Nat.testBit_or, mkd_bit, mkd_bit, Nat.testBit_two_pow, Nat.zero_add]
    by_cases q : i = e
    · subst q
      simp [a]
    · by_cases q2 : i < e
      · simp [q2, show i < e + 1 by omega, show ¬ e = i by omega]
      · simp [q2, show ¬ i < e + 1 by omega, show ¬ e = i by omega]
  · apply Nat.eq_of_testBit_eq
    intro i
    rw [mkd_bit, mkd_bit, Nat.zero_add]
    by_cases q : i = e
    · subst q
      simp [a]
    · by_cases q2 : i < e
      · simp [q2, show i < e + 1 by omega]
      · simp [q2, show ¬ i < e + 1 by omega]
section
variable {N : Nat} {σ : ZS} {φ : FR}
theorem m_twistBy (w : WF φ) (hN : 200 ≤ N) (h : MFr σ φ) (h10 : gI σ 1067 10 = nt (dd φ : Nat)) (hR : ∀ e j, e < 2 * nb φ → j < 21 → gJ σ 1077 (21 * e + j) = jl (Rz φ e j)) {a b : Nat} (ht : tg a = 2) (hb : b + dd φ ≤ ln a) (hl : ln a ≤ 100000) {u : Nat → Int} (hu : ∀ j, j < dd φ → gJ σ a (b + j) = jl (u j)) {e : Nat} (he : e < 2 * nb φ) : f_X6_twistBy N a (nt (b : Nat)) (nt (e : Nat)) σ = some (jl (tw φ e u * (12 / lenB φ (e / 2))), σ) := by
  have hw2 := w.2.1
  have hdd := dd_le (φ := φ)
  have hb2 : e / 2 < nb φ := by omega
  have hlen := len_rg w hb2
  have k0 := lp_go (fun n j (t : Int64) => f_X6_twistBy_h6 N a (nt (b : Nat)) (nt (e : Nat)) n t (nt (j : Nat)) σ) (fun j => jl (sZ j (fun j => Rz φ e j * u j))) (dd φ) (fun n j hj => by
    rw [f_X6_twistBy_h6, h10, le_f (by omega) (by omega) (by omega), n_21, nt_mul, nt_add, ck_inb (by omega) (by omega) (by omega), ck_tg ht, nt_add, ck_inb (by omega) (by omega) (by omega), nat_nt (by omega) (by omega), nat_nt (by omega) (by omega), show ((21 : Int) * (e : Nat) + (j : Nat)).toNat = 21 * e + j by omega, show ((b : Nat) + (j : Nat) : Int).toNat = b + j by omega, hR e j he (by omega), hu j hj, jl_mul, jl_add, bd_eq, n_1, nt_add, bd_eq]
    rfl) (dd φ) 0 N (by omega) (by omega)
  have k0 : f_X6_twistBy_h6 N a (nt (b : Nat)) (nt (e : Nat)) N (0 : Int64) (0 : Int32) σ = f_X6_twistBy_h6 N a (nt (b : Nat)) (nt (e : Nat)) (N - dd φ) (jl (tw φ e u)) (nt (dd φ : Nat)) σ := k0
  obtain ⟨n0, en0⟩ : ∃ n, N - dd φ = n + 1 := ⟨N - dd φ - 1, by omega⟩
  have hdiv : ((e : Nat) : Int).tdiv 2 = ((e / 2 : Nat) : Int) := by
    rw [Int.tdiv_eq_ediv_of_nonneg (by omega)]; omega
  have hdiv2 : (12 : Int).tdiv (lenB φ (e / 2)) = 12 / lenB φ (e / 2) := Int.tdiv_eq_ediv_of_nonneg (by omega)
  have h12 := (len_12 w hb2).2
  unfold f_X6_twistBy
  rw [k0, en0, f_X6_twistBy_h6, h10, le_t (by omega) (by omega) (by omega), n_2, nt_div ⟨by omega, by omega⟩ ⟨by omega, by omega⟩, hdiv, m_length h w hb2, obd_some, ck_n0 (by omega) (by omega) (by omega), n_12, nt_div ⟨by omega, by omega⟩ ⟨by omega, by omega⟩, hdiv2, long_nt (by omega) (by omega), jl_mul]
theorem cn_ins {s : Nat → Bool} {k : Nat} (hs : s k = false) (n : Nat) : cn n (fun i => s i || i == k) = cn n s + (if k < n then 1 else 0) := by
  by_cases h : k < n
  · rw [if_pos h]; exact cn_add h hs
  · rw [if_neg h]
    exact cn_congr (fun i hi => by
      have : (i == k) = false := by rw [beq_eq_false_iff_ne]; omega
      try dsimp only
      rw [this, Bool.or_false])
/-- mechanisms that the reference has seen, in their order -/
def KM (φ : FR) (s : ZS) (seen : Nat → Bool) (M : Nat → Nat → Int) : Prop := gI s 1067 17 = nt (cn 4096 seen : Nat) ∧ (∀ k, k < 4096 → gI s 1082 k = nt (if seen k = true then 1 else 0)) ∧ ∀ k, k < 4096 → seen k = true → MotM φ (M k) k ∧ gI s 1080 (cn k seen) = nt (k : Nat) ∧ ∀ j, j < dd φ → gJ s 1081 (12 * cn k seen + j) = jl (M k j)
/-- the list with a gap -/
def IG (φ : FR) (t0 : ZS) (seen : Nat → Bool) (M : Nat → Nat → Int) (at_ : Nat) (t : ZS) : Prop := (∀ c, c ≠ 1080 → t.1 c = t0.1 c) ∧ (∀ c, c ≠ 1081 → t.2 c = t0.2 c) ∧ ∀ k, k < 4096 → seen k = true → (cn k seen < at_ → gI t 1080 (cn k seen) = nt (k : Nat) ∧ ∀ j, j < dd φ → gJ t 1081 (12 * cn k seen + j) = jl (M k j)) ∧ (at_ ≤ cn k seen → gI t 1080 (cn k seen + 1) = nt (k : Nat) ∧ ∀ j, j < dd φ → gJ t 1081 (12 * (cn k seen + 1) + j) = jl (M k j))
theorem m_gap {t0 : ZS} {seen : Nat → Bool} {M : Nat → Nat → Int} {s0 : Nat} (hN : 1200 ≤ N) (hd12 : dd φ ≤ 12) (hs0 : s0 < 4096) (hn : seen s0 = false) (hc : cn 4096 seen < 924) : ∀ (a at_ n : Nat) (t : ZS), at_ = cn s0 seen + a → at_ ≤ cn 4096 seen → a + 1 ≤ n → IG φ t0 seen M at_ t → ∃ t', IG φ t0 seen M (cn s0 seen) t' ∧ f_X6_keepWay_h89 N (nt (s0 : Nat)) n (nt (at_ : Nat)) t = f_X6_keepWay_b168 N (nt (s0 : Nat)) (nt (cn s0 seen : Nat)) t' := by
  intro a
  induction a with
  | zero =>
    intro at_ n t ha hb hn1 hI
    obtain ⟨n, rfl⟩ : ∃ m, n = m + 1 := ⟨n - 1, by omega⟩
    rw [Nat.add_zero] at ha
    refine ⟨t, by rw [← ha]; exact hI, ?_⟩
    rw [← ha]
    by_cases q : at_ = 0
    · rw [f_X6_keepWay_h89, n_0, le_t (by omega) (by omega) (by omega)]
    · obtain ⟨i, i1, i2, i3⟩ := cn_at seen 4096 (at_ - 1) (by omega)
      have hi : i < s0 := by
        apply Classical.byContradiction
        intro q2
        have := cn_mono seen (show s0 ≤ i by omega)
        omega
      have hg := ((hI.2.2 i i1 i2).1 (by omega)).1
      rw [i3] at hg
      rw [f_X6_keepWay_h89, n_0, le_f (by omega) (by omega) (by omega), n_1, nt_sub, ck_inb (by omega) (by omega) (by omega), nat_nt (by omega) (by omega), show ((at_ : Nat) - 1 : Int).toNat = at_ - 1 by omega, hg, le_t (by omega) (by omega) (by omega)]
  | succ a ih =>
    intro at_ n t ha hb hn1 hI
    obtain ⟨n, rfl⟩ : ∃ m, n = m + 1 := ⟨n - 1, by omega⟩
    obtain ⟨i, i1, i2, i3⟩ := cn_at seen 4096 (at_ - 1) (by omega)
    have hi : s0 < i := by
      apply Classical.byContradiction
      intro q2
      have h1 : i ≠ s0 := fun q3 => by rw [q3] at i2; rw [hn] at i2; exact absurd i2 (by decide)
      have := cn_up (s := seen) (show i < s0 by omega) i2
      omega
    have hg := ((hI.2.2 i i1 i2).1 (by omega)).1
    have hgm := ((hI.2.2 i i1 i2).1 (by omega)).2
    rw [i3] at hg hgm
    have hat : 0 < at_ := by omega
    have q1 := lp_go (fun m x (s : ZS) => f_X6_keepWay_h122 N (fun x3_ σ_ => f_X6_keepWay_h89 N (nt (s0 : Nat)) n x3_ σ_) (nt (s0 : Nat)) (nt (at_ : Nat)) m (nt (x : Nat)) s) (fun x => oJ (sI t 1080 at_ (nt (i : Nat))) 1081 (12 * at_) x (fun j => gJ (sI t 1080 at_ (nt (i : Nat))) 1081 (12 * (at_ - 1) + j))) 12 (fun m x hx => by
      have hr : gJ (oJ (sI t 1080 at_ (nt (i : Nat))) 1081 (12 * at_) x (fun j => gJ (sI t 1080 at_ (nt (i : Nat))) 1081 (12 * (at_ - 1) + j))) 1081 (12 * (at_ - 1) + x) = gJ (sI t 1080 at_ (nt (i : Nat))) 1081 (12 * (at_ - 1) + x) := by
        rw [gJ_oJ, if_neg (by omega)]
      rw [f_X6_keepWay_h122, n_12, le_f (by omega) (by omega) (by omega), nt_mul, nt_sub, nt_add, ck_inb (by omega) (by omega) (by omega), nat_nt (by omega) (by omega), show ((12 : Int) * (at_ : Nat) - 12 + (x : Nat)).toNat = 12 * (at_ - 1) + x by omega, hr, bd_eq, nt_add, ck_inb (by omega) (by omega) (by omega), nat_nt (by omega) (by omega), show ((12 : Int) * (at_ : Nat) + (x : Nat)).toNat = 12 * at_ + x by omega, bd_eq, n_1, nt_add, bd_eq, oJ_s (sI t 1080 at_ (nt (i : Nat))) 1081 (12 * at_) x (fun j => gJ (sI t 1080 at_ (nt (i : Nat))) 1081 (12 * (at_ - 1) + j))]
      rfl) 12 0 N (by omega) (by omega)
    have q1 : f_X6_keepWay_h122 N (fun x3_ σ_ => f_X6_keepWay_h89 N (nt (s0 : Nat)) n x3_ σ_) (nt (s0 : Nat)) (nt (at_ : Nat)) N (0 : Int32) (oJ (sI t 1080 at_ (nt (i : Nat))) 1081 (12 * at_) 0 (fun j => gJ (sI t 1080 at_ (nt (i : Nat))) 1081 (12 * (at_ - 1) + j))) = f_X6_keepWay_h122 N (fun x3_ σ_ => f_X6_keepWay_h89 N (nt (s0 : Nat)) n x3_ σ_) (nt (s0 : Nat)) (nt (at_ : Nat)) (N - 12) (nt 12) (oJ (sI t 1080 at_ (nt (i : Nat))) 1081 (12 * at_) 12 (fun j => gJ (sI t 1080 at_ (nt (i : Nat))) 1081 (12 * (at_ - 1) + j))) := q1
    rw [oJ_0] at q1
    obtain ⟨n1, en1⟩ : ∃ m, N - 12 = m + 1 := ⟨N - 12 - 1, by omega⟩
    rw [en1, f_X6_keepWay_h122, n_12, le_t (by omega) (by omega) (by omega), n_m1, nt_add, bd_eq, show ((at_ : Nat) : Int) + -1 = ((at_ - 1 : Nat) : Int) by omega] at q1
    have hI' : IG φ t0 seen M (at_ - 1) (oJ (sI t 1080 at_ (nt (i : Nat))) 1081 (12 * at_) 12 (fun j => gJ (sI t 1080 at_ (nt (i : Nat))) 1081 (12 * (at_ - 1) + j))) := by
      refine ⟨fun c hc => (sI_o hc).trans (hI.1 c hc), fun c hc => (oJ_o hc).trans (hI.2.1 c hc), fun k hk hks => ⟨fun hlt => ?_, fun hge => ?_⟩⟩
      · obtain ⟨a1, a2⟩ := (hI.2.2 k hk hks).1 (by omega)
        refine ⟨?_, fun j hj => ?_⟩
        · rw [gI_oJ, gI_sI_k (by omega)]; exact a1
        · rw [gJ_oJ, if_neg (by omega)]; exact a2 j hj
      · by_cases q2 : k = i
        · rw [q2, i3, show at_ - 1 + 1 = at_ by omega]
          refine ⟨?_, fun j hj => ?_⟩
          · rw [gI_oJ, gI_sI_at]
          · rw [gJ_oJ, if_pos ⟨rfl, by omega, by omega⟩, show 12 * at_ + j - 12 * at_ = j by omega]
            exact hgm j hj
        · have hne : cn k seen ≠ at_ - 1 := fun q3 => q2 (cn_inj hks i2 (by omega))
          obtain ⟨a1, a2⟩ := (hI.2.2 k hk hks).2 (by omega)
          refine ⟨?_, fun j hj => ?_⟩
          · rw [gI_oJ, gI_sI_k (by omega)]; exact a1
          · rw [gJ_oJ, if_neg (by omega)]; exact a2 j hj
    obtain ⟨t', f1, f2⟩ := ih (at_ - 1) n _ (by omega) (by omega) (by omega) hI'
    refine ⟨t', f1, ?_⟩
    rw [f_X6_keepWay_h89, n_0, le_f (by omega) (by omega) (by omega), n_1, nt_sub, ck_inb (by omega) (by omega) (by omega), nat_nt (by omega) (by omega), show ((at_ : Nat) - 1 : Int).toNat = at_ - 1 by omega, hg, le_f (by omega) (by omega) (by omega), ck_inb (by omega) (by omega) (by omega), bd_eq, ck_inb (by omega) (by omega) (by omega), nat_k (by omega), bd_eq]
    exact q1.trans f2
end
