-- ===== signs, one changed at a time =====
theorem nt_powL {e : Nat} (he : e < 16) : nt 1 <<< (nt (e : Nat) &&& 31) = nt ((2 ^ e : Nat) : Int) := by
  rcases (show e = 0 ∨ e = 1 ∨ e = 2 ∨ e = 3 ∨ e = 4 ∨ e = 5 ∨ e = 6 ∨ e = 7 ∨ e = 8 ∨ e = 9 ∨ e = 10 ∨ e = 11 ∨ e = 12 ∨ e = 13 ∨ e = 14 ∨ e = 15 by omega) with rfl | rfl | rfl | rfl | rfl | rfl | rfl | rfl | rfl | rfl | rfl | rfl | rfl | rfl | rfl | rfl <;> decide
theorem nt_xor (a b : Nat) : nt (a : Nat) ^^^ nt (b : Nat) = nt ((a ^^^ b : Nat) : Int) := by
  rw [← Int32.toBitVec_inj, Int32.toBitVec_xor, nt_bv, nt_bv, nt_bv, BitVec.ofNat_xor]
/-- the signs at a step -/
def gr2 (t : Nat) : Nat := t ^^^ (t >>> 1)
theorem gc_ok : (List.range 4095).all (fun t => gr2 (t + 1) == gr2 t ^^^ 2 ^ lwb (t + 1)) = true := by decide +kernel
theorem gr_step {t : Nat} (h : t + 1 < 4096) : gr2 (t + 1) = gr2 t ^^^ 2 ^ lwb (t + 1) := by
  have h1 := List.all_eq_true.mp gc_ok t (List.mem_range.mpr (by omega))
  rw [beq_iff_eq] at h1
  exact h1
def gi2 (g : Nat) : Nat := g ^^^ (g >>> 1) ^^^ (g >>> 2) ^^^ (g >>> 3) ^^^ (g >>> 4) ^^^ (g >>> 5) ^^^ (g >>> 6) ^^^ (g >>> 7) ^^^ (g >>> 8) ^^^ (g >>> 9) ^^^ (g >>> 10) ^^^ (g >>> 11)
theorem gj_ok : (List.range 4096).all (fun g => gr2 (gi2 g) == g) = true := by decide +kernel
/-- all signs come -/
theorem gr_all {f g : Nat} (hf : f ≤ 12) (h : g < 2 ^ f) : ∃ t, t < 2 ^ f ∧ gr2 t = g := by
  have h2 : 2 ^ f ≤ 2 ^ 12 := Nat.pow_le_pow_right (by decide) hf
  have h3 : (2 : Nat) ^ 12 = 4096 := by decide
  have h1 := List.all_eq_true.mp gj_ok g (List.mem_range.mpr (by omega))
  rw [beq_iff_eq] at h1
  refine ⟨gi2 g, ?_, h1⟩
  have hs : ∀ k, g >>> k < 2 ^ f := fun k => Nat.lt_of_le_of_lt (Nat.shiftRight_le g k) h
  unfold gi2
  repeat' (first | exact hs _ | exact h | apply Nat.xor_lt_two_pow)
theorem sZ_upd {f g : Nat → Int} {n k : Nat} (hk : k < n) (h : ∀ i, i < n → i ≠ k → f i = g i) : sZ n f = sZ n g + (f k - g k) := by
  have h1 : sZ n (fun i => f i - g i) = f k - g k := sZ_one (f := fun i => f i - g i) hk (fun i hi hik => by
    show f i - g i = 0
    rw [h i hi hik]; omega)
  rw [sZ_sub] at h1
  omega
section
variable {N : Nat} {σ : ZS} {φ : FR}
/-- a sign changed, a value changed -/
theorem val_flip {Cm : Nat} {P : Nat → Nat → Int} {pi : Nat → Nat} {S T : Nat → Int} {by_ : Int} {i g k : Nat} (hk : k < cn (2 * nb φ) (ff Cm)) : val φ Cm P pi S T by_ i (g ^^^ 2 ^ k) = val φ Cm P pi S T by_ i g + (if (g ^^^ 2 ^ k).testBit k = true then 2 else -2) * tn φ Cm P pi S by_ i k := by
  unfold val
  have hb : ∀ j, (g ^^^ 2 ^ k).testBit j = (g.testBit j != decide (k = j)) := fun j => by
    rw [Nat.testBit_xor, Nat.testBit_two_pow]
  have h1 := sZ_upd (f := fun j => (if (g ^^^ 2 ^ k).testBit j = true then -1 else 1) * tn φ Cm P pi S by_ i j) (g := fun j => (if g.testBit j = true then -1 else 1) * tn φ Cm P pi S by_ i j) hk (fun j hj hjk => by
    try dsimp only
    have : (g ^^^ 2 ^ k).testBit j = g.testBit j := by
      rw [hb j]
      have : decide (k = j) = false := by rw [decide_eq_false_iff_not]; omega
      rw [this]
      cases g.testBit j <;> rfl
    rw [this])
  rw [h1]
  try dsimp only
  have hk2 : (g ^^^ 2 ^ k).testBit k = !g.testBit k := by
    rw [hb k, decide_eq_true rfl]
    cases g.testBit k <;> rfl
  rw [hk2]
  cases g.testBit k with
  | true =>
    rw [if_neg (by decide), if_pos rfl, if_neg (by decide)]
    omega
  | false =>
    rw [if_pos (by decide), if_neg (by decide), if_pos (by decide)]
    omega
/-- which columns are told -/
def TD (Cm : Nat) (s : ZS) : Prop := ∀ k, k < 15 → gI s 1089 k = nt (if Cm.testBit k = true then ((cn k (bt Cm) : Nat) : Int) else -1)
theorem m_isNext (hN : 200 ≤ N) (w : WF φ) {Cm t : Nat} {P : Nat → Nat → Int} {pi : Nat → Nat} {S T : Nat → Int} {by_ : Int} (hTD : TD Cm σ) (hV : BV φ Cm P pi S T by_ (gr2 t) σ 15) (hF : BF φ Cm t (gr2 t) σ) (ht : t < 2 ^ cn (2 * nb φ) (ff Cm)) : (t + 1 = 2 ^ cn (2 * nb φ) (ff Cm) ∧ ∃ τ, f_X6_isNext N σ = some (nt 0, τ) ∧ frB σ τ) ∨ (t + 1 < 2 ^ cn (2 * nb φ) (ff Cm) ∧ ∃ τ, f_X6_isNext N σ = some (nt 1, τ) ∧ BV φ Cm P pi S T by_ (gr2 (t + 1)) τ 15 ∧ BF φ Cm (t + 1) (gr2 (t + 1)) τ ∧ frB σ τ) := by
  have hw2 := w.2.1
  have n15 : (15 : Int32) = nt 15 := rfl
  obtain ⟨b1, b2, b3, b4⟩ := hF
  have hcb := cn_bd (ff Cm) (2 * nb φ)
  have h2 : 2 ^ cn (2 * nb φ) (ff Cm) ≤ 2 ^ 12 := Nat.pow_le_pow_right (by decide) (by omega)
  have h3 : (2 : Nat) ^ 12 = 4096 := by decide
  obtain ⟨s1, hs1⟩ : ∃ s1, s1 = sI σ 1067 40 (nt ((t + 1 : Nat) : Int)) := ⟨_, rfl⟩
  have f1 : frB σ s1 := ⟨fun c c1 _ => by rw [hs1, sI_o c1], fun k _ _ _ k4 => by rw [hs1, gI_sI_k k4], fun c _ _ => by rw [hs1]; rfl⟩
  have g40 : gI s1 1067 40 = nt ((t + 1 : Nat) : Int) := by rw [hs1, gI_sI_at]
  have g36 : gI s1 1067 36 = nt (cn (2 * nb φ) (ff Cm) : Nat) := by rw [hs1, gI_sI_k (by decide)]; exact b1
  have g39 : gI s1 1067 39 = nt (gr2 t : Nat) := by rw [hs1, gI_sI_k (by decide)]; exact b3
  unfold f_X6_isNext
  rw [b4, n_1, nt_add, bd_eq, show ((t : Nat) : Int) + 1 = ((t + 1 : Nat) : Int) by omega, ← hs1, bd_eq, g40, g36, nt_powL (by omega)]
  by_cases q : t + 1 = 2 ^ cn (2 * nb φ) (ff Cm)
  · left
    rw [eq_t (by omega)]
    exact ⟨q, s1, rfl, f1⟩
  right
  have hlt : t + 1 < 2 ^ cn (2 * nb φ) (ff Cm) := by omega
  rw [eq_f (by omega) (by omega) (by omega) (by omega) (by omega)]
  obtain ⟨l1, l2, l3⟩ := lwb_ok (a := t + 1) (by omega) (by omega)
  have hgs := gr_step (t := t) (by omega)
  obtain ⟨k, hk⟩ : ∃ k, k = lwb (t + 1) := ⟨_, rfl⟩
  rw [← hk] at l1 l2 l3 hgs
  have hkf : k < cn (2 * nb φ) (ff Cm) := by
    apply Classical.byContradiction
    intro hn
    have h5 : 2 ^ k ≤ t + 1 := Nat.ge_two_pow_of_testBit l2
    have h6 : 2 ^ cn (2 * nb φ) (ff Cm) ≤ 2 ^ k := Nat.pow_le_pow_right (by decide) (by omega)
    omega
  have hgb : gr2 (t + 1) < 4096 := by
    have : gr2 (t + 1) < 2 ^ 12 := Nat.xor_lt_two_pow (by omega) (Nat.lt_of_le_of_lt (Nat.shiftRight_le _ _) (by omega))
    omega
  obtain ⟨s2, hs2⟩ : ∃ s2, s2 = sI s1 1067 39 (nt (gr2 (t + 1) : Nat)) := ⟨_, rfl⟩
  have f2 : frB σ s2 := frB_tr f1 ⟨fun c c1 _ => by rw [hs2, sI_o c1], fun k _ _ k3 _ => by rw [hs2, gI_sI_k k3], fun c _ _ => by rw [hs2]; rfl⟩
  have hJ2 : s2.2 = σ.2 := by rw [hs2, hs1]; rfl
  -- the end to be turned
  have find : ∀ (m j n : Nat), j + m = k → m + 1 ≤ n → f_X6_isNext_h27 N n (nt (j : Nat)) s1 = f_X6_isNext_h58 N (nt (k : Nat)) N (nt 0) s2 := by
    intro m
    induction m with
    | zero =>
      intro j n hj hn
      obtain ⟨n, rfl⟩ : ∃ m, n = m + 1 := ⟨n - 1, by omega⟩
      obtain rfl : j = k := by omega
      rw [f_X6_isNext_h27, g40, nt_bit (by omega) (by omega), if_pos l2, g39, n_1, nt_powL (by omega), nt_xor, bd_eq, ← hgs, bd_eq, ← hs2]
      rfl
    | succ m ih =>
      intro j n hj hn
      obtain ⟨n, rfl⟩ : ∃ m, n = m + 1 := ⟨n - 1, by omega⟩
      rw [f_X6_isNext_h27, g40, nt_bit (by omega) (by omega), if_neg (by rw [l3 j (by omega)]; decide), n_1, nt_add, bd_eq]
      exact ih (j + 1) n (by omega) (by omega)
  have hfind := find k 0 N (by omega) (by omega)
  have hfind : f_X6_isNext_h27 N N (0 : Int32) s1 = f_X6_isNext_h58 N (nt (k : Nat)) N (nt 0) s2 := hfind
  have gs39 : gI s2 1067 39 = nt (gr2 (t + 1) : Nat) := by rw [hs2, gI_sI_at]
  obtain ⟨s3, e3, j1, j2, j3, j4⟩ := lp_inv (fun n col s => f_X6_isNext_h58 N (nt (k : Nat)) n (nt (col : Nat)) s) (fun col s => s.1 = s2.1 ∧ (∀ c, c ≠ 1093 → s.2 c = σ.2 c) ∧ BV φ Cm P pi S T by_ (gr2 (t + 1)) s col ∧ ∀ col', col ≤ col' → gJ s 1093 col' = gJ σ 1093 col') 15 (fun n col s hcol hs => by
    obtain ⟨j1, j2, j3, j4⟩ := hs
    have hcol : col < 15 := hcol
    have htold : gI s 1089 col = nt (if Cm.testBit col = true then ((cn col (bt Cm) : Nat) : Int) else -1) := by
      unfold gI; rw [j1, f2.1 1089 (by decide) (by decide)]; exact hTD col hcol
    have hcc := cn_bd (bt Cm) col
    have g39s : gI s 1067 39 = nt (gr2 (t + 1) : Nat) := by unfold gI; rw [j1]; exact gs39
    have b127 : ∀ x, f_X6_isNext_b127 N (fun x2_ σ_ => f_X6_isNext_h58 N (nt (k : Nat)) n x2_ σ_) (nt (k : Nat)) (nt (col : Nat)) x = f_X6_isNext_h58 N (nt (k : Nat)) n (nt ((col + 1 : Nat) : Int)) x := fun x => by
      rw [f_X6_isNext_b127, n_1, nt_add, bd_eq]; rfl
    show ∃ s', f_X6_isNext_h58 N (nt (k : Nat)) (n + 1) (nt (col : Nat)) s = f_X6_isNext_h58 N (nt (k : Nat)) n (nt ((col + 1 : Nat) : Int)) s' ∧ _
    rw [f_X6_isNext_h58, n15, le_f (by omega) (by omega) (by omega), ck_inb (by omega) (by omega) (by omega), nat_k (by omega), htold, n_0]
    by_cases qb : Cm.testBit col = true
    · obtain ⟨x1, x2⟩ := hV col hcol qb
      have v1 := (j4 col (Nat.le_refl _)).trans x1
      have v2 : gJ s 1092 (12 * col + k) = jl (tn φ Cm P pi S by_ (cn col (bt Cm)) k) := by
        unfold gJ; rw [j2 1092 (by decide)]; exact x2 k hkf
      have hfl := val_flip (P := P) (pi := pi) (S := S) (T := T) (by_ := by_) (i := cn col (bt Cm)) (g := gr2 t) hkf
      rw [← hgs] at hfl
      have b125 : ∀ y : Int, val φ Cm P pi S T by_ (cn col (bt Cm)) (gr2 t) + y = val φ Cm P pi S T by_ (cn col (bt Cm)) (gr2 (t + 1)) → f_X6_isNext_b125 N (fun x2_ σ_ => f_X6_isNext_h58 N (nt (k : Nat)) n x2_ σ_) (nt (k : Nat)) (nt (col : Nat)) (nt (col : Nat)) (jl (val φ Cm P pi S T by_ (cn col (bt Cm)) (gr2 t))) (jl y) s = f_X6_isNext_h58 N (nt (k : Nat)) n (nt ((col + 1 : Nat) : Int)) (sJ s 1093 col (jl (val φ Cm P pi S T by_ (cn col (bt Cm)) (gr2 (t + 1))))) := fun y hy => by
        rw [f_X6_isNext_b125, jl_add, hy, bd_eq, ck_inb (by omega) (by omega) (by omega), nat_k (by omega), bd_eq, b127]
      refine ⟨sJ s 1093 col (jl (val φ Cm P pi S T by_ (cn col (bt Cm)) (gr2 (t + 1)))), ?_, j1, fun c hc => by rw [sJ_o hc]; exact j2 c hc, fun col' hcol' hb' => ?_, fun col' hcol' => by rw [gJ_sJ_k (by omega)]; exact j4 col' (by omega)⟩
      · rw [if_pos qb, lt_f (by omega) (by omega) (by omega), ck_inb (by omega) (by omega) (by omega), g39s, nt_bit1 (by omega) (by omega), n_12, nt_mul, nt_add, nat_nt (by omega) (by omega), show ((12 : Int) * (col : Nat) + (k : Nat)).toNat = 12 * col + k by omega, v1, v2]
        by_cases qg : (gr2 (t + 1)).testBit k = true
        · rw [if_pos qg] at hfl
          rw [if_pos qg, ck_inb (by omega) (by omega) (by omega), j_2, jl_mul, b125 _ hfl.symm]
        · rw [if_neg qg] at hfl
          rw [if_neg qg, ck_inb (by omega) (by omega) (by omega), j_m2, jl_mul, b125 _ hfl.symm]
      · by_cases q2 : col' = col
        · subst q2
          refine ⟨by rw [gJ_sJ_at], fun k' hk' => ?_⟩
          rw [gJ_sJ_c (by decide)]
          unfold gJ
          rw [j2 1092 (by decide)]
          exact x2 k' hk'
        · obtain ⟨y1, y2⟩ := j3 col' (by omega) hb'
          exact ⟨by rw [gJ_sJ_k q2]; exact y1, fun k' hk' => by rw [gJ_sJ_c (by decide)]; exact y2 k' hk'⟩
    · rw [if_neg qb, lt_t (by omega) (by omega) (by omega), b127]
      refine ⟨s, rfl, j1, j2, fun col' hcol' hb' => ?_, fun col' hcol' => j4 col' (by omega)⟩
      by_cases q2 : col' = col
      · rw [q2] at hb'; exact absurd hb' qb
      · exact j3 col' (by omega) hb') 15 0 N s2 (by omega) (by omega) ⟨rfl, fun c _ => by rw [hJ2], fun col' hcol' => by omega, fun col' _ => by unfold gJ; rw [hJ2]⟩
  obtain ⟨m3, em3⟩ : ∃ m, N - 15 = m + 1 := ⟨N - 15 - 1, by omega⟩
  have e3 : f_X6_isNext_h58 N (nt (k : Nat)) N (nt 0) s2 = f_X6_isNext_h58 N (nt (k : Nat)) (N - 15) (nt 15) s3 := e3
  rw [em3, f_X6_isNext_h58, n15, le_t (by omega) (by omega) (by omega), n_1] at e3
  refine ⟨hlt, s3, hfind.trans e3, j3, ⟨?_, fun k' hk' => ?_, ?_, ?_⟩, ⟨fun c c1 c2 => by rw [j1]; exact f2.1 c c1 c2, fun k' a1 a2 a3 a4 => by unfold gI; rw [j1]; exact f2.2.1 k' a1 a2 a3 a4, fun c c1 c2 => j2 c c2⟩⟩
  · unfold gI; rw [j1, hs2]; show gI (sI s1 1067 39 (nt (gr2 (t + 1) : Nat))) 1067 36 = _; rw [gI_sI_k (by decide)]; exact g36
  · unfold gI; rw [j1, hs2, hs1]; show gI (sI (sI σ 1067 40 (nt ((t + 1 : Nat) : Int))) 1067 39 (nt (gr2 (t + 1) : Nat))) 1091 k' = _; rw [gI_sI_c (by decide), gI_sI_c (by decide)]; exact b2 k' hk'
  · unfold gI; rw [j1]; exact gs39
  · unfold gI; rw [j1, hs2]; show gI (sI s1 1067 39 (nt (gr2 (t + 1) : Nat))) 1067 40 = _; rw [gI_sI_k (by decide)]; exact g40
end
