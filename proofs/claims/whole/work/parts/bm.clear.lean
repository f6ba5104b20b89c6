-- ===== the reference swaps rows and clears a column =====
theorem sk_us {m j : Nat} (h : j ≠ m) : sk m (us m j) = j := by
  unfold sk us
  by_cases h1 : j < m
  · rw [if_pos h1, if_pos h1]
  · rw [if_neg h1, if_neg (by omega)]; omega
/-- a sum in another order -/
theorem sZ_perm : ∀ (n : Nat) (pi : Nat → Nat) (g : Nat → Int), inj n pi → (∀ i, i < n → pi i < n) → sZ n (fun i => g (pi i)) = sZ n g := by
  intro n
  induction n with
  | zero => intro _ _ _ _; rfl
  | succ n ih =>
    intro pi g hi hb
    have hne : ∀ i, i < n → pi i ≠ pi n := fun i hi2 q => by have := hi i n (by omega) (by omega) q; omega
    have hm := hb n (by omega)
    rw [sZ_s, sZ_skip g n (pi n) (by omega)]
    have h1 := ih (fun i => us (pi n) (pi i)) (fun r => g (sk (pi n) r)) (fun a b ha hb2 q => by
      have h1 := hne a ha
      have h2 := hne b hb2
      refine hi a b (by omega) (by omega) ?_
      have q : us (pi n) (pi a) = us (pi n) (pi b) := q
      rw [← sk_us h1, q, sk_us h2]) (fun i hi2 => by
      have h1 := hne i hi2
      have h2 := hb i (by omega)
      show us (pi n) (pi i) < n
      unfold us
      split <;> omega)
    rw [← h1, Int.add_comm]
    congr 1
    refine sZ_congr (fun i hi2 => ?_)
    try dsimp only
    rw [sk_us (hne i hi2)]
/-- a sum over those that are there, by their places -/
theorem sZ_bits (b : Nat → Bool) (g : Nat → Int) : ∀ n : Nat, sZ n (fun k => if b k = true then g (cn k b) else 0) = sZ (cn n b) g := by
  intro n
  induction n with
  | zero => rfl
  | succ n ih =>
    rw [sZ_s, ih, cn_s]
    by_cases q : b n = true
    · rw [if_pos q, if_pos q, sZ_s]
    · rw [if_neg q, if_neg q, Int.add_zero]; rfl
section
variable {N : Nat} {σ : ZS} {φ : FR}
/-- two places changed with one another -/
def tr2 (a b i : Nat) : Nat := if i = a then b else if i = b then a else i
theorem m_swap (hN : 200 ≤ N) {a b : Nat} (ha : a < 12) (hb : b < 12) : ∃ τ, f_X6_swap N (nt (a : Nat)) (nt (b : Nat)) σ = some ((), τ) ∧ τ.1 = σ.1 ∧ (∀ c, c ≠ 1088 → τ.2 c = σ.2 c) ∧ ∀ i j, i < 12 → j < 15 → gJ τ 1088 (15 * i + j) = gJ σ 1088 (15 * tr2 a b i + j) := by
  have n15 : (15 : Int32) = nt 15 := rfl
  obtain ⟨s, es, h1, h2, h3⟩ := lp_inv (fun n k s => f_X6_swap_h2 N (nt (a : Nat)) (nt (b : Nat)) n (nt (k : Nat)) s) (fun k s => s.1 = σ.1 ∧ (∀ c, c ≠ 1088 → s.2 c = σ.2 c) ∧ ∀ i j, i < 12 → j < 15 → gJ s 1088 (15 * i + j) = if j < k then gJ σ 1088 (15 * tr2 a b i + j) else gJ σ 1088 (15 * i + j)) 15 (fun n k s hk hs => by
    obtain ⟨a1, a2, a3⟩ := hs
    have hk : k < 15 := hk
    have va := a3 a k ha hk
    have vb := a3 b k hb hk
    rw [if_neg (by omega)] at va vb
    refine ⟨sJ (sJ s 1088 (15 * a + k) (gJ σ 1088 (15 * b + k))) 1088 (15 * b + k) (gJ σ 1088 (15 * a + k)), ?_, a1, fun c hc => by rw [sJ_o hc, sJ_o hc]; exact a2 c hc, fun i j hi hj => ?_⟩
    · show f_X6_swap_h2 N (nt (a : Nat)) (nt (b : Nat)) (n + 1) (nt (k : Nat)) s = _
      rw [f_X6_swap_h2, n15, le_f (by omega) (by omega) (by omega), nt_mul, nt_add, ck_inb (by omega) (by omega) (by omega), nat_nt (by omega) (by omega), show ((15 : Int) * (a : Nat) + (k : Nat)).toNat = 15 * a + k by omega, va, bd_eq, nt_mul, nt_add, ck_inb (by omega) (by omega) (by omega), nat_nt (by omega) (by omega), show ((15 : Int) * (b : Nat) + (k : Nat)).toNat = 15 * b + k by omega, vb, bd_eq, ck_inb (by omega) (by omega) (by omega), bd_eq, ck_inb (by omega) (by omega) (by omega), bd_eq, n_1, nt_add, bd_eq]
      rfl
    · unfold tr2
      by_cases q : j = k
      · subst q
        by_cases qb : i = b
        · subst qb
          rw [gJ_sJ_at, if_pos (by omega)]
          by_cases qa : i = a
          · subst qa; rw [if_pos rfl]
          · rw [if_neg qa, if_pos rfl]
        · rw [gJ_sJ_k (by omega), if_pos (by omega)]
          by_cases qa : i = a
          · subst qa; rw [gJ_sJ_at, if_pos rfl]
          · rw [gJ_sJ_k (by omega), if_neg qa, if_neg qb, a3 i j hi hj, if_neg (by omega)]
      · rw [gJ_sJ_k (by omega), gJ_sJ_k (by omega), a3 i j hi hj]
        unfold tr2
        by_cases q2 : j < k
        · rw [if_pos q2, if_pos (show j < k + 1 by omega)]
        · rw [if_neg q2, if_neg (show ¬ j < k + 1 by omega)]) 15 0 N σ (by omega) (by omega) ⟨rfl, fun _ _ => rfl, fun i j _ _ => by rw [if_neg (by omega)]⟩
  obtain ⟨m, em⟩ : ∃ m, N - 15 = m + 1 := ⟨N - 15 - 1, by omega⟩
  have es : f_X6_swap_h2 N (nt (a : Nat)) (nt (b : Nat)) N (0 : Int32) σ = f_X6_swap_h2 N (nt (a : Nat)) (nt (b : Nat)) (N - 15) (nt 15) s := es
  refine ⟨s, ?_, h1, h2, fun i j hi hj => by rw [h3 i j hi hj, if_pos hj]⟩
  unfold f_X6_swap
  rw [es, em, f_X6_swap_h2, n15, le_t (by omega) (by omega) (by omega)]
theorem m_clear (hN : 200 ≤ N) {d a col : Nat} (hd12 : d ≤ 12) (h10 : gI σ 1067 10 = nt (d : Nat)) (ha : a < d) (hcol : col < 15) {L L' : Nat → Nat → Int} {B : Int} (hL : ∀ i k, i < d → k < 15 → gJ σ 1088 (15 * i + k) = jl (L i k)) (hB : gJ σ 1067 29 = jl B) (hB0 : B ≠ 0) (hBr : B.natAbs ≤ 4000000000000000000) (hst : ∀ i k, i < d → i ≠ a → k < 15 → L i k * L a col - L i col * L a k = B * L' i k) (hsame : ∀ k, k < 15 → L' a k = L a k) (hbd : ∀ i k, i < d → i ≠ a → k < 15 → (B * L' i k).natAbs ≤ 4000000000000000000) : ∃ τ, f_X6_clear N (nt (a : Nat)) (nt (col : Nat)) σ = some ((), τ) ∧ τ.1 = σ.1 ∧ (∀ c, c ≠ 1067 → c ≠ 1088 → τ.2 c = σ.2 c) ∧ (∀ k, k ≠ 29 → gJ τ 1067 k = gJ σ 1067 k) ∧ gJ τ 1067 29 = jl (L a col) ∧ ∀ i k, i < d → k < 15 → gJ τ 1088 (15 * i + k) = jl (L' i k) := by
  have n15 : (15 : Int32) = nt 15 := rfl
  obtain ⟨s, es, h1, h2, h3⟩ := lp_inv (fun n i s => f_X6_clear_h15 N (nt (a : Nat)) (nt (col : Nat)) (jl (L a col)) n (nt (i : Nat)) s) (fun i s => s.1 = σ.1 ∧ (∀ c, c ≠ 1088 → s.2 c = σ.2 c) ∧ ∀ i' k', i' < d → k' < 15 → gJ s 1088 (15 * i' + k') = jl (if i' < i then L' i' k' else L i' k')) d (fun n i s hi hs => by
    obtain ⟨a1, a2, a3⟩ := hs
    have hi : i < d := hi
    have h10s : gI s 1067 10 = nt (d : Nat) := by unfold gI; rw [a1]; exact h10
    have hmu := a3 i col hi hcol
    rw [if_neg (by omega)] at hmu
    have b109 : ∀ t, f_X6_clear_b109 N (fun x5_ σ_ => f_X6_clear_h15 N (nt (a : Nat)) (nt (col : Nat)) (jl (L a col)) n x5_ σ_) (nt (a : Nat)) (nt (col : Nat)) (jl (L a col)) (nt (i : Nat)) t = f_X6_clear_h15 N (nt (a : Nat)) (nt (col : Nat)) (jl (L a col)) n (nt ((i + 1 : Nat) : Int)) t := fun t => by
      rw [f_X6_clear_b109, n_1, nt_add, bd_eq]; rfl
    show ∃ s', f_X6_clear_h15 N (nt (a : Nat)) (nt (col : Nat)) (jl (L a col)) (n + 1) (nt (i : Nat)) s = f_X6_clear_h15 N (nt (a : Nat)) (nt (col : Nat)) (jl (L a col)) n (nt ((i + 1 : Nat) : Int)) s' ∧ _
    rw [f_X6_clear_h15, h10s, le_f (by omega) (by omega) (by omega), n15, nt_mul, nt_add, ck_inb (by omega) (by omega) (by omega), nat_nt (by omega) (by omega), show ((15 : Int) * (i : Nat) + (col : Nat)).toNat = 15 * i + col by omega, hmu, bd_eq]
    by_cases q : i = a
    · -- the row itself
      obtain ⟨m, em⟩ : ∃ m, N = m + 1 := ⟨N - 1, by omega⟩
      have h41 : ∀ m, f_X6_clear_h41 N (fun x5_ σ_ => f_X6_clear_h15 N (nt (a : Nat)) (nt (col : Nat)) (jl (L a col)) n x5_ σ_) (nt (a : Nat)) (nt (col : Nat)) (jl (L a col)) (nt (i : Nat)) (jl (L i col)) (m + 1) (0 : Int32) s = f_X6_clear_h15 N (nt (a : Nat)) (nt (col : Nat)) (jl (L a col)) n (nt ((i + 1 : Nat) : Int)) s := fun m => by
        rw [f_X6_clear_h41, n15, n_0, le_f (by omega) (by omega) (by omega), eq_t (by omega), b109]
      have h41 := h41 m
      rw [← em] at h41
      refine ⟨s, h41, a1, a2, fun i' k' hi' hk' => ?_⟩
      rw [a3 i' k' hi' hk']
      by_cases q2 : i' < i
      · rw [if_pos q2, if_pos (by omega)]
      · rw [if_neg q2]
        by_cases q3 : i' = i
        · rw [if_pos (by omega), q3, q, hsame k' hk']
        · rw [if_neg (by omega)]
    · obtain ⟨t, et, c1, c2, c3⟩ := lp_inv (fun m k t => f_X6_clear_h41 N (fun x5_ σ_ => f_X6_clear_h15 N (nt (a : Nat)) (nt (col : Nat)) (jl (L a col)) n x5_ σ_) (nt (a : Nat)) (nt (col : Nat)) (jl (L a col)) (nt (i : Nat)) (jl (L i col)) m (nt (k : Nat)) t) (fun k t => t.1 = σ.1 ∧ (∀ c, c ≠ 1088 → t.2 c = σ.2 c) ∧ ∀ i' k', i' < d → k' < 15 → gJ t 1088 (15 * i' + k') = jl (if i' < i ∨ (i' = i ∧ k' < k) then L' i' k' else L i' k')) 15 (fun m k t hk ht => by
        obtain ⟨c1, c2, c3⟩ := ht
        have hk : k < 15 := hk
        have vi := c3 i k hi hk
        rw [if_neg (by omega)] at vi
        have va : gJ t 1088 (15 * a + k) = jl (L a k) := by
          rw [c3 a k ha hk]
          by_cases q2 : a < i
          · rw [if_pos (Or.inl q2), hsame k hk]
          · rw [if_neg (by omega)]
        have vb : gJ t 1067 29 = jl B := by unfold gJ; rw [c2 1067 (by decide)]; exact hB
        have hv := hst i k hi q hk
        have hbv := hbd i k hi q hk
        have htd : (B * L' i k).tdiv B = L' i k := Int.mul_tdiv_cancel_left _ hB0
        refine ⟨sJ t 1088 (15 * i + k) (jl (L' i k)), ?_, c1, fun c hc => by rw [sJ_o hc]; exact c2 c hc, fun i' k' hi' hk' => ?_⟩
        · show f_X6_clear_h41 N (fun x5_ σ_ => f_X6_clear_h15 N (nt (a : Nat)) (nt (col : Nat)) (jl (L a col)) n x5_ σ_) (nt (a : Nat)) (nt (col : Nat)) (jl (L a col)) (nt (i : Nat)) (jl (L i col)) (m + 1) (nt (k : Nat)) t = _
          rw [f_X6_clear_h41, n15, le_f (by omega) (by omega) (by omega), eq_f (by omega) (by omega) (by omega) (by omega) (by omega), nt_mul, nt_add, ck_inb (by omega) (by omega) (by omega), nt_mul, nt_add, ck_inb (by omega) (by omega) (by omega), vb, ck_j0 hB0 (by omega) (by omega), nat_nt (by omega) (by omega), nat_nt (by omega) (by omega), show ((15 : Int) * (i : Nat) + (k : Nat)).toNat = 15 * i + k by omega, show ((15 : Int) * (a : Nat) + (k : Nat)).toNat = 15 * a + k by omega, vi, va, jl_mul, jl_mul, jl_sub, hv, jl_div ⟨by omega, by omega⟩ ⟨by omega, by omega⟩, htd, bd_eq, ck_inb (by omega) (by omega) (by omega), bd_eq, n_1, nt_add, bd_eq]
          rfl
        · by_cases q2 : i' = i ∧ k' = k
          · obtain ⟨rfl, rfl⟩ := q2
            rw [gJ_sJ_at, if_pos (by omega)]
          · rw [gJ_sJ_k (by omega), c3 i' k' hi' hk']
            by_cases q3 : i' < i ∨ (i' = i ∧ k' < k)
            · rw [if_pos q3, if_pos (by omega)]
            · rw [if_neg q3, if_neg (by omega)]) 15 0 N s (by omega) (by omega) ⟨a1, a2, fun i' k' hi' hk' => by
          rw [a3 i' k' hi' hk']
          by_cases q2 : i' < i
          · rw [if_pos q2, if_pos (Or.inl q2)]
          · rw [if_neg q2, if_neg (by omega)]⟩
      obtain ⟨m, em⟩ : ∃ m, N - 15 = m + 1 := ⟨N - 15 - 1, by omega⟩
      have et : f_X6_clear_h41 N (fun x5_ σ_ => f_X6_clear_h15 N (nt (a : Nat)) (nt (col : Nat)) (jl (L a col)) n x5_ σ_) (nt (a : Nat)) (nt (col : Nat)) (jl (L a col)) (nt (i : Nat)) (jl (L i col)) N (0 : Int32) s = f_X6_clear_h41 N (fun x5_ σ_ => f_X6_clear_h15 N (nt (a : Nat)) (nt (col : Nat)) (jl (L a col)) n x5_ σ_) (nt (a : Nat)) (nt (col : Nat)) (jl (L a col)) (nt (i : Nat)) (jl (L i col)) (N - 15) (nt 15) t := et
      rw [em, f_X6_clear_h41, n15, le_t (by omega) (by omega) (by omega), b109] at et
      refine ⟨t, et, c1, c2, fun i' k' hi' hk' => ?_⟩
      rw [c3 i' k' hi' hk']
      by_cases q3 : i' < i + 1
      · rw [if_pos q3, if_pos (by omega)]
      · rw [if_neg q3, if_neg (by omega)]) d 0 N σ (by omega) (by omega) ⟨rfl, fun _ _ => rfl, fun i' k' hi' hk' => by rw [if_neg (by omega)]; exact hL i' k' hi' hk'⟩
  obtain ⟨m, em⟩ : ∃ m, N - d = m + 1 := ⟨N - d - 1, by omega⟩
  have es : f_X6_clear_h15 N (nt (a : Nat)) (nt (col : Nat)) (jl (L a col)) N (0 : Int32) σ = f_X6_clear_h15 N (nt (a : Nat)) (nt (col : Nat)) (jl (L a col)) (N - d) (nt (d : Nat)) s := es
  have h10s : gI s 1067 10 = nt (d : Nat) := by unfold gI; rw [h1]; exact h10
  refine ⟨sJ s 1067 29 (jl (L a col)), ?_, h1, fun c c1 c2 => by rw [sJ_o c1]; exact h2 c c2, fun k hk => by rw [gJ_sJ_k hk]; unfold gJ; rw [h2 1067 (by decide)], by rw [gJ_sJ_at], fun i k hi hk => by rw [gJ_sJ_c (by decide), h3 i k hi hk, if_pos hi]⟩
  unfold f_X6_clear
  rw [n15, nt_mul, nt_add, ck_inb (by omega) (by omega) (by omega), nat_nt (by omega) (by omega), show ((15 : Int) * (a : Nat) + (col : Nat)).toNat = 15 * a + col by omega, hL a col ha hcol, bd_eq, es, em, f_X6_clear_h15, h10s, le_t (by omega) (by omega) (by omega), bd_eq]
end
