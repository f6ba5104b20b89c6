-- ===== the reference joins: in its cells =====
section
variable {N : Nat} {σ : ZS} {φ : FR}
/-- labels stand in their cells -/
def JS (φ : FR) (σ : ZS) (v : Nat) (g : Nat → Nat) (s : ZS) : Prop := (∀ n, n < nn φ → gI s 1075 (7 * v + n) = nt (g n : Nat)) ∧ (∀ k, (k < 7 * v ∨ 7 * v + 7 ≤ k) → gI s 1075 k = gI σ 1075 k) ∧ (∀ c, c ≠ 1075 → s.1 c = σ.1 c) ∧ s.2 = σ.2
theorem srt_lies (w : WF φ) {v b : Nat} (hv : v < 2) (hb : b < nb φ) : srt φ v b = true ↔ (if φ.1 1 (φ.1 3 b).toNat = φ.1 1 (φ.1 4 b).toNat then (1 : Int) else 0) = if v = 0 then 1 else 0 := by
  obtain ⟨_, _, _, _, h5, h6, h7⟩ := w.2.2.2.1 b hb
  unfold srt vt
  rcases (show v = 0 ∨ v = 1 by omega) with rfl | rfl
  · rw [if_pos rfl]
    simp only [beq_iff_eq]
    split <;> simp <;> (unfold bOK at h7; omega)
  · rw [if_neg (show ¬ (1 : Nat) = 0 by omega)]
    simp only [beq_iff_eq]
    split <;> simp <;> (unfold bOK at h7; omega)
theorem m_join (w : WF φ) (hN : 200 ≤ N) (h : MFr σ φ) {v : Nat} (hv : v < 2) : ∃ τ, f_X6_join N (nt (v : Nat)) σ = some ((), τ) ∧ JS φ σ v (hdF φ v) τ := by
  have hw1 := w.1
  have hw2 := w.2.1
  have n7 : (7 : Int32) = nt 7 := rfl
  have hM : ∀ s : ZS, (∀ c, c ≠ 1075 → s.1 c = σ.1 c) → MFr s φ := fun s hs => MFr_same h (by unfold gI; rw [hs 1067 (by omega)]) (by unfold gI; rw [hs 1067 (by omega)]) (fun c c1 c2 => hs c (by omega))
  -- one bar
  have hbar : ∀ (kb : Int32 → ZS → Option (Unit × ZS)) (r : Int32) (n b : Nat) (g : Nat → Nat) (s : ZS), b < nb φ → JI φ v g → JS φ σ v g s → ∃ s', f_X6_join_h40 N kb (nt (v : Nat)) r (n + 1) (nt (b : Nat)) s = f_X6_join_h40 N kb (nt (v : Nat)) r n (nt ((b + 1 : Nat) : Int)) s' ∧ JS φ σ v (ju φ v b g) s' := by
    intro kb r n b g s hb hI hs
    obtain ⟨s1, s2, s3, s4⟩ := hs
    have hm := hM s s3
    have ha := ba_lt w hb
    have hz := bz_lt w hb
    obtain ⟨q3, q4, q5, q6, _⟩ := w.2.2.2.1 b hb
    have e1 : φ.1 3 b = (ba φ b : Nat) := by unfold ba; omega
    have e2 : φ.1 4 b = (bz φ b : Nat) := by unfold bz; omega
    have hga := (hI (ba φ b)).1
    have hgz := (hI (bz φ b)).1
    have b153 : ∀ s', f_X6_join_b153 N (fun x3_ σ_ => f_X6_join_h40 N kb (nt (v : Nat)) r n x3_ σ_) (nt (v : Nat)) r (nt (b : Nat)) s' = f_X6_join_h40 N kb (nt (v : Nat)) r n (nt ((b + 1 : Nat) : Int)) s' := fun s' => by
      rw [f_X6_join_b153, n_1, nt_add, bd_eq]; rfl
    have b115 : ∀ m : Nat, m = min (g (ba φ b)) (g (bz φ b)) → srt φ v b = true → ∃ s', f_X6_join_b115 N (fun x3_ σ_ => f_X6_join_h40 N kb (nt (v : Nat)) r n x3_ σ_) (nt (v : Nat)) r (nt (b : Nat)) (nt (m : Nat)) s = f_X6_join_h40 N kb (nt (v : Nat)) r n (nt ((b + 1 : Nat) : Int)) s' ∧ JS φ σ v (ju φ v b g) s' := fun m hmm hsr => by
      refine ⟨sI (sI s 1075 (7 * v + ba φ b) (nt (m : Nat))) 1075 (7 * v + bz φ b) (nt (m : Nat)), ?_, fun k hk => ?_, fun k hk => ?_, fun c hc => by rw [sI_o hc, sI_o hc]; exact s3 c hc, s4⟩
      · unfold f_X6_join_b115
        rw [ck_inb (by omega) (by omega) (by omega), nat_k (by omega), MFr_f hm hb, e1, n7, nt_mul, nt_add, ck_inb (by omega) (by omega) (by omega), nat_nt (by omega) (by omega), show ((7 : Int) * (v : Nat) + (ba φ b : Nat)).toNat = 7 * v + ba φ b by omega, bd_eq, ck_inb (by omega) (by omega) (by omega), gI_sI_c (by omega), MFr_g hm hb, e2, nt_add, ck_inb (by omega) (by omega) (by omega), nat_nt (by omega) (by omega), show ((7 : Int) * (v : Nat) + (bz φ b : Nat)).toNat = 7 * v + bz φ b by omega, bd_eq, b153]
      · unfold ju
        rw [if_pos hsr, gI_sI, gI_sI]
        by_cases k2 : k = bz φ b
        · rw [if_pos ⟨rfl, by omega⟩, if_pos (Or.inr k2), hmm]
        · rw [if_neg (by omega)]
          by_cases k1 : k = ba φ b
          · rw [if_pos ⟨rfl, by omega⟩, if_pos (Or.inl k1), hmm]
          · rw [if_neg (by omega), if_neg (by omega)]
            exact s1 k hk
      · rw [gI_sI_k (by omega), gI_sI_k (by omega)]
        exact s2 k hk
    have b62 : ∀ (l t : Int), l = (if φ.1 1 (φ.1 3 b).toNat = φ.1 1 (φ.1 4 b).toNat then 1 else 0) → t = (if v = 0 then 1 else 0) → ∃ s', f_X6_join_b62 N (fun x3_ σ_ => f_X6_join_h40 N kb (nt (v : Nat)) r n x3_ σ_) (nt (v : Nat)) r (nt (b : Nat)) (nt l) (nt t) s = f_X6_join_h40 N kb (nt (v : Nat)) r n (nt ((b + 1 : Nat) : Int)) s' ∧ JS φ σ v (ju φ v b g) s' := fun l t hl ht => by
      have hsl := srt_lies w hv hb
      rw [← hl, ← ht] at hsl
      have hlb : l = 0 ∨ l = 1 := by rw [hl]; split <;> simp
      have htb : t = 0 ∨ t = 1 := by rw [ht]; split <;> simp
      unfold f_X6_join_b62
      by_cases e : l = t
      · rw [eq_t e, ck_inb (by omega) (by omega) (by omega), nat_k (by omega), MFr_f hm hb, e1, n7, nt_mul, nt_add, ck_inb (by omega) (by omega) (by omega), nat_nt (by omega) (by omega), show ((7 : Int) * (v : Nat) + (ba φ b : Nat)).toNat = 7 * v + ba φ b by omega, s1 _ ha, bd_eq, ck_inb (by omega) (by omega) (by omega), MFr_g hm hb, e2, nt_add, ck_inb (by omega) (by omega) (by omega), nat_nt (by omega) (by omega), show ((7 : Int) * (v : Nat) + (bz φ b : Nat)).toNat = 7 * v + bz φ b by omega, s1 _ hz, bd_eq]
        by_cases e3 : g (bz φ b) ≤ g (ba φ b)
        · rw [le_t (by omega) (by omega) (by omega)]
          exact b115 _ (by omega) (hsl.mpr e)
        · rw [le_f (by omega) (by omega) (by omega)]
          exact b115 _ (by omega) (hsl.mpr e)
      · rw [eq_f e (by omega) (by omega) (by omega) (by omega), b153]
        refine ⟨s, rfl, ?_⟩
        unfold ju
        rw [if_neg (fun w => e (hsl.mp w))]
        exact ⟨s1, s2, s3, s4⟩
    rw [f_X6_join_h40, MFr_b hm, le_f (by omega) (by omega) (by omega), m_lies hm w hb, obd_some]
    rcases (show v = 0 ∨ v = 1 by omega) with rfl | rfl
    · have := b62 _ 1 rfl rfl
      exact this
    · have := b62 _ 0 rfl rfl
      exact this
  -- a round
  have hround : ∀ (n r : Nat) (s : ZS), r < nb φ → JS φ σ v (jr φ v r) s → ∃ s', f_X6_join_h30 N (nt (v : Nat)) (n + 1) (nt (r : Nat)) s = f_X6_join_h30 N (nt (v : Nat)) n (nt ((r + 1 : Nat) : Int)) s' ∧ JS φ σ v (jr φ v (r + 1)) s' := by
    intro n r s hr hs
    obtain ⟨s', e, hI⟩ := lp_inv (fun m b s => f_X6_join_h40 N (fun x2_ σ_ => f_X6_join_h30 N (nt (v : Nat)) n x2_ σ_) (nt (v : Nat)) (nt (r : Nat)) m (nt (b : Nat)) s) (fun b s => JS φ σ v (jb φ v b (jr φ v r)) s) (nb φ) (fun m b s hb hs => hbar _ _ m b _ s hb (jb_I (jr_I r) b (by have : b < nb φ := hb; omega)) hs) (nb φ) 0 N s (by omega) (by omega) hs
    obtain ⟨m, em⟩ : ∃ m, N - nb φ = m + 1 := ⟨N - nb φ - 1, by omega⟩
    have e : f_X6_join_h40 N (fun x2_ σ_ => f_X6_join_h30 N (nt (v : Nat)) n x2_ σ_) (nt (v : Nat)) (nt (r : Nat)) N (0 : Int32) s = f_X6_join_h40 N (fun x2_ σ_ => f_X6_join_h30 N (nt (v : Nat)) n x2_ σ_) (nt (v : Nat)) (nt (r : Nat)) (N - nb φ) (nt (nb φ : Nat)) s' := e
    refine ⟨s', ?_, hI⟩
    rw [f_X6_join_h30, MFr_b (hM s hs.2.2.1), le_f (by omega) (by omega) (by omega), e, em, f_X6_join_h40, MFr_b (hM s' hI.2.2.1), le_t (by omega) (by omega) (by omega), n_1, nt_add, bd_eq]
    rfl
  -- the start
  obtain ⟨s0, e0, h0⟩ := lp_inv (fun m n s => f_X6_join_h2 N (nt (v : Nat)) m (nt (n : Nat)) s) (fun t s => (∀ n, n < t → gI s 1075 (7 * v + n) = nt (n : Nat)) ∧ (∀ k, (k < 7 * v ∨ 7 * v + 7 ≤ k) → gI s 1075 k = gI σ 1075 k) ∧ (∀ c, c ≠ 1075 → s.1 c = σ.1 c) ∧ s.2 = σ.2) (nn φ) (fun m t s ht hs => by
    obtain ⟨s1, s2, s3, s4⟩ := hs
    have ht : t < nn φ := ht
    refine ⟨sI s 1075 (7 * v + t) (nt (t : Nat)), ?_, fun n hn => ?_, fun k hk => by rw [gI_sI_k (by omega)]; exact s2 k hk, fun c hc => by rw [sI_o hc]; exact s3 c hc, s4⟩
    · rw [f_X6_join_h2, MFr_n (hM s s3), le_f (by omega) (by omega) (by omega), n7, nt_mul, nt_add, ck_inb (by omega) (by omega) (by omega), nat_nt (by omega) (by omega), show ((7 : Int) * (v : Nat) + (t : Nat)).toNat = 7 * v + t by omega, bd_eq, n_1, nt_add, bd_eq]
      rfl
    · by_cases a : n = t
      · subst a; rw [gI_sI_at]
      · rw [gI_sI_k (by omega)]; exact s1 n (by omega)) (nn φ) 0 N σ (by omega) (by omega) ⟨fun n hn => by omega, fun _ _ => rfl, fun _ _ => rfl, rfl⟩
  obtain ⟨s1, e1, h1⟩ := lp_inv (fun m r s => f_X6_join_h30 N (nt (v : Nat)) m (nt (r : Nat)) s) (fun r s => JS φ σ v (jr φ v r) s) (nb φ) (fun m r s hr hs => hround m r s hr hs) (nb φ) 0 N s0 (by omega) (by omega) h0
  obtain ⟨m0, em0⟩ : ∃ m, N - nn φ = m + 1 := ⟨N - nn φ - 1, by omega⟩
  obtain ⟨m1, em1⟩ : ∃ m, N - nb φ = m + 1 := ⟨N - nb φ - 1, by omega⟩
  have e0 : f_X6_join_h2 N (nt (v : Nat)) N (0 : Int32) σ = f_X6_join_h2 N (nt (v : Nat)) (N - nn φ) (nt (nn φ : Nat)) s0 := e0
  have e1 : f_X6_join_h30 N (nt (v : Nat)) N (0 : Int32) s0 = f_X6_join_h30 N (nt (v : Nat)) (N - nb φ) (nt (nb φ : Nat)) s1 := e1
  refine ⟨s1, ?_, fun n hn => by rw [h1.1 n hn, jr_hd (by omega)], h1.2⟩
  unfold f_X6_join
  rw [e0, em0, f_X6_join_h2, MFr_n (hM s0 h0.2.2.1), le_t (by omega) (by omega) (by omega), e1, em1, f_X6_join_h30, MFr_b (hM s1 h1.2.2.1), le_t (by omega) (by omega) (by omega)]
end
