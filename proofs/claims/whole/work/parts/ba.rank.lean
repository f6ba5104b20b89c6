-- ===== the reference counts the rows that are other than one another =====
section
variable {N : Nat} {σ : ZS} {φ : FR}
theorem STR_o {τ : ZS} {l : Nat} {E P : Nat → Nat} {V : Nat → Nat → Int} (h : STR φ σ l E P V) (h1 : ∀ k, k < l → gI τ 1079 k = gI σ 1079 k) (h2 : ∀ p, p < 21 * l → gJ τ 1078 p = gJ σ 1078 p) : STR φ τ l E P V := by
  have hdd := dd_le (φ := φ)
  refine ⟨h.1, fun k hk => ?_⟩
  obtain ⟨a1, a2, a3, a4⟩ := h.2 k hk
  exact ⟨by rw [h1 k hk]; exact a1, fun j hj => by rw [h2 _ (by omega)]; exact a2 j hj, a3, a4⟩
theorem STR_lt {l l' : Nat} {E P : Nat → Nat} {V : Nat → Nat → Int} (h : STR φ σ l E P V) (hl : l' ≤ l) : STR φ σ l' E P V := ⟨SP_lt h.1 hl, fun k hk => h.2 k (by omega)⟩
theorem STR_put {l e j : Nat} {E P : Nat → Nat} {V : Nat → Nat → Int} {v : Nat → Int} (h : STR φ σ l E P V) (he : e < 2 * nb φ) (hj : j < dd φ) (ha : alg (dd φ) v (TS φ (YS E P l) e)) (hb : ∀ j, j < dd φ → (v j).natAbs ≤ 67108864) (hv : v j ≠ 0) : STR φ (sI (oJ σ 1078 (21 * l) (dd φ) (fun j => jl (v j))) 1079 l (nt (j : Nat))) (l + 1) (upN E l e) (upN P l j) (fun k => if k = l then v else V k) := by
  have hdd := dd_le (φ := φ)
  have hc : ∀ k, k < l → E k = upN E l e k ∧ P k = upN P l j k := fun k hk => by
    unfold upN
    rw [if_neg (by omega), if_neg (by omega)]
    exact ⟨rfl, rfl⟩
  have hc' : ∀ {k}, k ≤ l → YS (upN E l e) (upN P l j) k = YS E P k := fun {k} hk => (YS_congr (fun i hi => hc i (by omega))).symm
  have eE : upN E l e l = e := by unfold upN; rw [if_pos rfl]
  have eP : upN P l j l = j := by unfold upN; rw [if_pos rfl]
  have hT : TS φ (YS E P l) e j ≠ 0 := fun q => by
    obtain ⟨a, b, a0, b0, f⟩ := ha
    have := f j hj
    rw [q, Int.mul_zero] at this
    rcases Int.mul_eq_zero.mp this with h | h
    · exact a0 h
    · exact hv h
  refine ⟨fun k hk => ?_, fun k hk => ?_⟩
  · by_cases q : k = l
    · subst q
      rw [eE, eP, hc' (Nat.le_refl _)]
      exact ⟨he, hj, hT⟩
    · rw [← (hc k (by omega)).1, ← (hc k (by omega)).2, hc' (by omega)]
      exact h.1 k (by omega)
  · by_cases q : k = l
    · subst q
      try dsimp only
      rw [eE, eP, hc' (Nat.le_refl _), if_pos rfl]
      exact ⟨gI_sI_at _ _ _ _, fun i hi => Ro_oJ (σ := σ) i hi, ha, hb⟩
    · obtain ⟨a1, a2, a3, a4⟩ := h.2 k (by omega)
      try dsimp only
      rw [← (hc k (by omega)).1, ← (hc k (by omega)).2, hc' (by omega), if_neg q]
      refine ⟨by rw [gI_sI_k q]; exact a1, fun i hi => ?_, a3, a4⟩
      show gJ (oJ σ 1078 (21 * l) (dd φ) (fun j => jl (v j))) 1078 (21 * k + i) = jl (V k i)
      rw [gJ_oJ, if_neg (by omega)]
      exact a2 i hi
/-- ends at all places: no motion is without a twist -/
theorem SP_full (w : WF φ) {l : Nat} {E P : Nat → Nat} (h : SP φ l E P) : l ≤ dd φ ∧ (l = dd φ → NLF φ) := by
  have hi := SP_inj w h
  refine ⟨inj_le hi (fun k hk => (h k hk).2.1), fun hl => ?_⟩
  subst hl
  refine AE_NL w (Y := YS E P (dd φ)) ⟨fun j hj => ?_, Dt_YS w h⟩
  obtain ⟨k, hk, rfl⟩ := inj_on hi (fun k hk => (h k hk).2.1) j hj
  rw [YS_at w h k hk]
  exact (h k hk).1
/-- the ends put so far tell all ends before one -/
def RkI (φ : FR) (σ s : ZS) (e : Nat) : Prop := (∃ E P V, STR φ s (cn e (pvt φ)) E P V ∧ (∀ k, k < cn e (pvt φ) → E k < e) ∧ ∀ q : Nat → Int, (∀ k, k < cn e (pvt φ) → tw φ (E k) q = 0) → ∀ e', e' < e → tw φ e' q = 0) ∧ gI s 1067 11 = nt (cn e (pvt φ) : Nat) ∧ (∀ c, c ≠ 1067 → c ≠ 1079 → s.1 c = σ.1 c) ∧ (∀ k, k ≠ 11 → gI s 1067 k = gI σ 1067 k) ∧ ∀ c, c ≠ 1078 → s.2 c = σ.2 c
theorem m_layRank (w : WF φ) (hN : 200 ≤ N) (h10 : gI σ 1067 10 = nt (dd φ : Nat)) (hb : gI σ 1067 4 = nt (nb φ : Nat)) (hR : ∀ e j, e < 2 * nb φ → j < 21 → gJ σ 1077 (21 * e + j) = jl (Rz φ e j)) : ∃ τ, f_X6_layRank N σ = some ((), τ) ∧ gI τ 1067 11 = nt (rk φ : Nat) ∧ (∀ c, c ≠ 1067 → c ≠ 1079 → τ.1 c = σ.1 c) ∧ (∀ k, k ≠ 11 → gI τ 1067 k = gI σ 1067 k) ∧ (∀ c, c ≠ 1078 → τ.2 c = σ.2 c) ∧ rk φ ≤ dd φ ∧ (rk φ = dd φ → NLF φ) := by
  have hw2 := w.2.1
  have hstart : RkI φ σ (sI σ 1067 11 (nt 0)) 0 := by
    refine ⟨⟨fun _ => 0, fun _ => 0, fun _ _ => 0, ⟨fun k hk => absurd hk (Nat.not_lt_zero _), fun k hk => absurd hk (Nat.not_lt_zero _)⟩, fun k hk => absurd hk (Nat.not_lt_zero _), fun q _ e' he' => absurd he' (Nat.not_lt_zero _)⟩, gI_sI_at _ _ _ _, fun c hc _ => sI_o hc, fun k hk => by rw [gI_sI_k hk], fun _ _ => rfl⟩
  obtain ⟨s, es, hs⟩ := lp_inv (fun n e s => f_X6_layRank_h7 N n (nt (e : Nat)) s) (fun e s => RkI φ σ s e) (2 * nb φ) (fun n e s he hs => by
    obtain ⟨⟨E, P, V, a1, a2, a3⟩, b1, b2, b3, b4⟩ := hs
    have he : e < 2 * nb φ := he
    have hcn := cn_bd (pvt φ) e
    have hcs : cn (e + 1) (pvt φ) = cn e (pvt φ) + (if pvt φ e = true then 1 else 0) := cn_s e (pvt φ)
    have h10' : gI s 1067 10 = nt (dd φ : Nat) := by rw [b3 10 (by decide)]; exact h10
    have hb' : gI s 1067 4 = nt (nb φ : Nat) := by rw [b3 4 (by decide)]; exact hb
    have hR' : ∀ e j, e < 2 * nb φ → j < 21 → gJ s 1077 (21 * e + j) = jl (Rz φ e j) := fun e j x y => by
      unfold gJ; rw [b4 1077 (by decide)]; exact hR e j x y
    obtain ⟨v, v1, v2, v3⟩ := m_isPut (N := N) w hN h10' hR' (l := cn e (pvt φ)) (e := e) (by omega) he a1
    have b39 : ∀ (t : ZS) (x : Int), f_X6_layRank_b39 N (fun x1_ σ_ => f_X6_layRank_h7 N n x1_ σ_) (nt (e : Nat)) (nt (cn e (pvt φ) : Nat)) (nt x) t = f_X6_layRank_h7 N n (nt ((e + 1 : Nat) : Int)) (sI t 1067 11 (nt ((cn e (pvt φ) : Nat) + x))) := fun t x => by
      rw [f_X6_layRank_b39, nt_add, bd_eq, bd_eq, n_1, nt_add, bd_eq]; rfl
    show ∃ s', f_X6_layRank_h7 N (n + 1) (nt (e : Nat)) s = f_X6_layRank_h7 N n (nt ((e + 1 : Nat) : Int)) s' ∧ RkI φ σ s' (e + 1)
    rcases v3 with ⟨j, hj, hvj, f1⟩ | ⟨hv0, f1⟩
    · -- put: it twists where the others don't
      have hT : TS φ (YS E P (cn e (pvt φ))) e j ≠ 0 := fun q => by
        obtain ⟨a, b, a0, b0, f⟩ := v1
        have := f j hj
        rw [q, Int.mul_zero] at this
        rcases Int.mul_eq_zero.mp this with h | h
        · exact a0 h
        · exact hvj h
      obtain ⟨x1, x2⟩ := TS_n w a1.1 hj hT
      have hp : pvt φ e = true := cd_iff.mpr ⟨_, a3 _ x1, x2⟩
      rw [if_pos hp] at hcs
      have hst := STR_put a1 he hj v1 v2 hvj
      rw [f_X6_layRank_h7, hb', n_2, nt_mul, le_f (by omega) (by omega) (by omega), b1, f1, obd_some, if_neg (by decide), n_1, b39]
      refine ⟨_, rfl, ⟨upN E (cn e (pvt φ)) e, upN P (cn e (pvt φ)) j, fun k => if k = cn e (pvt φ) then v else V k, ?_, fun k hk => ?_, fun q hq e' he' => ?_⟩, ?_, fun c hc hc2 => ?_, fun k hk => ?_, fun c hc => ?_⟩
      · rw [hcs]
        exact STR_o hst (fun k _ => by rw [gI_sI_c (by decide)]) (fun _ _ => rfl)
      · unfold upN
        split
        · omega
        · have := a2 k (by omega); omega
      · have hqk : ∀ k, k < cn e (pvt φ) → tw φ (E k) q = 0 := fun k hk => by
          have := hq k (by omega)
          unfold upN at this
          rw [if_neg (by omega)] at this
          exact this
        by_cases q2 : e' = e
        · have := hq (cn e (pvt φ)) (by omega)
          unfold upN at this
          rw [if_pos rfl] at this
          rw [q2]; exact this
        · exact a3 q hqk e' (by omega)
      · rw [gI_sI_at, hcs]; rfl
      · rw [sI_o hc, sI_o hc2]; exact b2 c hc hc2
      · rw [gI_sI_k hk, gI_sI_c (by decide)]; exact b3 k hk
      · show (oJ s 1078 (21 * cn e (pvt φ)) (dd φ) (fun j => jl (v j))).2 c = σ.2 c
        rw [oJ_o hc]; exact b4 c hc
    · -- not put: the others tell it
      have hz : ∀ j, j < dd φ → TS φ (YS E P (cn e (pvt φ))) e j = 0 := fun j hj => by
        obtain ⟨a, b, a0, b0, f⟩ := v1
        have := f j hj
        rw [hv0 j hj, Int.mul_zero] at this
        exact (Int.mul_eq_zero.mp this.symm).resolve_left b0
      have hq0 : ∀ q : Nat → Int, (∀ k, k < cn e (pvt φ) → tw φ (E k) q = 0) → tw φ e q = 0 := fun q hq => TS_z w a1.1 hz q hq
      have hp : ¬ pvt φ e = true := fun hp => by
        obtain ⟨q, x1, x2⟩ := cd_iff.mp hp
        exact x2 (hq0 q (fun k hk => x1 _ (a2 k hk)))
      rw [if_neg hp] at hcs
      have hcs : cn (e + 1) (pvt φ) = cn e (pvt φ) := hcs
      rw [f_X6_layRank_h7, hb', n_2, nt_mul, le_f (by omega) (by omega) (by omega), b1, f1, obd_some, if_pos (by decide), n_0, b39]
      refine ⟨_, rfl, ⟨E, P, V, ?_, fun k hk => ?_, fun q hq e' he' => ?_⟩, ?_, fun c hc hc2 => ?_, fun k hk => ?_, fun c hc => ?_⟩
      · rw [hcs]
        refine STR_o a1 (fun k _ => by rw [gI_sI_c (by decide)]; rfl) (fun p hp => ?_)
        show gJ (oJ s 1078 (21 * cn e (pvt φ)) (dd φ) (fun j => jl (v j))) 1078 p = _
        rw [gJ_oJ, if_neg (by omega)]
      · have := a2 k (by omega); omega
      · rw [hcs] at hq
        by_cases q2 : e' = e
        · rw [q2]; exact hq0 q hq
        · exact a3 q hq e' (by omega)
      · rw [gI_sI_at, hcs, Int.add_zero]
      · rw [sI_o hc]; exact b2 c hc hc2
      · rw [gI_sI_k hk]; exact b3 k hk
      · show (oJ s 1078 (21 * cn e (pvt φ)) (dd φ) (fun j => jl (v j))).2 c = σ.2 c
        rw [oJ_o hc]; exact b4 c hc) (2 * nb φ) 0 N (sI σ 1067 11 (nt 0)) (by omega) (by omega) hstart
  obtain ⟨⟨E, P, V, a1, a2, a3⟩, b1, b2, b3, b4⟩ := hs
  obtain ⟨m1, em1⟩ : ∃ m, N - 2 * nb φ = m + 1 := ⟨N - 2 * nb φ - 1, by omega⟩
  have es : f_X6_layRank_h7 N N (nt 0) (sI σ 1067 11 (nt 0)) = f_X6_layRank_h7 N (N - 2 * nb φ) (nt (2 * nb φ : Nat)) s := es
  have hb' : gI s 1067 4 = nt (nb φ : Nat) := by rw [b3 4 (by decide)]; exact hb
  refine ⟨s, ?_, b1, b2, b3, b4, (SP_full w a1.1).1, (SP_full w a1.1).2⟩
  unfold f_X6_layRank
  rw [n_0, bd_eq, es, em1, f_X6_layRank_h7, hb', n_2, nt_mul, le_t (by omega) (by omega) (by omega)]
end
