-- ===== the reference: whether loads are borne =====
section
variable {N : Nat} {σ : ZS} {φ : FR}
theorem Stg_S {S : Nat → Int} (h : Stg φ σ S) : ∀ b, b < nb φ → 0 ≤ S b ∧ S b ≤ 13 := by
  obtain ⟨_, _, _, _, _, _, _, hS⟩ := h
  exact hS
/-- going through the signs of a set -/
theorem m_borneIn (w : WF φ) (hN : 200 ≤ N) (hd12 : dd φ ≤ 12) {Cm : Nat} {P : Nat → Nat → Int} {pi : Nat → Nat} {B1 B2 : Nat} {S T : Nat → Int} {by_ : Int} {s0 : ZS} (hV : SLV φ s0 Cm P pi B1 B2) (hb : 12 * ((T 0).natAbs + (T 1).natAbs + (T 2).natAbs) * B2 + 1872 * by_.natAbs * B1 ≤ 4000000000000000000) (hb1 : B1 ≤ 4000000000000000000) (kb : Int32 → ZS → Option (Int32 × ZS)) (x : Nat) : ∀ (r t n : Nat) (s : ZS), t + r + 1 = 2 ^ cn (2 * nb φ) (ff Cm) → r + 2 ≤ n → SES φ Cm P pi S T by_ t s → (∃ t' τ, t' < 2 ^ cn (2 * nb φ) (ff Cm) ∧ Win φ Cm P pi S T by_ (gr2 t') ∧ f_X6_isBorne_h56 N kb (nt (x : Nat)) n (nt 1) s = some (nt 1, τ) ∧ frB s τ) ∨ ((∀ t', t ≤ t' → t' < 2 ^ cn (2 * nb φ) (ff Cm) → ¬ Win φ Cm P pi S T by_ (gr2 t')) ∧ ∃ τ, f_X6_isBorne_h56 N kb (nt (x : Nat)) n (nt 1) s = f_X6_isBorne_b79 N kb (nt (x : Nat)) τ ∧ PRE φ S T by_ τ ∧ frB s τ) := by
  intro r
  induction r with
  | zero =>
    intro t n s ht hn hs
    obtain ⟨n, rfl⟩ : ∃ m, n = m + 2 := ⟨n - 2, by omega⟩
    rcases m_within (N := N) w hN hd12 hs hV hb hb1 with ⟨h1, h2⟩ | ⟨h1, h2⟩
    · left
      refine ⟨t, s, by omega, h1, ?_, frB_rf s⟩
      rw [f_X6_isBorne_h56, if_neg (by decide), h2, obd_some, if_neg (by decide)]; rfl
    · right
      rcases m_next (N := N) w hN hs (by omega) with ⟨a1, τ, a2, a3, a4⟩ | ⟨a1, _⟩
      · refine ⟨fun t' b1 b2 => ?_, τ, ?_, a3, a4⟩
        · obtain rfl : t' = t := by omega
          exact h1
        · rw [f_X6_isBorne_h56, if_neg (by decide), h2, obd_some, if_pos (by decide), a2, obd_some, f_X6_isBorne_h56, if_pos (by decide)]
      · omega
  | succ r ih =>
    intro t n s ht hn hs
    obtain ⟨n, rfl⟩ : ∃ m, n = m + 1 := ⟨n - 1, by omega⟩
    rcases m_within (N := N) w hN hd12 hs hV hb hb1 with ⟨h1, h2⟩ | ⟨h1, h2⟩
    · left
      refine ⟨t, s, by omega, h1, ?_, frB_rf s⟩
      rw [f_X6_isBorne_h56, if_neg (by decide), h2, obd_some, if_neg (by decide)]; rfl
    · rcases m_next (N := N) w hN hs (by omega) with ⟨a1, _⟩ | ⟨a1, τ, a2, a3, a4⟩
      · omega
      · have e1 : f_X6_isBorne_h56 N kb (nt (x : Nat)) (n + 1) (nt 1) s = f_X6_isBorne_h56 N kb (nt (x : Nat)) n (nt 1) τ := by
          rw [f_X6_isBorne_h56, if_neg (by decide), h2, obd_some, if_pos (by decide), a2, obd_some]
        rcases ih (t + 1) n τ (by omega) (by omega) a3 with ⟨t', τ2, b1, b2, b3, b4⟩ | ⟨b1, τ2, b2, b3, b4⟩
        · exact Or.inl ⟨t', τ2, b1, b2, e1.trans b3, frB_tr a4 b4⟩
        · refine Or.inr ⟨fun t' c1 c2 => ?_, τ2, e1.trans b2, b3, frB_tr a4 b4⟩
          by_cases q : t' = t
          · rw [q]; exact h1
          · exact b1 t' (by omega) c2
theorem bits_lt {x n k : Nat} (h : x < 2 ^ n) (hb : x.testBit k = true) : k < n := by
  apply Classical.byContradiction
  intro q
  rw [big_bit h (by omega)] at hb
  exact absurd hb (by decide)
theorem m_isBorne (w : WF φ) (hNL : NLF φ) (hN : 30000 ≤ N) (hd12 : dd φ ≤ 12) {S : Nat → Int} {t0 t1 t2 by_ : Int} (h1 : MFr σ φ) (h2 : gI σ 1067 10 = nt (dd φ : Nat)) (h3 : ∀ j col, j < dd φ → col < 15 → gJ σ 1087 (15 * j + col) = jl (rcl φ col j)) (h4 : Stg φ σ S) (hby : 0 < by_) (hb : 12 * (t0.natAbs + t1.natAbs + t2.natAbs) * 36700160 + 1872 * by_.natAbs * 524288 ≤ 4000000000000000000) : ∃ τ rc, f_X6_isBorne N (jl t0) (jl t1) (jl t2) (jl by_) σ = some (nt rc, τ) ∧ frQ σ τ ∧ (rc = 1 ∧ FEA φ S (pT φ (fun c => if c = 0 then t0 else if c = 1 then t1 else t2) by_) ∨ rc = 0 ∧ ¬ FEA φ S (pT φ (fun c => if c = 0 then t0 else if c = 1 then t1 else t2) by_)) := by
  have hw2 := w.2.1
  obtain ⟨s0, e0, hP0, f0, _, _⟩ := m_take (N := N) t0 t1 t2 by_ h1 h2 h3 h4
  obtain ⟨T, hT⟩ : ∃ T : Nat → Int, T = fun c => if c = 0 then t0 else if c = 1 then t1 else t2 := ⟨_, rfl⟩
  rw [← hT] at hP0 ⊢
  have hb' : 12 * ((T 0).natAbs + (T 1).natAbs + (T 2).natAbs) * 36700160 + 1872 * by_.natAbs * 524288 ≤ 4000000000000000000 := by rw [hT]; exact hb
  have hpow : 2 ^ (2 * nb φ) ≤ 2 ^ 12 := Nat.pow_le_pow_right (by decide) (by omega)
  have hpow2 : (2 : Nat) ^ 12 = 4096 := by decide
  have main : ∀ (m x n : Nat) (s : ZS), x + m = 2 ^ (2 * nb φ) → m + 1 ≤ n → PRE φ S T by_ s → (∀ Cm, Cm < x → cn 12 (bt Cm) = dd φ → NoC φ Cm 0 S (pT φ T by_)) → (FEA φ S (pT φ T by_) ∧ ∃ τ, f_X6_isBorne_h13 N n (nt (x : Nat)) s = some (nt 1, τ) ∧ frQ s τ) ∨ ((∀ Cm, Cm < 2 ^ (2 * nb φ) → cn 12 (bt Cm) = dd φ → NoC φ Cm 0 S (pT φ T by_)) ∧ ∃ τ, f_X6_isBorne_h13 N n (nt (x : Nat)) s = some (nt 0, τ) ∧ frQ s τ) := by
    intro m
    induction m with
    | zero =>
      intro x n s hx hn hP hz
      obtain ⟨n, rfl⟩ : ∃ m, n = m + 1 := ⟨n - 1, by omega⟩
      right
      refine ⟨fun Cm h => hz Cm (by omega), s, ?_, frQ_rf s⟩
      rw [f_X6_isBorne_h13, MFr_b hP.1, n_2, nt_mul, show (2 : Int) * (nb φ : Nat) = ((2 * nb φ : Nat) : Int) by omega, n_1, nt_powL (by omega), le_t (by omega) (by omega) (by omega)]; rfl
    | succ m ih =>
      intro x n s hx hn hP hz
      obtain ⟨n, rfl⟩ : ∃ m, n = m + 1 := ⟨n - 1, by omega⟩
      have hxl : x < 2 ^ (2 * nb φ) := by omega
      have b79 : ∀ t, f_X6_isBorne_b79 N (fun x9_ σ_ => f_X6_isBorne_h13 N n x9_ σ_) (nt (x : Nat)) t = f_X6_isBorne_h13 N n (nt ((x + 1 : Nat) : Int)) t := fun t => by
        rw [f_X6_isBorne_b79, n_1, nt_add, bd_eq]; rfl
      have hends : ∀ k, k < 12 → x.testBit k = true → k < 2 * nb φ := fun k _ hk => bits_lt hxl hk
      have hOne : OneL x 0 := fun k h1 _ h3 => by have := bits_lt hxl h3; omega
      have hld : x.testBit (12 + 0) = false := big_bit hxl (by omega)
      have hc12 := cn_bd (bt x) 12
      have hpre : f_X6_isBorne_h13 N (n + 1) (nt (x : Nat)) s = (if nt (cn 12 (bt x) : Nat) = nt (dd φ : Nat) then obd (f_X6_isSolved N (nt (x : Nat)) s) fun v8 σ9 => (if v8 = 0 then f_X6_isBorne_b79 N (fun x9_ σ_ => f_X6_isBorne_h13 N n x9_ σ_) (nt (x : Nat)) σ9 else obd (f_X6_begin N (nt (x : Nat)) σ9) fun _ σ12 => f_X6_isBorne_h56 N (fun x9_ σ_ => f_X6_isBorne_h13 N n x9_ σ_) (nt (x : Nat)) N (1 : Int32) σ12) else f_X6_isBorne_b79 N (fun x9_ σ_ => f_X6_isBorne_h13 N n x9_ σ_) (nt (x : Nat)) s) := by
        rw [f_X6_isBorne_h13, MFr_b hP.1, n_2, nt_mul, show (2 : Int) * (nb φ : Nat) = ((2 * nb φ : Nat) : Int) by omega, n_1, nt_powL (by omega), le_f (by omega) (by omega) (by omega), m_bits (by omega) (by omega), obd_some, hP.2.1]
      rw [hpre]
      by_cases q : cn 12 (bt x) = dd φ
      · rw [eq_t (by omega)]
        rcases m_isSolved0 (N := N) w (by omega) hd12 hP.2.1 hP.2.2.1 (Cm := x) (by omega) hends q with ⟨d1, τ, d2, d3⟩ | ⟨τ, P, pi, d1, d2, d3⟩
        · rw [d2, obd_some, if_pos (by decide), b79]
          have hno : NoC φ x 0 S (pT φ T by_) := fun hI => absurd d1 (ind_dep w (by decide) hends hOne hI)
          rcases ih (x + 1) n τ (by omega) (by omega) (PRE_I d3 hP) (fun Cm hC hc => by
            by_cases q2 : Cm = x
            · rw [q2]; exact hno
            · exact hz Cm (by omega) hc) with ⟨a1, τ2, a2, a3⟩ | ⟨a1, τ2, a2, a3⟩
          · exact Or.inl ⟨a1, τ2, a2, frQ_tr (frI_Q d3) a3⟩
          · exact Or.inr ⟨a1, τ2, a2, frQ_tr (frI_Q d3) a3⟩
        · rw [d1, obd_some, if_neg (by decide)]
          obtain ⟨s2, g1, g2, g3⟩ := m_start (N := N) w (by omega) hd12 (Cm := x) (by omega) (PRE_I d3 hP) d2
          rw [g1, obd_some]
          have hfb := cn_bd (ff x) (2 * nb φ)
          have hF1 : 2 ^ cn (2 * nb φ) (ff x) ≤ 2 ^ 12 := Nat.pow_le_pow_right (by decide) (by omega)
          have hF0 : 1 ≤ 2 ^ cn (2 * nb φ) (ff x) := Nat.one_le_two_pow
          rcases m_borneIn (N := N) w (by omega) hd12 d2 hb' (by decide) (fun x9_ σ_ => f_X6_isBorne_h13 N n x9_ σ_) x (2 ^ cn (2 * nb φ) (ff x) - 1) 0 N s2 (by omega) (by omega) g2 with ⟨t', τ2, a1, a2, a3, a4⟩ | ⟨a1, τ2, a2, a3, a4⟩
          · left
            refine ⟨⟨zq φ x P pi S T by_ (gr2 t'), (crn_win w d2 (fun b hb => (Stg_S h4 b hb).1) T hby _).mp a2, fun j hj => ?_⟩, τ2, a3, frQ_tr (frI_Q d3) (frQ_tr (frB_Q g3) (frB_Q a4))⟩
            have h5 := crn_q w (c := 0) (by decide) hends hOne d2 S T hby (gr2 t') hj
            have h6 : yq φ x P pi S T by_ 0 (gr2 t') = 0 := by
              unfold yq yIn
              rw [if_neg (by rw [hld]; decide)]
              exact Rat.zero_mul _
            rw [h6] at h5
            unfold pT
            rw [← h5]
            grind
          · have hno : NoC φ x 0 S (pT φ T by_) := fun hI y et hC => by
              obtain ⟨g, k1, k2, k3⟩ := crn_all w (c := 0) (by decide) hends hOne d2 hI (S := S) T hby hC.2.2.1 hC.2.2.2 (fun j hj => hC.2.1 j hj)
              obtain ⟨t', l1, l2⟩ := gr_all (f := cn (2 * nb φ) (ff x)) (by omega) k1
              refine a1 t' (Nat.zero_le _) l1 ?_
              rw [l2]
              exact (crn_win w d2 (fun b hb => (Stg_S h4 b hb).1) T hby g).mpr (fun e he => by rw [k2 e he]; exact hC.1 e he)
            have a2 : f_X6_isBorne_h56 N (fun x9_ σ_ => f_X6_isBorne_h13 N n x9_ σ_) (nt (x : Nat)) N (1 : Int32) s2 = _ := a2
            rw [a2, b79]
            rcases ih (x + 1) n τ2 (by omega) (by omega) a3 (fun Cm hC hc => by
              by_cases q2 : Cm = x
              · rw [q2]; exact hno
              · exact hz Cm (by omega) hc) with ⟨c1, τ3, c2, c3⟩ | ⟨c1, τ3, c2, c3⟩
            · exact Or.inl ⟨c1, τ3, c2, frQ_tr (frI_Q d3) (frQ_tr (frB_Q g3) (frQ_tr (frB_Q a4) c3))⟩
            · exact Or.inr ⟨c1, τ3, c2, frQ_tr (frI_Q d3) (frQ_tr (frB_Q g3) (frQ_tr (frB_Q a4) c3))⟩
      · have hdd := dd_le (φ := φ)
        rw [eq_f (by omega) (by omega) (by omega) (by omega) (by omega), b79]
        exact ih (x + 1) n s (by omega) (by omega) hP (fun Cm hC hc => by
          by_cases q2 : Cm = x
          · rw [q2] at hc; exact absurd hc q
          · exact hz Cm (by omega) hc)
  unfold f_X6_isBorne
  rw [e0, obd_some]
  rcases main (2 ^ (2 * nb φ)) 0 N s0 (by omega) (by omega) hP0 (fun Cm hC => absurd hC (Nat.not_lt_zero _)) with ⟨a1, τ, a2, a3⟩ | ⟨a1, τ, a2, a3⟩
  · exact ⟨τ, 1, a2, frQ_tr f0 a3, Or.inl ⟨rfl, a1⟩⟩
  · refine ⟨τ, 0, a2, frQ_tr f0 a3, Or.inr ⟨rfl, fun ⟨z, z1, z2⟩ => ?_⟩⟩
    obtain ⟨Cm, x, b1, b2, b3, b4, _⟩ := corner0 w hNL (fun _ => 0) z1 z2
    exact a1 Cm b1 b2 b3 x 0 b4
end
