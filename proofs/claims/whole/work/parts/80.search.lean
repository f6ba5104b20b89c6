-- ===== the class searches the mechanisms =====
def Cb : Nat → Nat → Nat
  | _, 0 => 1
  | 0, _ + 1 => 0
  | n + 1, k + 1 => Cb n k + Cb n (k + 1)
theorem Cb_0 (n : Nat) : Cb n 0 = 1 := by cases n <;> rfl
theorem Cb_s (n k : Nat) : Cb (n + 1) (k + 1) = Cb n k + Cb n (k + 1) := rfl
theorem Cb_924 : ∀ n, n < 13 → ∀ k, k < 13 → Cb n k ≤ 924 := by decide
def Em (φ : FR) (e0 T s : Nat) : Prop := IsM φ s ∧ ∀ e, e0 ≤ e → e < 2 * nb φ → s.testBit e = T.testBit e
def SR (φ : FR) (pi : Nat → Nat) (σ : ZS) (a m : Nat) (Y jd : Nat → Nat) : Prop := AE φ Y ∧ inj m jd ∧ (∀ i, i < m → jd i < dd φ) ∧ ∀ i, i < m → RI φ pi σ (65 + (a + i)) Y (jd i)
/-- which motions the rows span -/
def SV (φ : FR) (m e0 T : Nat) (Y jd : Nat → Nat) : Prop := (∀ q : Nat → Rat, inV φ Y jd m q ↔ ∀ e, e0 ≤ e → e < 2 * nb φ → T.testBit e = false → dq (dd φ) (Rq φ e) q = 0) ∧ (∀ e, T.testBit e = true → e0 ≤ e ∧ e < 2 * nb φ ∧ ∃ i, i < m ∧ tw φ e (xv φ Y (jd i)) ≠ 0) ∧ T < 4096
def SC (φ : FR) (σ : ZS) (f0 : Nat) : Prop := gI σ 5 5 = nt ((2 * nb φ : Nat) : Int) ∧ gI σ 5 6 = nt ((ds φ : Nat) : Int) ∧ gI σ 6 3 = nt (f0 : Nat)
/-- what a search leaves -/
def SO (φ : FR) (pi : Nat → Nat) (σ τ : ZS) (a m e0 T f0 : Nat) (L : List Nat) : Prop := L.Pairwise (· < ·) ∧ (∀ s, s ∈ L ↔ Em φ e0 T s) ∧ L.length ≤ Cb e0 (m - 1) ∧ SC φ τ (f0 + L.length) ∧ (∀ k s, L[k]? = some s → gI τ 59 (f0 + k) = nt (s : Nat) ∧ ∃ r, Row τ (143 + (f0 + k)) (wd φ) r ∧ MotR φ pi r s) ∧ (∀ k, k < f0 → gI τ 59 k = gI σ 59 k) ∧ (∀ k, k ≠ 3 → gI τ 6 k = gI σ 6 k) ∧ (∀ c, c ≠ 59 → c ≠ 6 → τ.1 c = σ.1 c) ∧ ∀ c, (c < 65 + (a + m) ∨ (143 ≤ c ∧ c < 143 + f0) ∨ 1067 ≤ c) → τ.2 c = σ.2 c
section
variable {N : Nat} {φ : FR} {pi : Nat → Nat}
theorem em_inV {m e0 T : Nat} {Y jd : Nat → Nat} (hV : SV φ m e0 T Y jd) {q : Nat → Rat} (h : ∀ e, e0 ≤ e → e < 2 * nb φ → (mq φ q).testBit e = T.testBit e) : inV φ Y jd m q := by
  rw [hV.1]
  intro e he he2 ht
  have := h e he he2
  rw [ht] at this
  apply Classical.byContradiction
  intro w
  rw [(mq_bit φ q he2).mpr w] at this
  cases this
/-- a sum of the rows' motions -/
theorem sum_tw (Y jd : Nat → Nat) (m e : Nat) (c : Nat → Rat) : dq (dd φ) (Rq φ e) (fun j => sQ m (fun i => c i * (xv φ Y (jd i) j : Rat))) = dq m (fun i => ((tw φ e (xv φ Y (jd i)) : Int) : Rat)) c := by
  unfold dq
  rw [sQ_congr (n := dd φ) (g := fun j => sQ m (fun i => Rq φ e j * (c i * (xv φ Y (jd i) j : Rat)))) (fun j _ => by rw [sQ_mul]), sQ_comm]
  refine sQ_congr (fun i _ => ?_)
  have := tw_q φ e (xv φ Y (jd i))
  unfold dq at this
  dsimp only at this ⊢
  rw [← this, ← sQ_mulr]
  exact sQ_congr (fun j _ => by grind)
theorem em_none (w : WF φ) {σ : ZS} {a m e0 T : Nat} {Y jd : Nat → Nat} (hS : SR φ pi σ a m Y jd) (hV : SV φ m e0 T Y jd) (hm : e0 + 1 < m) (s : Nat) : ¬ Em φ e0 T s := by
  rintro ⟨⟨q, hq, rfl⟩, hb⟩
  have hin := em_inV hV hb
  obtain ⟨⟨e1, he1, hq1⟩, hu⟩ := id hq
  have hcn : ∀ n, cn n (fun e => decide (e < e0) || e == e1) ≤ e0 + 1 := by
    have h1 : ∀ n, cn n (fun e => decide (e < e0)) ≤ e0 := by
      intro n
      have : cn n (fun e => decide (e < e0)) ≤ (if n ≤ e0 then n else e0) := by
        induction n with
        | zero => exact Nat.zero_le _
        | succ n ih =>
          rw [cn_s]
          by_cases h : n < e0
          · rw [if_pos (decide_eq_true h), if_pos (by omega)]; rw [if_pos (by omega)] at ih; omega
          · rw [if_neg (by simpa using h)]
            split at ih <;> split <;> omega
      split at this <;> omega
    intro n
    by_cases h : e1 < n ∧ ¬ e1 < e0
    · rw [cn_add (s := fun e => decide (e < e0)) h.1 (decide_eq_false h.2)]
      have := h1 n; omega
    · have : cn n (fun e => decide (e < e0) || e == e1) = cn n (fun e => decide (e < e0)) := cn_congr (fun i hi => by
        by_cases q : i = e1
        · subst q
          have : i < e0 := by omega
          simp [this]
        · simp [q])
      rw [this]; have := h1 n; omega
  obtain ⟨c, ⟨i1, hi1, hc1⟩, hc⟩ := li_ker (2 * nb φ) m (fun e i => ((tw φ e (xv φ Y (jd i)) : Int) : Rat)) (fun e => decide (e < e0) || e == e1) (Nat.lt_of_le_of_lt (hcn _) hm)
  obtain ⟨x, hx⟩ : ∃ x : Nat → Rat, x = fun j => sQ m (fun i => c i * (xv φ Y (jd i) j : Rat)) := ⟨_, rfl⟩
  have htw : ∀ e, dq (dd φ) (Rq φ e) x = dq m (fun i => ((tw φ e (xv φ Y (jd i)) : Int) : Rat)) c := fun e => by rw [hx]; exact sum_tw Y jd m e c
  have hxV : inV φ Y jd m x := by
    intro l hl hn
    rw [htw, dq_comm]
    refine dq_zero (fun i hi => ?_)
    rw [psi_x w hl (hS.2.2.1 i hi) (hS.1.1 l hl), if_neg (fun q => hn i hi q.symm)]; rfl
  obtain ⟨lm, hlm⟩ := hu x (fun e he h0 => by
    by_cases h : e < e0
    · rw [htw]; exact hc e he (by simp [h])
    · refine (hV.1 x).mp hxV e (by omega) he ?_
      rw [← hb e (by omega) he]
      cases q2 : (mq φ q).testBit e with
      | false => rfl
      | true => exact absurd h0 ((mq_bit φ q he).mp q2))
  have h1 : dq (dd φ) (Rq φ e1) x = lm * dq (dd φ) (Rq φ e1) q := by rw [← dq_mul]; exact dq_congr (fun _ _ => rfl) hlm
  have h2 : dq (dd φ) (Rq φ e1) x = 0 := by rw [htw]; exact hc e1 he1 (by simp)
  rw [h2] at h1
  have hl0 : lm = 0 := (Rat.mul_eq_zero.mp h1.symm).resolve_right hq1
  have hx0 : ∀ j, j < dd φ → x j = 0 := fun j hj => by rw [hlm j hj, hl0, Rat.zero_mul]
  have h3 := htw (Y (jd i1))
  rw [dq_zero hx0] at h3
  unfold dq at h3
  rw [sQ_one (k := i1) hi1 (fun i hi hne => by
    dsimp only
    rw [psi_x w (hS.2.2.1 i1 hi1) (hS.2.2.1 i hi) (hS.1.1 _ (hS.2.2.1 i1 hi1)), if_neg (fun q => hne (hS.2.1 i i1 hi hi1 q.symm))]
    rw [Rat.intCast_zero, Rat.zero_mul])] at h3
  dsimp only at h3
  rw [psi_x w (hS.2.2.1 i1 hi1) (hS.2.2.1 i1 hi1) (hS.1.1 _ (hS.2.2.1 i1 hi1)), if_pos rfl] at h3
  rcases Rat.mul_eq_zero.mp h3.symm with h | h
  · exact D_q hS.1.2 h
  · exact hc1 h
/-- one row alone is a mechanism -/
theorem em_one (w : WF φ) {σ : ZS} {a e0 T : Nat} {Y jd : Nat → Nat} (hS : SR φ pi σ a 1 Y jd) (hV : SV φ 1 e0 T Y jd) : ElF φ (fun j => (xv φ Y (jd 0) j : Rat)) ∧ ∀ s, Em φ e0 T s ↔ s = mq φ (fun j => (xv φ Y (jd 0) j : Rat)) := by
  have hj := hS.2.2.1 0 (by omega)
  have hxV := x_inV w hS.1 hS.2.2.1 (i := 0) (by omega)
  have hEl : ElF φ (fun j => (xv φ Y (jd 0) j : Rat)) := by
    refine ⟨⟨Y (jd 0), hS.1.1 _ hj, ?_⟩, fun q' hq' => inV_1 w hS.1 hj ?_⟩
    · rw [tw_q]
      rw [psi_x w hj hj (hS.1.1 _ hj), if_pos rfl]
      exact D_q hS.1.2
    · rw [hV.1]
      intro e he he2 ht
      exact hq' e he2 ((hV.1 _).mp hxV e he he2 ht)
  refine ⟨hEl, fun s => ⟨?_, ?_⟩⟩
  · rintro ⟨⟨q, hq, rfl⟩, hb⟩
    obtain ⟨l, hl⟩ := inV_1 w hS.1 hj (em_inV hV hb)
    refine mq_mul (fun h0 => ?_) hl
    obtain ⟨⟨e, he, hne⟩, _⟩ := hq
    apply hne
    rw [dq_comm, dq_congr (a' := fun j => 0) (b' := Rq φ e) (fun j hj => by rw [hl j hj, h0, Rat.zero_mul]) (fun _ _ => rfl), dq_comm]
    exact dq_zero (fun _ _ => rfl)
  · rintro rfl
    refine ⟨⟨_, hEl, rfl⟩, fun e he he2 => ?_⟩
    cases ht : T.testBit e with
    | false =>
      have := (hV.1 _).mp hxV e he he2 ht
      cases q2 : (mq φ (fun j => (xv φ Y (jd 0) j : Rat))).testBit e with
      | false => rfl
      | true => exact absurd this ((mq_bit φ _ he2).mp q2)
    | true =>
      obtain ⟨_, _, i, hi, h⟩ := hV.2.1 e ht
      obtain rfl : i = 0 := by omega
      exact (mq_bit φ _ he2).mpr (fun q => h ((tw_q0 φ e _).mp q))
theorem s_allTwist (w : WF φ) (hN : 200 ≤ N) {σ : ZS} {a m T : Nat} (ham : a + m ≤ 78) (hT : T < 4096) (h5 : gI σ 5 5 = nt ((2 * nb φ : Nat) : Int)) {V : Nat → Nat → Int} (hV : ∀ i, i < m → Row σ (65 + (a + i)) (wd φ) (V i)) (hb : ∀ i, i < m → ∀ k, k < wd φ → okJ (V i k)) : ((∀ e, e < 2 * nb φ → T.testBit e = true → ∃ i, i < m ∧ V i e ≠ 0) ∧ f_X3_allTwist N (nt (T : Nat)) (nt (a : Nat)) (nt (m : Nat)) σ = some (nt 1, σ)) ∨ ((∃ e, e < 2 * nb φ ∧ T.testBit e = true ∧ ∀ i, i < m → V i e = 0) ∧ f_X3_allTwist N (nt (T : Nat)) (nt (a : Nat)) (nt (m : Nat)) σ = some (nt 0, σ)) := by
  have hw2 := w.2.1
  unfold f_X3_allTwist
  have key : ∀ (j k n : Nat), k + j = 2 * nb φ → j + 1 ≤ n → (∀ e, e < k → T.testBit e = true → ∃ i, i < m ∧ V i e ≠ 0) → ((∀ e, e < 2 * nb φ → T.testBit e = true → ∃ i, i < m ∧ V i e ≠ 0) ∧ f_X3_allTwist_h3 N (nt (T : Nat)) (nt (a : Nat)) (nt (m : Nat)) n (nt (k : Nat)) σ = some (nt 1, σ)) ∨ ((∃ e, e < 2 * nb φ ∧ T.testBit e = true ∧ ∀ i, i < m → V i e = 0) ∧ f_X3_allTwist_h3 N (nt (T : Nat)) (nt (a : Nat)) (nt (m : Nat)) n (nt (k : Nat)) σ = some (nt 0, σ)) := by
    intro j
    induction j with
    | zero =>
      intro k n hk hn hz
      obtain rfl : k = 2 * nb φ := by omega
      obtain ⟨n, rfl⟩ : ∃ m, n = m + 1 := ⟨n - 1, by omega⟩
      left
      refine ⟨hz, ?_⟩
      rw [f_X3_allTwist_h3, h5, le_t (by omega) (by omega) (by omega), n_1]
    | succ j ih =>
      intro k n hk hn hz
      obtain ⟨n, rfl⟩ : ∃ m, n = m + 1 := ⟨n - 1, by omega⟩
      have hb40 : f_X3_allTwist_b40 N (fun x4_ σ_ => f_X3_allTwist_h3 N (nt (T : Nat)) (nt (a : Nat)) (nt (m : Nat)) n x4_ σ_) (nt (T : Nat)) (nt (a : Nat)) (nt (m : Nat)) (nt (k : Nat)) σ = f_X3_allTwist_h3 N (nt (T : Nat)) (nt (a : Nat)) (nt (m : Nat)) n (nt ((k + 1 : Nat) : Int)) σ := by
        rw [f_X3_allTwist_b40, n_1, nt_add, bd_eq]; rfl
      rw [f_X3_allTwist_h3, h5, le_f (by omega) (by omega) (by omega), nt_bit (by omega) (by omega), hb40]
      cases ht : T.testBit k with
      | false =>
        rw [if_neg (by decide)]
        exact ih (k + 1) n (by omega) (by omega) (fun e he h => by
          by_cases q : e = k
          · subst q; rw [ht] at h; cases h
          · exact hz e (by omega) h)
      | true =>
        rw [if_pos rfl]
        have hkw : k < wd φ := by unfold wd; omega
        rcases s_rowWith (σ := σ) hN (e := k) (a := a) (m := m) hkw (wd_le w) ham hV (fun i hi => hb i hi k hkw) with ⟨i0, hi0, hne, _, hrw⟩ | ⟨hz0, hrw⟩
        · rw [hrw, obd_some, n_0, le_t (by omega) (by omega) (by omega), hb40]
          exact ih (k + 1) n (by omega) (by omega) (fun e he h => by
            by_cases q : e = k
            · subst q; exact ⟨i0, hi0, hne⟩
            · exact hz e (by omega) h)
        · rw [hrw, obd_some, n_0, le_f (by omega) (by omega) (by omega)]
          exact Or.inr ⟨⟨k, by omega, ht, hz0⟩, rfl⟩
  exact key (2 * nb φ) 0 N (by omega) (by omega) (fun e he => by omega)
/-- the rows' entries, all at once -/
theorem SR_rows (w : WF φ) (hpi : ∀ g, g < ds φ → pi g < ds φ) {σ : ZS} {a m : Nat} {Y jd : Nat → Nat} (hS : SR φ pi σ a m Y jd) : ∃ V : Nat → Nat → Int, ∀ i, i < m → Row σ (65 + (a + i)) (wd φ) (V i) ∧ (∀ k, k < wd φ → (V i k).natAbs ≤ 6291456) ∧ (∀ e, e < 2 * nb φ → (V i e = 0 ↔ tw φ e (xv φ Y (jd i)) = 0)) ∧ alg (wd φ) (V i) (T12 φ pi (xv φ Y (jd i))) ∧ (gz (wd φ) (V i) = 1 ∨ ∀ k', k' < wd φ → V i k' = 0) := by
  refine ⟨fun i => if h : i < m then Classical.choose (hS.2.2.2 i h) else fun _ => 0, fun i hi => ?_⟩
  dsimp only
  rw [dif_pos hi]
  obtain ⟨h1, h2, h3⟩ := Classical.choose_spec (hS.2.2.2 i hi)
  refine ⟨h1, fun k hk => ?_, fun e he => alg_z w h2 he, h2, h3⟩
  rcases h3 with h | h
  · obtain ⟨x, y, x0, y0, e⟩ := h2
    exact Nat.le_trans (prim_le h x0 y0 e k hk) (dt_mech w hS.1.1 hpi (hS.2.2.1 i hi) hk)
  · rw [h k hk]; omega
end
