-- ===== turns; the whole basis =====
section
variable {N : Nat} {φ : FR}
theorem s_addTurns (hN : 200 ≤ N) (w : WF φ) {σ : ZS} (h : CFr σ 0 φ) {pi : Nat → Nat} {m : Nat} (h3 : gI σ 5 3 = nt (m : Nat)) (hB : BS φ σ pi m m (fun v' _ => v' < 2)) (hpd : ∀ i, i < m → pi i < ds φ) : ∃ τ pi' m', f_X4_addTurns N σ = some ((), τ) ∧ gI τ 5 3 = nt (m' : Nat) ∧ BS φ τ pi' m' m (fun _ _ => True) ∧ fr6 σ τ ∧ (∀ i, i < m → pi' i < ds φ) ∧ gI τ 5 6 = gI σ 5 6 := by
  have hw1 := w.1
  have hw2 := w.2.1
  have hdd := dd_le (φ := φ)
  have hd2 : ∀ x, hdF φ 2 x = x := fun x => by unfold hdF; rw [if_pos rfl]
  unfold f_X4_addTurns
  obtain ⟨s, es, hI⟩ := lp_inv (fun n k s => f_X4_addTurns_h2 N n (nt (k : Nat)) s) (fun t s => fr6 σ s ∧ gI s 5 6 = gI σ 5 6 ∧ ∃ pi' m', m ≤ m' ∧ gI s 5 3 = nt (m' : Nat) ∧ (∀ i, i < m → pi' i < ds φ) ∧ BS φ s pi' m' m (fun v' n => v' < 2 ∨ (v' = 2 ∧ n < t))) (nn φ) (fun n t s ht q => by
    obtain ⟨p1, p1b, pi, m', pm, p4, pd, p6⟩ := q
    have ht : t < nn φ := ht
    have hc : CFr s 0 φ := fr6_CFr h p1
    have hb117 : ∀ s : ZS, f_X4_addTurns_b117 N (fun x2_ σ_ => f_X4_addTurns_h2 N n x2_ σ_) (nt (t : Nat)) s = f_X4_addTurns_h2 N n (nt ((t + 1 : Nat) : Int)) s := fun s => by
      rw [f_X4_addTurns_b117, n_1, nt_add, bd_eq]; rfl
    have hle : m' ≤ dd φ := inj_le p6.1 (fun i hi => by
      obtain ⟨v, n, a, b, c, _⟩ := p6.2.1 i hi
      rcases num_rg w a b with ⟨q, _⟩ | ⟨_, q, _⟩ <;> omega)
    have hh : hld φ 2 t = decide (φ.1 2 t = 2) := by
      rw [Bool.eq_iff_iff]
      unfold hld
      rw [an_iff]
      constructor
      · rintro ⟨k, hk, q⟩
        rw [Bool.and_eq_true, beq_iff_eq, hd2, hd2] at q
        rw [q.2] at q
        exact q.1
      · intro q
        exact ⟨t, ht, by rw [Bool.and_eq_true, beq_iff_eq]; exact ⟨q, rfl⟩⟩
    have g78 : (m' : Int) < 78 := by omega
    rw [f_X4_addTurns_h2, CFr_n hc, le_f (by omega) (by omega) (by omega), s_turns hc w ht, obd_some, hb117]
    by_cases e : φ.1 2 t = 2
    · rw [if_pos e, n_0, eq_t rfl]
      refine ⟨s, rfl, p1, p1b, pi, m', pm, p4, pd, p6.1, fun i hi => ?_, fun v' n' a b d e2 => ?_, p6.2.2.2.1, fun v' n' a b d => p6.2.2.2.2 v' n' a b (by omega)⟩
      · obtain ⟨v', n', a, b, c, d⟩ := p6.2.1 i hi
        exact ⟨v', n', a, b, c, by omega⟩
      · refine p6.2.2.1 v' n' a b ?_ e2
        by_cases q : v' = 2 ∧ n' = t
        · obtain ⟨rfl, rfl⟩ := q
          rw [hh, decide_eq_true e] at e2; cases e2
        · omega
    · rw [if_neg e, n_0, eq_f (by omega) (by omega) (by omega) (by omega) (by omega), p4, show (78 : Int32) = nt 78 from rfl, le_f (by omega) (by omega) (by omega), bd_eq, n_1, nt_add, bd_eq, bd_eq, ck_inb (by omega) (by omega) (by omega), bd_eq, nat_k (by omega), ← n_0, s_fillJ hN (tg_rows (by omega)) (ln_rows (by omega)) (by omega), obd_some]
      have hh2 : hld φ 2 t = false := by rw [hh, decide_eq_false e]
      obtain ⟨j, hj⟩ : ∃ j : Nat, num φ 2 t = j := by
        rcases num_rg w (v := 2) (by omega) ht with ⟨_, q⟩ | ⟨q, _, _⟩
        · rw [hh2] at q; cases q
        · exact ⟨(num φ 2 t).toNat, by omega⟩
      have hjd : j < dd φ := by
        rcases num_rg w (v := 2) (by omega) ht with ⟨q, _⟩ | ⟨_, q, _⟩ <;> omega
      have hne : ∀ i, i < m' → pi i ≠ j := fun i hi q => by
        obtain ⟨v', n', a, b, c, d⟩ := p6.2.1 i hi
        obtain ⟨rfl, q5⟩ := num_inj w b ht (by omega) (show num φ v' n' = num φ 2 t by rw [c, hj, q])
        rw [hd2, hd2] at q5
        omega
      obtain ⟨pi', hpi'⟩ : ∃ pi' : Nat → Nat, pi' = fun i => if i = m' then j else pi i := ⟨_, rfl⟩
      have pim : pi' m' = j := by rw [hpi']; exact if_pos rfl
      have pio : ∀ i, i < m' → pi' i = pi i := fun i hi => by rw [hpi']; exact if_neg (by omega)
      have hinj : inj (m' + 1) pi' := fun a b ha hb q => by
        by_cases qa : a = m'
        · by_cases qb : b = m'
          · omega
          · rw [qa, pim, pio b (by omega)] at q
            exact absurd q.symm (hne b (by omega))
        · by_cases qb : b = m'
          · rw [qb, pim, pio a (by omega)] at q
            exact absurd q (hne a (by omega))
          · rw [pio a (by omega), pio b (by omega)] at q
            exact p6.1 a b (by omega) (by omega) q
      obtain ⟨s0, hs0⟩ : ∃ s0, s0 = wJ (sI s 5 3 (nt ((m' : Nat) + 1))) (65 + m') 26 fun _ => 0 := ⟨_, rfl⟩
      rw [← hs0]
      have hs01 : s0.1 = (sI s 5 3 (nt ((m' : Nat) + 1))).1 := by rw [hs0]; rfl
      have hcf : ∀ s' : ZS, s'.1 = s0.1 → CFr s' 0 φ := fun s' hs => CFr_56 hc (fun c hc hc5 => by rw [hs, hs01, sI_o hc5])
      obtain ⟨t2, es2, hI2⟩ := lp_inv (fun a k s' => f_X4_addTurns_h52 N (fun x2_ σ_ => f_X4_addTurns_h2 N n x2_ σ_) (nt (t : Nat)) (65 + m') a (nt (k : Nat)) s') (fun b s' => s'.1 = s0.1 ∧ (∀ c, c ≠ 65 + m' → s'.2 c = s0.2 c) ∧ ∀ k, k < 26 → gJ s' (65 + m') k = jl (if k < 2 * b then rwX φ j k else 0)) (nb φ) (fun a b s' hb q => by
        obtain ⟨r1, r2, r3⟩ := q
        have hb : b < nb φ := hb
        have hc' := hcf s' r1
        have hg := w.2.2.2.1 b hb
        have hl12 := (len_12 w hb).1
        have er1 : rwX φ j (2 * b) = if ba φ b = t then 12 else 0 := by
          unfold rwX
          rw [Rz_tn w ht hj (show 2 * b < 2 * nb φ by omega), show 2 * b / 2 = b by omega]
          have : nod φ (2 * b) = ba φ b := by unfold nod; rw [if_pos (by omega), show 2 * b / 2 = b by omega]
          rw [this, ← Int.mul_assoc, hl12]
          split <;> omega
        have er2 : rwX φ j (2 * b + 1) = if bz φ b = t then 12 else 0 := by
          unfold rwX
          rw [Rz_tn w ht hj (show 2 * b + 1 < 2 * nb φ by omega), show (2 * b + 1) / 2 = b by omega]
          have : nod φ (2 * b + 1) = bz φ b := by unfold nod; rw [if_neg (by omega), show (2 * b + 1) / 2 = b by omega]
          rw [this, ← Int.mul_assoc, hl12]
          split <;> omega
        have e12 : (12 : Int64) = jl 12 := rfl
        have h110 : ∀ (y : Int) (s : ZS), f_X4_addTurns_b110 N (fun x4_ σ_ => f_X4_addTurns_h52 N (fun x2_ σ_ => f_X4_addTurns_h2 N n x2_ σ_) (nt (t : Nat)) (65 + m') a x4_ σ_) (nt (t : Nat)) (65 + m') (nt (b : Nat)) (65 + m') (((2 : Int32) * nt (b : Nat)) + (1 : Int32)) (jl y) s = f_X4_addTurns_h52 N (fun x2_ σ_ => f_X4_addTurns_h2 N n x2_ σ_) (nt (t : Nat)) (65 + m') a (nt ((b + 1 : Nat) : Int)) (sJ s (65 + m') (2 * b + 1) (jl y)) := fun y s => by
          rw [f_X4_addTurns_b110, ck_tg (tg_rows (by omega)), ln_rows (by omega), n_1, n_2, nt_mul, nt_add, ck_inb (by omega) (by omega) (by omega), nat_nt (by omega) (by omega), show ((2 : Int) * (b : Nat) + 1).toNat = 2 * b + 1 by omega, bd_eq, nt_add, bd_eq]; rfl
        have h84 : ∀ y : Int, f_X4_addTurns_b84 N (fun x4_ σ_ => f_X4_addTurns_h52 N (fun x2_ σ_ => f_X4_addTurns_h2 N n x2_ σ_) (nt (t : Nat)) (65 + m') a x4_ σ_) (nt (t : Nat)) (65 + m') (nt (b : Nat)) (65 + m') ((2 : Int32) * nt (b : Nat)) (jl y) s' = f_X4_addTurns_h52 N (fun x2_ σ_ => f_X4_addTurns_h2 N n x2_ σ_) (nt (t : Nat)) (65 + m') a (nt ((b + 1 : Nat) : Int)) (sJ (sJ s' (65 + m') (2 * b) (jl y)) (65 + m') (2 * b + 1) (jl (if bz φ b = t then 12 else 0))) := fun y => by
          have e12' := h110 12 (sJ s' (65 + m') (2 * b) (jl y))
          have e0' := h110 0 (sJ s' (65 + m') (2 * b) (jl y))
          rw [f_X4_addTurns_b84, ck_tg (tg_rows (by omega)), ln_rows (by omega), n_2, nt_mul, ck_inb (by omega) (by omega) (by omega), nat_nt (by omega) (by omega), show ((2 : Int) * (b : Nat)).toNat = 2 * b by omega, bd_eq, ck_inb (by omega) (by omega) (by omega), nat_k (by omega)]
          have g24 : gI (sJ s' (65 + m') (2 * b) (jl y)) 24 b = nt (φ.1 4 b) := CFr_g hc' hb
          rw [g24, ← nt_mul, ← n_2]
          by_cases q : bz φ b = t
          · rw [eq_t (by unfold bz at q; omega), if_pos q, e12]; exact e12'
          · rw [eq_f (by unfold bz at q; omega) (by omega) (by omega) (by omega) (by omega), if_neg q, j_0]; exact e0'
        have hstep : f_X4_addTurns_h52 N (fun x2_ σ_ => f_X4_addTurns_h2 N n x2_ σ_) (nt (t : Nat)) (65 + m') (a + 1) (nt (b : Nat)) s' = f_X4_addTurns_h52 N (fun x2_ σ_ => f_X4_addTurns_h2 N n x2_ σ_) (nt (t : Nat)) (65 + m') a (nt ((b + 1 : Nat) : Int)) (sJ (sJ s' (65 + m') (2 * b) (jl (if ba φ b = t then 12 else 0))) (65 + m') (2 * b + 1) (jl (if bz φ b = t then 12 else 0))) := by
          rw [f_X4_addTurns_h52, CFr_b hc', le_f (by omega) (by omega) (by omega), ck_inb (by omega) (by omega) (by omega), nat_k (by omega), CFr_f hc' hb]
          by_cases q : ba φ b = t
          · rw [eq_t (by unfold ba at q; omega), if_pos q, e12]; exact h84 12
          · rw [eq_f (by unfold ba at q; omega) (by omega) (by omega) (by omega) (by omega), if_neg q, j_0]; exact h84 0
        refine ⟨_, hstep, r1, fun c hc => ?_, fun k hk => ?_⟩
        · show (if c = 65 + m' then _ else (if c = 65 + m' then _ else s'.2 c)) = s0.2 c
          rw [if_neg hc, if_neg hc]; exact r2 c hc
        · rw [gJ_sJ, gJ_sJ]
          by_cases q1 : k = 2 * b + 1
          · subst q1; rw [if_pos ⟨rfl, rfl⟩, if_pos (show 2 * b + 1 < 2 * (b + 1) by omega), er2]
          · rw [if_neg (fun q => q1 q.2)]
            by_cases q2 : k = 2 * b
            · subst q2; rw [if_pos ⟨rfl, rfl⟩, if_pos (show 2 * b < 2 * (b + 1) by omega), er1]
            · rw [if_neg (fun q => q2 q.2), r3 k hk]
              by_cases q3 : k < 2 * b
              · rw [if_pos q3, if_pos (show k < 2 * (b + 1) by omega)]
              · rw [if_neg q3, if_neg (show ¬ k < 2 * (b + 1) by omega)]) (nb φ) 0 N s0 (by omega) (by omega) ⟨rfl, fun _ _ => rfl, fun k hk => by rw [if_neg (by omega), hs0, gJ_wJ, if_pos ⟨rfl, hk⟩]; rfl⟩
      obtain ⟨r1, r2, r3⟩ := hI2
      obtain ⟨a, ea⟩ : ∃ a, N - nb φ = a + 1 := ⟨N - nb φ - 1, by omega⟩
      have es2 : f_X4_addTurns_h52 N (fun x2_ σ_ => f_X4_addTurns_h2 N n x2_ σ_) (nt (t : Nat)) (65 + m') N (0 : Int32) s0 = f_X4_addTurns_h52 N (fun x2_ σ_ => f_X4_addTurns_h2 N n x2_ σ_) (nt (t : Nat)) (65 + m') (N - nb φ) (nt (nb φ : Nat)) t2 := es2
      have t1 : t2.1 = (sI s 5 3 (nt ((m' : Nat) + 1))).1 := r1.trans hs01
      have to2 : ∀ c, c ≠ 65 + m' → t2.2 c = s.2 c := fun c hc => by rw [r2 c hc, hs0, wJ_o hc]; rfl
      refine ⟨t2, ?_, ⟨fun c hc hc2 => ?_, fun k k3 k6 => ?_, fun c hc => ?_⟩, ?_, pi', m' + 1, by omega, ?_, fun i hi => by rw [pio i (by omega)]; exact pd i hi, hinj, fun i hi => ?_, fun v' n' a b d e2 => ?_, fun i hi k hk => ?_, fun v' n' a b d => ⟨fun e2 => ?_, fun i hi e2 => ?_⟩⟩
      · rw [es2, ea, f_X4_addTurns_h52, CFr_b (hcf t2 r1), le_t (by omega) (by omega) (by omega), hb117]
      · rw [t1, sI_o hc]; exact p1.1 c hc hc2
      · unfold gI; rw [t1]
        show gI (sI s 5 3 _) 5 k = _
        rw [gI_sI_k k3]; exact p1.2.1 k k3 k6
      · rw [to2 c (by omega)]; exact p1.2.2 c hc
      · unfold gI; rw [t1]
        show gI (sI s 5 3 _) 5 6 = _
        rw [gI_sI_k (by omega)]; exact p1b
      · unfold gI; rw [t1]
        show gI (sI s 5 3 _) 5 3 = _
        rw [gI_sI_at]; rfl
      · by_cases qa : i = m'
        · exact ⟨2, t, by omega, ht, by rw [qa, pim, hj], Or.inr ⟨rfl, by omega⟩⟩
        · obtain ⟨v', n', a, b, c, d⟩ := p6.2.1 i (by omega)
          exact ⟨v', n', a, b, by rw [pio i (by omega)]; exact c, by omega⟩
      · by_cases qg : v' = 2 ∧ n' = t
        · obtain ⟨rfl, rfl⟩ := qg
          exact ⟨m', by omega, by rw [pim, ← hj]⟩
        · obtain ⟨i, hi, q⟩ := p6.2.2.1 v' n' a b (by omega) e2
          exact ⟨i, by omega, by rw [pio i hi]; exact q⟩
      · by_cases qa : i = m'
        · subst qa
          rw [r3 k hk, pim]
          by_cases q : k < 2 * nb φ
          · rw [if_pos q, if_pos q]
          · rw [if_neg q, if_neg q, if_neg (by omega)]
        · have : gJ t2 (65 + i) k = gJ s (65 + i) k := by unfold gJ; rw [to2 _ (by omega)]
          rw [this, p6.2.2.2.1 i (by omega) k hk, pio i (by omega)]
      · unfold gI; rw [t1, sI_o (by omega)]
        exact (p6.2.2.2.2 v' n' a b (by omega)).1 e2
      · unfold gI; rw [t1, sI_o (by omega)]
        by_cases qa : i = m'
        · rw [qa, pim, ← hj] at e2
          have := (num_inj w b ht (by omega) e2).1
          omega
        · rw [pio i (by omega)] at e2
          exact (p6.2.2.2.2 v' n' a b (by omega)).2 i (by omega) e2) (nn φ) 0 N σ (by omega) (by omega) ⟨fr6_rf σ, rfl, pi, m, Nat.le_refl _, h3, hpd, BS_mono hB (fun v n a b => by omega)⟩
  obtain ⟨p1, p1b, pi', m', pm, p4, pd, p6⟩ := hI
  obtain ⟨n, en⟩ : ∃ n, N - nn φ = n + 1 := ⟨N - nn φ - 1, by omega⟩
  have es : f_X4_addTurns_h2 N N (0 : Int32) σ = f_X4_addTurns_h2 N (N - nn φ) (nt (nn φ : Nat)) s := es
  refine ⟨s, pi', m', ?_, p4, BS_mono p6 (fun v' n' a b => ⟨fun _ => trivial, fun _ => by omega⟩), p1, pd, p1b⟩
  rw [es, en, f_X4_addTurns_h2, CFr_n (fr6_CFr h p1), le_t (by omega) (by omega) (by omega)]
theorem surj_le {m d : Nat} {pi : Nat → Nat} (h : ∀ j, j < d → ∃ i, i < m ∧ pi i = j) : d ≤ m := by
  obtain ⟨f, hf⟩ : ∃ f : Nat → Nat, ∀ j, j < d → f j < m ∧ pi (f j) = j := by
    refine ⟨fun j => if q : j < d then Classical.choose (h j q) else 0, fun j hj => ?_⟩
    dsimp only
    rw [dif_pos hj]
    exact Classical.choose_spec (h j hj)
  exact inj_le (f := f) (fun a b ha hb e => by
    have h1 := (hf a ha).2
    have h2 := (hf b hb).2
    rw [e] at h1
    exact h1.symm.trans h2) (fun j hj => (hf j hj).1)
/-- what the class knows of motions, but for mechanisms -/
def CSh (φ : FR) (σ : ZS) (pi : Nat → Nat) : Prop := (∀ g, g < ds φ → pi g < ds φ) ∧ (∀ v n, v < 2 → n < nn φ → (num φ v n < 0 → gI σ (57 + v) n = nt (-6)) ∧ (0 ≤ num φ v n → ∃ i, i < ds φ ∧ num φ v n = (pi i : Int) ∧ gI σ (57 + v) n = nt (i : Nat)))
theorem s_span (hN : 200 ≤ N) (w : WF φ) {σ : ZS} (h : CFr σ 0 φ) : ∃ τ pi Y idx, f_X4_span N σ = some ((), τ) ∧ Sz φ τ (rk φ) ∧ RD φ pi τ (rk φ) (2 * nb φ) Y idx ∧ CSh φ τ pi ∧ (∀ c, c ≠ 5 → ¬ (56 ≤ c ∧ c < 59) → τ.1 c = σ.1 c) ∧ ∀ c, ¬ (65 ≤ c ∧ c < 143) → τ.2 c = σ.2 c := by
  have hw2 := w.2.1
  have hdd := dd_le (φ := φ)
  have hds : ds φ ≤ 14 := cn_bd _ 14
  unfold f_X4_span
  rw [n_0, bd_eq, bd_eq, gI_sI_c (by omega), gI_sI_c (by omega), CFr_b h, n_2, nt_mul, bd_eq, bd_eq]
  obtain ⟨s0, hs0⟩ : ∃ s0, s0 = sI (sI (sI σ 5 3 (nt 0)) 5 6 (nt 0)) 5 5 (nt (2 * (nb φ : Nat))) := ⟨_, rfl⟩
  rw [← hs0]
  have g03 : gI s0 5 3 = nt ((0 : Nat) : Int) := by rw [hs0, gI_sI_k (by omega), gI_sI_k (by omega), gI_sI_at]; rfl
  have g06 : gI s0 5 6 = nt ((0 : Nat) : Int) := by rw [hs0, gI_sI_k (by omega), gI_sI_at]; rfl
  have g05 : gI s0 5 5 = nt ((2 * nb φ : Nat) : Int) := by rw [hs0, gI_sI_at]; rfl
  have o0 : ∀ c, c ≠ 5 → s0.1 c = σ.1 c := fun c hc => by rw [hs0, sI_o hc, sI_o hc, sI_o hc]
  have o02 : s0.2 = σ.2 := by rw [hs0]; rfl
  have hc0 : CFr s0 0 φ := CFr_56 h (fun c _ hc => o0 c hc)
  obtain ⟨s1, pi1, m1, e1, a3, a6, B1, f1⟩ := s_addShifts hN w (v := 0) (by omega) hc0 (pi := fun i => i) (m := 0) g03 g05 g06 ⟨fun i j hi => by omega, fun i hi => by omega, fun v n _ _ hv => by omega, fun i hi => by omega, fun v n _ _ hv => by omega⟩
  have hc1 := fr6_CFr hc0 f1
  obtain ⟨s2, pi2, m2, e2, b3, b6, B2, f2⟩ := s_addShifts hN w (v := 1) (by omega) hc1 (pi := pi1) (m := m1) a3 (by rw [f1.2.1 5 (by omega) (by omega)]; exact g05) a6 (BS_mono B1 (fun v n _ _ => by omega))
  have hc2 := fr6_CFr hc1 f2
  have B2 : BS φ s2 pi2 m2 m2 (fun v' _ => v' < 2) := BS_mono B2 (fun v n _ _ => by omega)
  have hm2 : m2 = ds φ := by
    have l1 := BS_size w B2 (fun _ _ q => q)
    have l2 : ds φ ≤ m2 := surj_le (pi := pi2) (fun j hj => by
      have := ds_le (φ := φ)
      obtain ⟨v, n, hv, hn, q, _⟩ := num_at w (j := j) (by omega)
      have hv2 : v < 2 := (num_s w hv hn (by omega)).mp (by omega)
      have hh : hld φ v n = false := by rcases num_rg w hv hn with ⟨q2, _⟩ | ⟨_, _, q2⟩; omega; exact q2
      obtain ⟨i, hi, q3⟩ := B2.2.2.1 v n hv hn hv2 hh
      exact ⟨i, hi, by omega⟩)
    omega
  have hpd2 : ∀ i, i < m2 → pi2 i < ds φ := fun i hi => by
    obtain ⟨v', n', a, b, c, d⟩ := B2.2.1 i hi
    have := (num_s w a b (by omega)).mpr d
    omega
  obtain ⟨s3, pi, m3, e3, c3, B3, f3, pd, c6⟩ := s_addTurns hN w hc2 b3 B2 hpd2
  have hc3 := fr6_CFr hc2 f3
  have hlt : ∀ i, i < m3 → pi i < dd φ := fun i hi => by
    obtain ⟨v, n, a, b, c, _⟩ := B3.2.1 i hi
    rcases num_rg w a b with ⟨q, _⟩ | ⟨_, q, _⟩ <;> omega
  have hm3 : m3 = dd φ := by
    have l1 : m3 ≤ dd φ := inj_le B3.1 hlt
    have l2 : dd φ ≤ m3 := surj_le (pi := pi) (fun j hj => by
      obtain ⟨v, n, hv, hn, q, _⟩ := num_at w hj
      have hh : hld φ v n = false := by rcases num_rg w hv hn with ⟨q2, _⟩ | ⟨_, _, q2⟩; omega; exact q2
      obtain ⟨i, hi, q3⟩ := B3.2.2.1 v n hv hn trivial hh
      exact ⟨i, hi, by omega⟩)
    omega
  have d5 : gI s3 5 5 = nt ((2 * nb φ : Nat) : Int) := by rw [f3.2.1 5 (by omega) (by omega), f2.2.1 5 (by omega) (by omega), f1.2.1 5 (by omega) (by omega)]; exact g05
  have d6 : gI s3 5 6 = nt ((ds φ : Nat) : Int) := by rw [c6, b6, hm2]
  have d3 : gI s3 5 3 = nt ((dd φ : Nat) : Int) := by rw [c3, hm3]
  rw [hm2] at B3 pd
  rw [hm3] at B3 hlt
  have hpid : ∀ g, g < ds φ → pi g < dd φ := fun g hg => by have := pd g hg; have := ds_le (φ := φ); omega
  -- the rows are those of single numbers
  obtain ⟨Y0, hY0⟩ : ∃ Y0 : Nat → Nat, Y0 = fun l => 12 + l := ⟨_, rfl⟩
  have hM0 : Mx φ Y0 = un := by
    funext i
    unfold Mx fu
    rw [hY0]; dsimp only
    rw [if_neg (by omega), show 12 + i - 12 = i by omega]
  have hD0 : Dt φ Y0 ≠ 0 := by unfold Dt; rw [hM0, dt_un]; omega
  have hx0 : ∀ k, k < dd φ → ∀ j, j < dd φ → xv φ Y0 k j = un k j := fun k hk j hj => by
    unfold xv
    rw [hM0]
    by_cases q : j = k
    · subst q
      rw [up_self, dt_un, show un j j = 1 from if_pos rfl]
    · rw [dt_up_same (dd φ) un k j hk hj (fun w => q w.symm), show un k j = 0 from if_neg q]
  have hT0 : ∀ i, i < dd φ → ∀ k, k < wd φ → T12 φ pi (xv φ Y0 (pi i)) k = if k < 2 * nb φ then rwX φ (pi i) k else if k = 2 * nb φ + i ∧ i < ds φ then 12 else 0 := fun i hi k hk => by
    have hpi := hlt i hi
    have hone : T12 φ pi (xv φ Y0 (pi i)) k = fvK φ pi k (pi i) := by
      unfold T12
      rw [sZ_one (k := pi i) hpi (fun j hj q => by rw [hx0 _ hpi j hj, show un (pi i) j = 0 from if_neg q]; omega), hx0 _ hpi _ hpi, show un (pi i) (pi i) = 1 from if_pos rfl]; omega
    rw [hone]
    unfold fvK
    by_cases q : k < 2 * nb φ
    · rw [if_pos q, if_pos q]; rfl
    · rw [if_neg q, if_neg q]
      unfold wd at hk
      by_cases q2 : k = 2 * nb φ + i ∧ i < ds φ
      · rw [if_pos q2, show k - 2 * nb φ = i by omega, show un (pi i) (pi i) = 1 from if_pos rfl]; rfl
      · rw [if_neg q2, show un (pi (k - 2 * nb φ)) (pi i) = 0 from if_neg (fun q3 => q2 (by
          have hds2 := ds_le (φ := φ)
          have := B3.1 i (k - 2 * nb φ) hi (by omega) q3
          omega))]; rfl
  have hwd : ∀ s : ZS, s.1 = s3.1 → f_X4_width N s = some (nt (wd φ : Nat), s) := fun s hs2 => s_width (by unfold gI; rw [hs2]; exact d5) (by unfold gI; rw [hs2]; exact d6) rfl
  have hYok : ∀ l, l < dd φ → okc φ (dd φ) (Y0 l) := fun l hl => by rw [hY0]; exact Or.inr ⟨by dsimp only; omega, by dsimp only; omega⟩
  -- shortened
  obtain ⟨s4, es4, hI⟩ := lp_inv (fun n k s => f_X4_span_h39 N n (nt (k : Nat)) s) (fun t s => s.1 = s3.1 ∧ (∀ c, ¬ (65 ≤ c ∧ c < 143) → s.2 c = s3.2 c) ∧ (∀ i, t ≤ i → i < dd φ → s.2 (65 + i) = s3.2 (65 + i)) ∧ ∀ i, i < t → RI φ pi s (65 + i) Y0 (pi i)) (dd φ) (fun n t s ht q => by
    obtain ⟨p1, p2, p3, p4⟩ := q
    have ht : t < dd φ := ht
    have hrow : Row s (65 + t) (wd φ) (T12 φ pi (xv φ Y0 (pi t))) := fun k hk => by
      have h26 := wd_le w
      rw [hT0 t ht k hk, ← B3.2.2.2.1 t ht k (by omega)]
      unfold gJ; rw [p3 t (Nat.le_refl _) ht]
    obtain ⟨s', q1, q2, q3, q4⟩ := s_simplify (σ := s) hN (tg_rows (k := t) (by omega)) (ln_rows (by omega)) (wd_le w) (hwd s p1) hrow (fun k hk => by
      have := dt_row w hYok hpid (hlt t ht) hk
      constructor <;> omega)
    obtain ⟨g, hg, hgm⟩ := shv_mul (wd φ) (T12 φ pi (xv φ Y0 (pi t)))
    refine ⟨s', ?_, q3.trans p1, fun c hc => by rw [q4 c (by omega)]; exact p2 c hc, fun i hi hi2 => by rw [q4 _ (by omega)]; exact p3 i (by omega) hi2, fun i hi => ?_⟩
    · have g3 : gI s 5 3 = nt ((dd φ : Nat) : Int) := by unfold gI; rw [p1]; exact d3
      rw [f_X4_span_h39, g3, le_f (by omega) (by omega) (by omega), ck_inb (by omega) (by omega) (by omega), nat_k (by omega), q1, obd_some, n_1, nt_add, bd_eq]
      rfl
    · by_cases q : i = t
      · subst q
        exact ⟨_, q2, ⟨g, 1, by omega, by omega, fun k hk => by rw [← hgm k hk]; omega⟩, shv_prim _ _⟩
      · exact RI_o (p4 i (by omega)) (q4 _ (by omega))) (dd φ) 0 N s3 (by omega) (by omega) ⟨rfl, fun _ _ => rfl, fun _ _ _ => rfl, fun i hi => by omega⟩
  obtain ⟨p1, p2, p3, p4⟩ := hI
  have g4 : gI s4 5 3 = nt ((dd φ : Nat) : Int) := by unfold gI; rw [p1]; exact d3
  obtain ⟨τ, Y, idx, k1, k2, k3, k4⟩ := s_reduceRows (σ := s4) (pi := pi) w hN hpid (r0 := 0) (Y := Y0) (idx := pi) g4 (by unfold gI; rw [p1]; exact d5) (by unfold gI; rw [p1]; exact d6) ⟨hYok, hD0, B3.1, hlt, fun i hi => p4 i hi, fun i hi => by omega, fun i _ _ e' he' => by omega, by omega, rfl⟩
  have es4 : f_X4_span_h39 N N (0 : Int32) s3 = f_X4_span_h39 N (N - dd φ) (nt (dd φ : Nat)) s4 := es4
  obtain ⟨n, en⟩ : ∃ n, N - dd φ = n + 1 := ⟨N - dd φ - 1, by omega⟩
  have f13 := fr6_tr (fr6_tr f1 f2) f3
  refine ⟨τ, pi, Y, idx, ?_, k2, k3, ⟨pd, fun v n hv hn => ?_⟩, fun c hc hc2 => ?_, fun c hc => ?_⟩
  · have e2' : f_X4_addShifts N (1 : Int32) s1 = some ((), s2) := e2
    have e1' : f_X4_addShifts N (nt 0) s0 = some ((), s1) := e1
    rw [e1', obd_some, e2', obd_some, e3, obd_some, ← n_0, es4, en, f_X4_span_h39, g4, le_t (by omega) (by omega) (by omega), k1, obd_some]
  · have hτ : ∀ n, gI τ (57 + v) n = gI s3 (57 + v) n := fun n => by unfold gI; rw [k4.1 _ (by omega), p1]
    rw [hτ]
    have h5 := B3.2.2.2.2 v n hv hn trivial
    refine ⟨fun q => ?_, fun q => ?_⟩
    · rcases num_rg w (v := v) (by omega) hn with ⟨_, q2⟩ | ⟨q2, _, _⟩
      · exact h5.1 q2
      · omega
    · have hh : hld φ v n = false := by rcases num_rg w (v := v) (by omega) hn with ⟨q2, _⟩ | ⟨_, _, q2⟩; omega; exact q2
      obtain ⟨i, hi, q3⟩ := B3.2.2.1 v n (by omega) hn trivial hh
      have hns := (num_s w (v := v) (by omega) hn q).mpr hv
      have hids : i < ds φ := by
        -- the shifts are the first ones
        obtain ⟨i', hi', q4⟩ := inj_on (n := ds φ) (f := pi) (fun a b ha hb e => B3.1 a b (by have := ds_le (φ := φ); omega) (by have := ds_le (φ := φ); omega) e) pd (pi i) (by omega)
        have := B3.1 i' i (by have := ds_le (φ := φ); omega) hi q4
        omega
      exact ⟨i, hids, q3, h5.2 i hi q3⟩
  · rw [k4.1 c hc, p1, f13.1 c hc hc2, o0 c hc]
  · rw [k4.2.2 c hc, p2 c hc, f13.2.2 c hc, o02]
end
