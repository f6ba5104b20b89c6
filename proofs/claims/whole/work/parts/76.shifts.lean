-- ===== all shifts, all turns =====
def BS (φ : FR) (σ : ZS) (pi : Nat → Nat) (m S : Nat) (D : Nat → Nat → Prop) : Prop := inj m pi ∧ (∀ i, i < m → ∃ v n, v < 3 ∧ n < nn φ ∧ num φ v n = (pi i : Int) ∧ D v n) ∧ (∀ v n, v < 3 → n < nn φ → D v n → hld φ v n = false → ∃ i, i < m ∧ num φ v n = (pi i : Int)) ∧ (∀ i, i < m → ∀ k, k < 26 → gJ σ (65 + i) k = jl (if k < 2 * nb φ then rwX φ (pi i) k else if k = 2 * nb φ + i ∧ i < S then 12 else 0)) ∧ ∀ v n, v < 2 → n < nn φ → D v n → (hld φ v n = true → gI σ (57 + v) n = nt (-6)) ∧ ∀ i, i < m → num φ v n = (pi i : Int) → gI σ (57 + v) n = nt (i : Nat)
theorem BS_mono {φ : FR} {σ : ZS} {pi : Nat → Nat} {m S : Nat} {D E : Nat → Nat → Prop} (h : BS φ σ pi m S D) (hd : ∀ v n, v < 3 → n < nn φ → (D v n ↔ E v n)) : BS φ σ pi m S E := by
  obtain ⟨h1, h2, h3, h4, h5⟩ := h
  exact ⟨h1, fun i hi => by
    obtain ⟨v, n, a, b, c, d⟩ := h2 i hi
    exact ⟨v, n, a, b, c, (hd v n a b).mp d⟩, fun v n a b c => h3 v n a b ((hd v n a b).mpr c), h4, fun v n a b c => h5 v n a b ((hd v n (by omega) b).mpr c)⟩
/-- which cells a method of the basis may touch -/
def fr6 (σ τ : ZS) : Prop := (∀ c, c ≠ 5 → ¬ (56 ≤ c ∧ c < 59) → τ.1 c = σ.1 c) ∧ (∀ k, k ≠ 3 → k ≠ 6 → gI τ 5 k = gI σ 5 k) ∧ ∀ c, ¬ (65 ≤ c ∧ c < 143) → τ.2 c = σ.2 c
theorem fr6_tr {a b c : ZS} (h : fr6 a b) (h2 : fr6 b c) : fr6 a c := ⟨fun x hx hy => (h2.1 x hx hy).trans (h.1 x hx hy), fun k hk hk2 => (h2.2.1 k hk hk2).trans (h.2.1 k hk hk2), fun x hx => (h2.2.2 x hx).trans (h.2.2 x hx)⟩
theorem fr6_rf (σ : ZS) : fr6 σ σ := ⟨fun _ _ _ => rfl, fun _ _ _ => rfl, fun _ _ => rfl⟩
theorem fr6_CFr {σ τ : ZS} {φ : FR} (h : CFr σ 0 φ) (f : fr6 σ τ) : CFr τ 0 φ := CFr_56 h (fun c hc hc5 => f.1 c hc5 (by omega))
section
variable {N : Nat} {φ : FR}
theorem BS_size {σ : ZS} (w : WF φ) {pi : Nat → Nat} {m S : Nat} {D : Nat → Nat → Prop} (h : BS φ σ pi m S D) (hD : ∀ v n, D v n → v < 2) : m ≤ ds φ := inj_le h.1 (fun i hi => by
  obtain ⟨v, n, a, b, c, d⟩ := h.2.1 i hi
  have := (num_s w a b (by omega)).mpr (hD v n d)
  omega)
theorem s_addShifts (hN : 200 ≤ N) (w : WF φ) {v : Nat} (hv : v < 2) {σ : ZS} (h : CFr σ 0 φ) {pi : Nat → Nat} {m : Nat} (h3 : gI σ 5 3 = nt (m : Nat)) (h5 : gI σ 5 5 = nt ((2 * nb φ : Nat) : Int)) (h6 : gI σ 5 6 = nt (m : Nat)) (hB : BS φ σ pi m m (fun v' _ => v' < v)) : ∃ τ pi' m', f_X4_addShifts N (nt (v : Nat)) σ = some ((), τ) ∧ gI τ 5 3 = nt (m' : Nat) ∧ gI τ 5 6 = nt (m' : Nat) ∧ BS φ τ pi' m' m' (fun v' _ => v' < v + 1) ∧ fr6 σ τ := by
  have hw1 := w.1
  have hw2 := w.2.1
  have hds : ds φ ≤ 14 := cn_bd _ 14
  unfold f_X4_addShifts
  obtain ⟨s1, G, e1, G1, G2, q1, q2⟩ := s_joinGroups hN h w hv
  rw [e1, obd_some]
  have hb19 : (if nt (v : Nat) = 0 then f_X4_addShifts_b19 N (nt (v : Nat)) (0 : Int32) s1 else f_X4_addShifts_b19 N (nt (v : Nat)) (1 : Int32) s1) = f_X4_addShifts_b19 N (nt (v : Nat)) (nt (v : Nat)) s1 := by
    rcases (show v = 0 ∨ v = 1 by omega) with rfl | rfl
    · rw [n_0, eq_t (by rfl)]; rfl
    · rw [n_0, eq_f (by omega) (by omega) (by omega) (by omega) (by omega)]; rfl
  rw [hb19]
  unfold f_X4_addShifts_b19
  rw [ck_inb (by omega) (by omega) (by omega), nat_k (by omega), bd_eq, n_m6, s_fillI hN (tg_shift hv) (ln_shift hv) (by omega), obd_some]
  obtain ⟨s2, es2⟩ : ∃ s2, s2 = wI s1 (57 + v) 7 (fun _ => nt (-6)) := ⟨_, rfl⟩
  rw [← es2]
  have f12 : fr6 σ s2 := by
    rw [es2]
    exact ⟨fun c hc hc2 => by rw [wI_o (by omega), q2 c (by omega)], fun k _ _ => by rw [gI_wI_c (by omega)]; unfold gI; rw [q2 5 (by omega)], fun c _ => by show s1.2 c = _; rw [q1]⟩
  have b3 : gI s2 5 3 = nt (m : Nat) := by rw [es2, gI_wI_c (by omega)]; unfold gI; rw [q2 5 (by omega)]; exact h3
  have b6 : gI s2 5 6 = nt (m : Nat) := by rw [es2, gI_wI_c (by omega)]; unfold gI; rw [q2 5 (by omega)]; exact h6
  have bG : ∀ n, n < nn φ → gI s2 56 n = nt (G n : Nat) ∧ G n < nn φ := fun n hn => by rw [es2, gI_wI_c (by omega)]; exact G1 n hn
  have hdF : ∀ n k, n < nn φ → k < nn φ → (G n = G k ↔ hdF φ v n = hdF φ v k) := fun n k hn hk => (G2 n k hn hk).trans (hdF_iff (by omega)).symm
  obtain ⟨s, es, hI⟩ := lp_inv (fun n k s => f_X4_addShifts_h30 N (nt (v : Nat)) (57 + v) n (nt (k : Nat)) s) (fun g s => fr6 σ s ∧ (∀ n, n < nn φ → gI s 56 n = nt (G n : Nat)) ∧ (∀ n, n < nn φ → g ≤ G n → gI s (57 + v) n = nt (-6)) ∧ ∃ pi m, gI s 5 3 = nt (m : Nat) ∧ gI s 5 6 = nt (m : Nat) ∧ BS φ s pi m m (fun v' n => v' < v ∨ (v' = v ∧ G n < g))) (nn φ) (fun n g s hg q => by
    obtain ⟨p1, p2, p3, pi, m, p4, p5, p6⟩ := q
    have hg : g < nn φ := hg
    have hc : CFr s 0 φ := fr6_CFr h p1
    have hGs : ∀ n, n < nn φ → gI s 56 n = nt (G n : Nat) ∧ G n < nn φ := fun n hn => ⟨p2 n hn, (G1 n hn).2⟩
    have hb113 : ∀ s : ZS, f_X4_addShifts_b113 N (fun x4_ σ_ => f_X4_addShifts_h30 N (nt (v : Nat)) (57 + v) n x4_ σ_) (nt (v : Nat)) (57 + v) (nt (g : Nat)) s = f_X4_addShifts_h30 N (nt (v : Nat)) (57 + v) n (nt ((g + 1 : Nat) : Int)) s := fun s => by
      rw [f_X4_addShifts_b113, n_1, nt_add, bd_eq]; rfl
    rw [f_X4_addShifts_h30, CFr_n hc, le_f (by omega) (by omega) (by omega), s_groupShifts hN hc w hv hGs hg, obd_some, br_p]
    by_cases e : an (fun n => G n == g) (nn φ) = true ∧ an (fun n => G n == g && hkd φ n v) (nn φ) = false
    · -- a shift
      rw [if_pos e]
      obtain ⟨n0, hn0, hgn⟩ := an_iff.mp e.1
      have hgn : G n0 = g := by simpa using hgn
      have hh : hld φ v n0 = false := by
        cases q : hld φ v n0 with
        | false => rfl
        | true =>
          unfold hld at q
          obtain ⟨k, hk, q3⟩ := an_iff.mp q
          rw [Bool.and_eq_true, beq_iff_eq] at q3
          have : an (fun n => G n == g && hkd φ n v) (nn φ) = true := an_iff.mpr ⟨k, hk, by rw [Bool.and_eq_true, beq_iff_eq]; exact ⟨((hdF k n0 hk hn0).mpr q3.2).trans hgn, q3.1⟩⟩
          rw [e.2] at this; cases this
      obtain ⟨j, hj⟩ : ∃ j : Nat, num φ v n0 = j := by
        rcases num_rg w (v := v) (by omega) hn0 with ⟨_, q⟩ | ⟨q, _, _⟩
        · rw [hh] at q; cases q
        · exact ⟨(num φ v n0).toNat, by omega⟩
      have hjs : j < ds φ := by have := (num_s w (v := v) (by omega) hn0 (by omega)).mpr hv; omega
      have hne : ∀ i, i < m → pi i ≠ j := fun i hi q => by
        obtain ⟨v', n', a, b, c, d⟩ := p6.2.1 i hi
        have := num_inj w b hn0 (by omega) (show num φ v' n' = num φ v n0 by rw [c, hj, q])
        obtain ⟨rfl, q5⟩ := this
        have := (hdF n' n0 b hn0).mpr q5
        omega
      obtain ⟨pi', hpi'⟩ : ∃ pi' : Nat → Nat, pi' = fun i => if i = m then j else pi i := ⟨_, rfl⟩
      have pim : pi' m = j := by rw [hpi']; exact if_pos rfl
      have pio : ∀ i, i < m → pi' i = pi i := fun i hi => by rw [hpi']; exact if_neg (by omega)
      have hinj : inj (m + 1) pi' := fun a b ha hb q => by
        by_cases qa : a = m
        · by_cases qb : b = m
          · omega
          · rw [qa, pim, pio b (by omega)] at q
            exact absurd q.symm (hne b (by omega))
        · by_cases qb : b = m
          · rw [qb, pim, pio a (by omega)] at q
            exact absurd q (hne a (by omega))
          · rw [pio a (by omega), pio b (by omega)] at q
            exact p6.1 a b (by omega) (by omega) q
      have hpds : ∀ i, i < m + 1 → pi' i < ds φ := fun i hi => by
        by_cases qa : i = m
        · rw [qa, pim]; exact hjs
        · rw [pio i (by omega)]
          obtain ⟨v', n', a, b, c, d⟩ := p6.2.1 i (by omega)
          have := (num_s w a b (by omega)).mpr (by omega)
          omega
      have hm14 : m + 1 ≤ ds φ := inj_le hinj hpds
      -- the numbers of the group
      obtain ⟨f, hf⟩ : ∃ f : Nat → Int32, f = fun k => if G k = g then nt (m : Nat) else gI s (57 + v) k := ⟨_, rfl⟩
      have k2 := lp_go (fun a k (s : ZS) => f_X4_addShifts_h53 N (fun x4_ σ_ => f_X4_addShifts_h30 N (nt (v : Nat)) (57 + v) n x4_ σ_) (nt (v : Nat)) (57 + v) (nt (g : Nat)) a (nt (k : Nat)) s) (fun k => wI s (57 + v) k f) (nn φ) (fun a k hk => by
        have hc' : CFr (wI s (57 + v) k f) 0 φ := CFr_56 hc (fun c hc _ => wI_o (by omega))
        have g56 : gI (wI s (57 + v) k f) 56 k = nt (G k : Nat) := by rw [gI_wI_c (by omega)]; exact p2 k hk
        have g56' : gI (wI s (57 + v) k f) 5 6 = nt (m : Nat) := by rw [gI_wI_c (by omega)]; exact p5
        have gsh : gI (wI s (57 + v) k f) (57 + v) k = gI s (57 + v) k := by rw [gI_wI, if_neg (by omega)]
        have gk2 := (G1 k hk).2
        have hb88 : ∀ y, f_X4_addShifts_b88 N (fun x5_ σ_ => f_X4_addShifts_h53 N (fun x4_ σ_ => f_X4_addShifts_h30 N (nt (v : Nat)) (57 + v) n x4_ σ_) (nt (v : Nat)) (57 + v) (nt (g : Nat)) a x5_ σ_) (nt (v : Nat)) (57 + v) (nt (g : Nat)) (nt (k : Nat)) (57 + v) (nt (k : Nat)) y (wI s (57 + v) k f) = f_X4_addShifts_h53 N (fun x4_ σ_ => f_X4_addShifts_h30 N (nt (v : Nat)) (57 + v) n x4_ σ_) (nt (v : Nat)) (57 + v) (nt (g : Nat)) a (nt ((k + 1 : Nat) : Int)) (sI (wI s (57 + v) k f) (57 + v) k y) := fun y => by
          rw [f_X4_addShifts_b88, ck_tg (tg_shift hv), ln_shift hv, ck_inb (by omega) (by omega) (by omega), nat_k (by omega), bd_eq, n_1, nt_add, bd_eq]; rfl
        rw [f_X4_addShifts_h53, CFr_n hc', le_f (by omega) (by omega) (by omega), ck_inb (by omega) (by omega) (by omega), nat_k (by omega), g56, g56', gsh, ck_tg (tg_shift hv), ln_shift hv, ck_inb (by omega) (by omega) (by omega), hb88, hb88, ← wI_s s (57 + v) k f]
        by_cases q : G k = g
        · rw [eq_t (by omega), show f k = nt (m : Nat) from by rw [hf]; exact if_pos q]
        · rw [eq_f (by omega) (by omega) (by omega) (by omega) (by omega), show f k = gI s (57 + v) k from by rw [hf]; exact if_neg q]) (nn φ) 0 N (by omega) (by omega)
      have k2 : f_X4_addShifts_h53 N (fun x4_ σ_ => f_X4_addShifts_h30 N (nt (v : Nat)) (57 + v) n x4_ σ_) (nt (v : Nat)) (57 + v) (nt (g : Nat)) N (0 : Int32) (wI s (57 + v) 0 f) = f_X4_addShifts_h53 N (fun x4_ σ_ => f_X4_addShifts_h30 N (nt (v : Nat)) (57 + v) n x4_ σ_) (nt (v : Nat)) (57 + v) (nt (g : Nat)) (N - nn φ) (nt (nn φ : Nat)) (wI s (57 + v) (nn φ) f) := k2
      rw [wI_0] at k2
      obtain ⟨n1, en1⟩ : ∃ n, N - nn φ = n + 1 := ⟨N - nn φ - 1, by omega⟩
      have hc2 : CFr (wI s (57 + v) (nn φ) f) 0 φ := CFr_56 hc (fun c hc _ => wI_o (by omega))
      obtain ⟨t, u1, u2, u3, u4⟩ := s_addShift hN hc2 w hv hn0 hj (G := G) (fun n hn => by rw [gI_wI_c (by omega)]; exact hGs n hn) G2 (m := m) (by rw [gI_wI_c (by omega)]; exact p4) (by rw [gI_wI_c (by omega)]; rw [p1.2.1 5 (by omega) (by omega)]; exact h5) (by rw [gI_wI_c (by omega)]; exact p5) (by omega)
      rw [hgn] at u1
      have t56 : gI t 5 6 = nt (m : Nat) := by unfold gI; rw [u2]; show gI (sI _ 5 3 _) 5 6 = _; rw [gI_sI_k (by omega), gI_wI_c (by omega)]; exact p5
      have t53 : gI t 5 3 = nt ((m + 1 : Nat) : Int) := by unfold gI; rw [u2]; show gI (sI _ 5 3 _) 5 3 = _; rw [gI_sI_at]; rfl
      have tsh : ∀ k, k < nn φ → gI t (57 + v) k = f k := fun k hk => by
        unfold gI; rw [u2, sI_o (by omega)]
        show gI (wI s (57 + v) (nn φ) f) (57 + v) k = _
        rw [gI_wI, if_pos ⟨rfl, hk⟩]
      have tsh2 : ∀ v' k, v' < 2 → v' ≠ v → gI t (57 + v') k = gI s (57 + v') k := fun v' k a b => by
        unfold gI; rw [u2, sI_o (by omega), wI_o (by omega)]
      refine ⟨sI t 5 6 (nt ((m + 1 : Nat) : Int)), ?_, ⟨fun c hc hc2 => ?_, fun k k3 k6 => ?_, fun c hc => ?_⟩, fun n hn => ?_, fun n hn hgn2 => ?_, pi', m + 1, ?_, ?_, hinj, fun i hi => ?_, fun v' n' a b d e2 => ?_, fun i hi k hk => ?_, fun v' n' a b d => ⟨fun e2 => ?_, fun i hi e2 => ?_⟩⟩
      · rw [k2, en1, f_X4_addShifts_h53, CFr_n hc2, le_t (by omega) (by omega) (by omega), u1, obd_some, t56, n_1, nt_add, bd_eq, bd_eq, hb113]
        rfl
      · rw [sI_o hc, u2, sI_o hc, wI_o (by omega)]; exact p1.1 c hc hc2
      · rw [gI_sI_k k6]; unfold gI; rw [u2]
        show gI (sI _ 5 3 _) 5 k = _
        rw [gI_sI_k k3, gI_wI_c (by omega)]; exact p1.2.1 k k3 k6
      · show t.2 c = σ.2 c
        rw [u3 c (by omega)]; exact p1.2.2 c hc
      · rw [gI_sI_c (by omega)]; unfold gI; rw [u2, sI_o (by omega), wI_o (by omega)]; exact p2 n hn
      · rw [gI_sI_c (by omega), tsh n hn, hf]; dsimp only
        rw [if_neg (by omega)]; exact p3 n hn (by omega)
      · rw [gI_sI_k (by omega)]; exact t53
      · rw [gI_sI_at]
      · by_cases qa : i = m
        · exact ⟨v, n0, by omega, hn0, by rw [qa, pim, hj], Or.inr ⟨rfl, by omega⟩⟩
        · obtain ⟨v', n', a, b, c, d⟩ := p6.2.1 i (by omega)
          exact ⟨v', n', a, b, by rw [pio i (by omega)]; exact c, by omega⟩
      · by_cases qg : v' = v ∧ G n' = g
        · obtain ⟨rfl, qg⟩ := qg
          exact ⟨m, by omega, by rw [pim, ← hj]; exact num_eq ((hdF n' n0 b hn0).mp (qg.trans hgn.symm))⟩
        · obtain ⟨i, hi, q⟩ := p6.2.2.1 v' n' a b (by omega) e2
          exact ⟨i, by omega, by rw [pio i hi]; exact q⟩
      · show gJ t (65 + i) k = _
        by_cases qa : i = m
        · subst qa
          rw [u4 k hk, pim]
          by_cases q : k < 2 * nb φ
          · rw [if_pos q, if_pos q]
          · rw [if_neg q, if_neg q]
            by_cases q2 : k = 2 * nb φ + i
            · rw [if_pos q2, if_pos ⟨q2, by omega⟩]
            · rw [if_neg q2, if_neg (fun w => q2 w.1)]
        · have : gJ t (65 + i) k = gJ s (65 + i) k := by unfold gJ; rw [u3 _ (by omega)]; rfl
          rw [this, p6.2.2.2.1 i (by omega) k hk, pio i (by omega)]
          by_cases q : k < 2 * nb φ
          · rw [if_pos q, if_pos q]
          · rw [if_neg q, if_neg q]
            by_cases q2 : k = 2 * nb φ + i
            · rw [if_pos ⟨q2, by omega⟩, if_pos ⟨q2, by omega⟩]
            · rw [if_neg (fun w => q2 w.1), if_neg (fun w => q2 w.1)]
      · by_cases qv : v' = v
        · subst qv
          have hgn' : G n' ≠ g := fun q => by
            have := hld_hd (φ := φ) ((hdF n' n0 b hn0).mp (q.trans hgn.symm))
            rw [e2, hh] at this; cases this
          rw [gI_sI_c (by omega), tsh n' b, hf]; dsimp only
          rw [if_neg hgn']
          exact (p6.2.2.2.2 v' n' a b (by omega)).1 e2
        · rw [gI_sI_c (by omega), tsh2 v' n' a qv]
          exact (p6.2.2.2.2 v' n' a b (by omega)).1 e2
      · by_cases qv : v' = v
        · subst qv
          rw [gI_sI_c (by omega), tsh n' b, hf]; dsimp only
          by_cases q : G n' = g
          · rw [if_pos q]
            have hnum : num φ v' n' = (j : Int) := by rw [← hj]; exact num_eq ((hdF n' n0 b hn0).mp (q.trans hgn.symm))
            by_cases qa : i = m
            · rw [qa]
            · rw [pio i (by omega)] at e2
              exact absurd (by omega) (hne i (by omega))
          · rw [if_neg q]
            by_cases qa : i = m
            · rw [qa, pim, ← hj] at e2
              have := (num_inj w b hn0 (by omega) e2).2
              exact absurd (((hdF n' n0 b hn0).mpr this).trans hgn) q
            · rw [pio i (by omega)] at e2
              exact (p6.2.2.2.2 v' n' a b (by omega)).2 i (by omega) e2
        · rw [gI_sI_c (by omega), tsh2 v' n' a qv]
          by_cases qa : i = m
          · rw [qa, pim, ← hj] at e2
            exact absurd (num_inj w b hn0 (by omega) e2).1 qv
          · rw [pio i (by omega)] at e2
            exact (p6.2.2.2.2 v' n' a b (by omega)).2 i (by omega) e2
    · -- none
      rw [if_neg e, hb113]
      have hheld : ∀ n', n' < nn φ → G n' = g → hld φ v n' = true := fun n' hn' q => by
        cases q2 : hld φ v n' with
        | true => rfl
        | false =>
          exfalso
          apply e
          refine ⟨an_iff.mpr ⟨n', hn', by simpa using q⟩, ?_⟩
          cases q3 : an (fun n => G n == g && hkd φ n v) (nn φ) with
          | false => rfl
          | true =>
            obtain ⟨k, hk, q4⟩ := an_iff.mp q3
            rw [Bool.and_eq_true, beq_iff_eq] at q4
            have : hld φ v n' = true := an_iff.mpr ⟨k, hk, by rw [Bool.and_eq_true, beq_iff_eq]; exact ⟨q4.2, (hdF k n' hk hn').mp (q4.1.trans q.symm)⟩⟩
            rw [q2] at this; cases this
      refine ⟨s, rfl, p1, p2, fun n hn hgn => p3 n hn (by omega), pi, m, p4, p5, p6.1, fun i hi => ?_, fun v' n' a b d e2 => ?_, p6.2.2.2.1, fun v' n' a b d => ?_⟩
      · obtain ⟨v', n', a, b, c, d⟩ := p6.2.1 i hi
        exact ⟨v', n', a, b, c, by omega⟩
      · refine p6.2.2.1 v' n' a b ?_ e2
        by_cases q : v' = v ∧ G n' = g
        · obtain ⟨rfl, q⟩ := q
          rw [hheld n' b q] at e2; cases e2
        · omega
      · by_cases q : v' = v ∧ G n' = g
        · obtain ⟨rfl, q⟩ := q
          refine ⟨fun _ => p3 n' b (by omega), fun i hi e2 => ?_⟩
          have := hheld n' b q
          unfold num at e2
          rw [this, if_pos rfl] at e2; omega
        · exact p6.2.2.2.2 v' n' a b (by omega)) (nn φ) 0 N s2 (by omega) (by omega) ⟨f12, fun n hn => (bG n hn).1, fun n hn _ => by rw [es2, gI_wI, if_pos ⟨rfl, by omega⟩], pi, m, b3, b6, by
      obtain ⟨r1, r2, r3, r4, r5⟩ := hB
      refine ⟨r1, fun i hi => ?_, fun v' n' a b d e2 => r3 v' n' a b (by omega) e2, fun i hi k hk => ?_, fun v' n' a b d => ?_⟩
      · obtain ⟨v', n', a, b, c, d⟩ := r2 i hi
        exact ⟨v', n', a, b, c, Or.inl d⟩
      · have : gJ s2 (65 + i) k = gJ σ (65 + i) k := by unfold gJ; rw [es2]; show s1.2 _ k = _; rw [q1]
        rw [this]; exact r4 i hi k hk
      · have hv' : v' < v := by omega
        have := r5 v' n' a b hv'
        have e3 : gI s2 (57 + v') n' = gI σ (57 + v') n' := by rw [es2, gI_wI_c (by omega)]; unfold gI; rw [q2 _ (by omega)]
        rw [e3]; exact this⟩
  obtain ⟨p1, p2, p3, pi', m', p4, p5, p6⟩ := hI
  obtain ⟨n, en⟩ : ∃ n, N - nn φ = n + 1 := ⟨N - nn φ - 1, by omega⟩
  have es : f_X4_addShifts_h30 N (nt (v : Nat)) (57 + v) N (0 : Int32) s2 = f_X4_addShifts_h30 N (nt (v : Nat)) (57 + v) (N - nn φ) (nt (nn φ : Nat)) s := es
  refine ⟨s, pi', m', ?_, p4, p5, BS_mono p6 (fun v' n' a b => ?_), p1⟩
  · rw [es, en, f_X4_addShifts_h30, CFr_n (fr6_CFr h p1), le_t (by omega) (by omega) (by omega)]
  · have := (G1 n' b).2
    omega
end
