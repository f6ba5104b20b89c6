-- ===== the class's groups of nodes =====
section
variable {N : Nat} {σ : ZS} {φ : FR}
theorem s_fillI (hN : 200 ≤ N) {c L : Nat} (ht : tg c = 1) (hl : ln c = L) (hL : L ≤ 26) (x : Int32) : f_J7_fill_53178 N c x σ = some ((), wI σ c L (fun _ => x)) := by
  unfold f_J7_fill_53178
  have hi : isa c = true := by unfold isa; rw [ht]; rfl
  have e : Int32.ofNat L = nt (L : Nat) := rfl
  rw [ck_of hi, hl, bd_eq, e]
  have key := lp_go (fun n k (s : ZS) => f_J7_fill_53178_h5 N c x (nt (L : Nat)) n (nt (k : Nat)) s) (fun k => wI σ c k (fun _ => x)) L (fun n k hk => by
    rw [f_J7_fill_53178_h5, le_f (by omega) (by omega) (by omega), ck_tg ht, hl, ck_inb (by omega) (by omega) (by omega), nat_k (by omega), bd_eq, n_1, nt_add, bd_eq, wI_s σ c k (fun _ => x)]
    rfl) L 0 N (by omega) (by omega)
  obtain ⟨n, en⟩ : ∃ n, N - L = n + 1 := ⟨N - L - 1, by omega⟩
  have key : f_J7_fill_53178_h5 N c x (nt (L : Nat)) N (0 : Int32) (wI σ c 0 (fun _ => x)) = f_J7_fill_53178_h5 N c x (nt (L : Nat)) (N - L) (nt (L : Nat)) (wI σ c L (fun _ => x)) := key
  rw [wI_0] at key
  rw [key, en, f_J7_fill_53178_h5, le_t (by omega) (by omega) (by omega)]
theorem s_fillJ (hN : 200 ≤ N) {c L : Nat} (ht : tg c = 2) (hl : ln c = L) (hL : L ≤ 26) (x : Int64) : f_J7_fill_d0a16 N c x σ = some ((), wJ σ c L (fun _ => x)) := by
  unfold f_J7_fill_d0a16
  have hi : isa c = true := by unfold isa; rw [ht]; rfl
  have e : Int32.ofNat L = nt (L : Nat) := rfl
  rw [ck_of hi, hl, bd_eq, e]
  have key := lp_go (fun n k (s : ZS) => f_J7_fill_d0a16_h6 N c x (nt (L : Nat)) n (nt (k : Nat)) s) (fun k => wJ σ c k (fun _ => x)) L (fun n k hk => by
    rw [f_J7_fill_d0a16_h6, le_f (by omega) (by omega) (by omega), ck_tg ht, hl, ck_inb (by omega) (by omega) (by omega), nat_k (by omega), bd_eq, n_1, nt_add, bd_eq, wJ_s σ c k (fun _ => x)]
    rfl) L 0 N (by omega) (by omega)
  obtain ⟨n, en⟩ : ∃ n, N - L = n + 1 := ⟨N - L - 1, by omega⟩
  have key : f_J7_fill_d0a16_h6 N c x (nt (L : Nat)) N (0 : Int32) (wJ σ c 0 (fun _ => x)) = f_J7_fill_d0a16_h6 N c x (nt (L : Nat)) (N - L) (nt (L : Nat)) (wJ σ c L (fun _ => x)) := key
  rw [wJ_0] at key
  rw [key, en, f_J7_fill_d0a16_h6, le_t (by omega) (by omega) (by omega)]
/-- a frame isn't touched by what happens elsewhere -/
theorem CFr_56 {s : ZS} (h : CFr σ 0 φ) (hs : ∀ c, c < 56 → c ≠ 5 → s.1 c = σ.1 c) : CFr s 0 φ :=
  CFr_same h (hs _ (by omega) (by omega)) (fun f hf => hs _ (cl_lt (by omega) hf) (by have := @cl_ge 0 f; omega))
theorem s_srt (h : CFr σ 0 φ) (w : WF φ) {b v : Nat} (hb : b < nb φ) (hv : v < 2) {α : Type} (x y : α) : (if nt (if φ.1 0 (φ.1 3 b).toNat = φ.1 0 (φ.1 4 b).toNat then 1 else 0) = nt (v : Nat) then x else y) = if srt φ v b = true then x else y := by
  unfold srt vt
  rcases (show v = 0 ∨ v = 1 by omega) with rfl | rfl <;> by_cases e : φ.1 0 (φ.1 3 b).toNat = φ.1 0 (φ.1 4 b).toNat
  · rw [if_pos e, eq_f (by omega) (by omega) (by omega) (by omega) (by omega), if_neg (by simp [e])]
  · rw [if_neg e, eq_t (by rfl), if_pos (by simp [e])]
  · rw [if_pos e, eq_t (by rfl), if_pos (by simp [e])]
  · rw [if_neg e, eq_f (by omega) (by omega) (by omega) (by omega) (by omega), if_neg (by simp [e])]
theorem s_joinGroups (hN : 200 ≤ N) (h : CFr σ 0 φ) (w : WF φ) {v : Nat} (hv : v < 2) : ∃ (τ : ZS) (G : Nat → Nat), f_X4_joinGroups N (nt (v : Nat)) σ = some ((), τ) ∧ (∀ n, n < nn φ → gI τ 56 n = nt (G n : Nat) ∧ G n < nn φ) ∧ (∀ n m, n < nn φ → m < nn φ → (G n = G m ↔ eqv φ v n m)) ∧ τ.2 = σ.2 ∧ ∀ c, c ≠ 56 → τ.1 c = σ.1 c := by
  have hw1 := w.1
  have hw2 := w.2.1
  unfold f_X4_joinGroups
  -- each node alone
  have k1 := lp_go (fun n k (s : ZS) => f_X4_joinGroups_h2 N (nt (v : Nat)) n (nt (k : Nat)) s) (fun k => wI σ 56 k (fun n => nt (n : Nat))) (nn φ) (fun n k hk => by
    have hc : CFr (wI σ 56 k (fun n => nt (n : Nat))) 0 φ := CFr_56 h (fun c hc _ => wI_o (by omega))
    rw [f_X4_joinGroups_h2, CFr_n hc, le_f (by omega) (by omega) (by omega), ck_inb (by omega) (by omega) (by omega), nat_k (by omega), bd_eq, n_1, nt_add, bd_eq, wI_s σ 56 k (fun n => nt (n : Nat))]
    rfl) (nn φ) 0 N (by omega) (by omega)
  have k1 : f_X4_joinGroups_h2 N (nt (v : Nat)) N (0 : Int32) (wI σ 56 0 (fun n => nt (n : Nat))) = f_X4_joinGroups_h2 N (nt (v : Nat)) (N - nn φ) (nt (nn φ : Nat)) (wI σ 56 (nn φ) (fun n => nt (n : Nat))) := k1
  rw [wI_0] at k1
  obtain ⟨n1, en1⟩ : ∃ n, N - nn φ = n + 1 := ⟨N - nn φ - 1, by omega⟩
  have hc1 : CFr (wI σ 56 (nn φ) (fun n => nt (n : Nat))) 0 φ := CFr_56 h (fun c hc _ => wI_o (by omega))
  -- bars join
  obtain ⟨s, es, hI⟩ := lp_inv (fun n k s => f_X4_joinGroups_h25 N (nt (v : Nat)) n (nt (k : Nat)) s) (fun t s => s.2 = σ.2 ∧ (∀ c, c ≠ 56 → s.1 c = σ.1 c) ∧ ∃ G : Nat → Nat, (∀ n, n < nn φ → gI s 56 n = nt (G n : Nat) ∧ G n < nn φ) ∧ (∀ n m, n < nn φ → m < nn φ → G n = G m → eqv φ v n m) ∧ ∀ b, b < t → srt φ v b = true → G (ba φ b) = G (bz φ b)) (nb φ) (fun n t s ht q => by
    obtain ⟨p1, p2, G, p3, p4, p5⟩ := q
    have hc : CFr s 0 φ := CFr_56 h (fun c hc _ => p2 c (by omega))
    have ha := ba_lt w ht
    have hz := bz_lt w ht
    have hg := w.2.2.2.1 t ht
    have hb117 : ∀ s : ZS, f_X4_joinGroups_b117 N (fun x3_ σ_ => f_X4_joinGroups_h25 N (nt (v : Nat)) n x3_ σ_) (nt (v : Nat)) (nt (t : Nat)) s = f_X4_joinGroups_h25 N (nt (v : Nat)) n (nt ((t + 1 : Nat) : Int)) s := fun s => by
      rw [f_X4_joinGroups_b117, n_1, nt_add, bd_eq]; rfl
    rw [f_X4_joinGroups_h25, CFr_b hc, le_f (by omega) (by omega) (by omega), s_isVertical hc w ht, obd_some, s_srt hc w ht hv]
    by_cases e : srt φ v t = true
    · rw [if_pos e, ck_inb (by omega) (by omega) (by omega), nat_k (by omega), CFr_g hc ht, ck_inb (by omega) (by omega) (by omega), nat_nt (by omega) (by omega), bd_eq, ck_inb (by omega) (by omega) (by omega), CFr_f hc ht, ck_inb (by omega) (by omega) (by omega), nat_nt (by omega) (by omega), bd_eq]
      have gz1 : gI s 56 (φ.1 4 t).toNat = nt (G (bz φ t) : Nat) := (p3 _ hz).1
      have ga1 : gI s 56 (φ.1 3 t).toNat = nt (G (ba φ t) : Nat) := (p3 _ ha).1
      rw [gz1, ga1]
      obtain ⟨G2, hG2⟩ : ∃ G2 : Nat → Nat, G2 = fun n => if G n = G (bz φ t) then G (ba φ t) else G n := ⟨_, rfl⟩
      have k2 := lp_go (fun m k (s : ZS) => f_X4_joinGroups_h71 N (fun x3_ σ_ => f_X4_joinGroups_h25 N (nt (v : Nat)) n x3_ σ_) (nt (v : Nat)) (nt (t : Nat)) (nt (G (bz φ t) : Nat)) (nt (G (ba φ t) : Nat)) m (nt (k : Nat)) s) (fun k => wI s 56 k (fun n => nt (G2 n : Nat))) (nn φ) (fun m k hk => by
        have hc' : CFr (wI s 56 k (fun n => nt (G2 n : Nat))) 0 φ := CFr_56 hc (fun c hc _ => wI_o (by omega))
        have gk : gI (wI s 56 k (fun n => nt (G2 n : Nat))) 56 k = nt (G k : Nat) := by rw [gI_wI, if_neg (by omega)]; exact (p3 k hk).1
        have gk2 := (p3 k hk).2
        have gz2 := (p3 _ hz).2
        have hb110 : ∀ y : Nat, f_X4_joinGroups_b110 N (fun x6_ σ_ => f_X4_joinGroups_h71 N (fun x3_ σ_ => f_X4_joinGroups_h25 N (nt (v : Nat)) n x3_ σ_) (nt (v : Nat)) (nt (t : Nat)) (nt (G (bz φ t) : Nat)) (nt (G (ba φ t) : Nat)) m x6_ σ_) (nt (v : Nat)) (nt (t : Nat)) (nt (G (bz φ t) : Nat)) (nt (G (ba φ t) : Nat)) (nt (k : Nat)) (nt (k : Nat)) (nt (y : Nat)) (wI s 56 k (fun n => nt (G2 n : Nat))) = f_X4_joinGroups_h71 N (fun x3_ σ_ => f_X4_joinGroups_h25 N (nt (v : Nat)) n x3_ σ_) (nt (v : Nat)) (nt (t : Nat)) (nt (G (bz φ t) : Nat)) (nt (G (ba φ t) : Nat)) m (nt ((k + 1 : Nat) : Int)) (sI (wI s 56 k (fun n => nt (G2 n : Nat))) 56 k (nt (y : Nat))) := fun y => by
          rw [f_X4_joinGroups_b110, ck_inb (by omega) (by omega) (by omega), nat_k (by omega), bd_eq, n_1, nt_add, bd_eq]; rfl
        rw [f_X4_joinGroups_h71, CFr_n hc', le_f (by omega) (by omega) (by omega), ck_inb (by omega) (by omega) (by omega), nat_k (by omega), gk, ck_inb (by omega) (by omega) (by omega), hb110, hb110, ← wI_s s 56 k (fun n => nt (G2 n : Nat))]
        by_cases q : G k = G (bz φ t)
        · rw [eq_t (by omega), show G2 k = G (ba φ t) from by rw [hG2]; exact if_pos q]
        · rw [eq_f (by omega) (by omega) (by omega) (by omega) (by omega), show G2 k = G k from by rw [hG2]; exact if_neg q]) (nn φ) 0 N (by omega) (by omega)
      have k2 : f_X4_joinGroups_h71 N (fun x3_ σ_ => f_X4_joinGroups_h25 N (nt (v : Nat)) n x3_ σ_) (nt (v : Nat)) (nt (t : Nat)) (nt (G (bz φ t) : Nat)) (nt (G (ba φ t) : Nat)) N (0 : Int32) (wI s 56 0 (fun n => nt (G2 n : Nat))) = f_X4_joinGroups_h71 N (fun x3_ σ_ => f_X4_joinGroups_h25 N (nt (v : Nat)) n x3_ σ_) (nt (v : Nat)) (nt (t : Nat)) (nt (G (bz φ t) : Nat)) (nt (G (ba φ t) : Nat)) (N - nn φ) (nt (nn φ : Nat)) (wI s 56 (nn φ) (fun n => nt (G2 n : Nat))) := k2
      rw [wI_0] at k2
      have hc2 : CFr (wI s 56 (nn φ) (fun n => nt (G2 n : Nat))) 0 φ := CFr_56 hc (fun c hc _ => wI_o (by omega))
      refine ⟨wI s 56 (nn φ) (fun n => nt (G2 n : Nat)), ?_, p1, fun c hc => by rw [wI_o hc]; exact p2 c hc, G2, fun m hm => ⟨by rw [gI_wI, if_pos ⟨rfl, hm⟩], ?_⟩, fun m k hm hk q => ?_, fun b hb q => ?_⟩
      · rw [k2, en1, f_X4_joinGroups_h71, CFr_n hc2, le_t (by omega) (by omega) (by omega), hb117]
      · rw [hG2]; dsimp only; split
        · exact (p3 _ ha).2
        · exact (p3 m hm).2
      · have hab := eqv_bar ht e
        rw [hG2] at q; dsimp only at q
        by_cases q1 : G m = G (bz φ t)
        · rw [if_pos q1] at q
          have f1 := p4 m _ hm hz q1
          by_cases q2 : G k = G (bz φ t)
          · exact p4 m k hm hk (q1.trans q2.symm)
          · rw [if_neg q2] at q
            exact eqv_tr f1 (eqv_tr (eqv_sy hab) (p4 _ k ha hk q))
        · rw [if_neg q1] at q
          by_cases q2 : G k = G (bz φ t)
          · rw [if_pos q2] at q
            exact eqv_tr (p4 m _ hm ha q) (eqv_tr hab (eqv_sy (p4 k _ hk hz q2)))
          · rw [if_neg q2] at q
            exact p4 m k hm hk q
      · rw [hG2]; dsimp only
        by_cases q1 : b = t
        · subst q1
          rw [if_pos (show G (bz φ b) = G (bz φ b) from rfl)]
          split <;> rfl
        · rw [p5 b (by omega) q]
    · rw [if_neg e, hb117]
      refine ⟨s, rfl, p1, p2, G, p3, p4, fun b hb q => ?_⟩
      by_cases q1 : b = t
      · subst q1; exact absurd q e
      · exact p5 b (by omega) q) (nb φ) 0 N (wI σ 56 (nn φ) (fun n => nt (n : Nat))) (by omega) (by omega) ⟨rfl, fun c hc => wI_o hc, fun n => n, fun n hn => ⟨by rw [gI_wI, if_pos ⟨rfl, hn⟩], hn⟩, fun n m _ _ q => by subst q; exact eqv_rf φ v n, fun b hb => by omega⟩
  obtain ⟨p1, p2, G, p3, p4, p5⟩ := hI
  have hc : CFr s 0 φ := CFr_56 h (fun c hc _ => p2 c (by omega))
  obtain ⟨n2, en2⟩ : ∃ n, N - nb φ = n + 1 := ⟨N - nb φ - 1, by omega⟩
  have es : f_X4_joinGroups_h25 N (nt (v : Nat)) N (0 : Int32) (wI σ 56 (nn φ) (fun n => nt (n : Nat))) = f_X4_joinGroups_h25 N (nt (v : Nat)) (N - nb φ) (nt (nb φ : Nat)) s := es
  refine ⟨s, G, ?_, p3, fun n m hn hm => ⟨p4 n m hn hm, fun q => ?_⟩, p1, p2⟩
  · rw [k1, en1, f_X4_joinGroups_h2, CFr_n hc1, le_t (by omega) (by omega) (by omega), es, en2, f_X4_joinGroups_h25, CFr_b hc, le_t (by omega) (by omega) (by omega)]
  · exact q G (fun b hb hs => p5 b hb hs)
/-- whether a group is one that goes -/
theorem s_groupShifts (hN : 200 ≤ N) (h : CFr σ 0 φ) (w : WF φ) {v : Nat} (hv : v < 2) {G : Nat → Nat} (hG : ∀ n, n < nn φ → gI σ 56 n = nt (G n : Nat) ∧ G n < nn φ) {g : Nat} (hg : g < nn φ) : f_X4_groupShifts N (nt (g : Nat)) (nt (v : Nat)) σ = some (nt (if an (fun n => G n == g) (nn φ) = true ∧ an (fun n => G n == g && hkd φ n v) (nn φ) = false then 1 else 0), σ) := by
  have hw1 := w.1
  unfold f_X4_groupShifts
  have key : ∀ (j k n : Nat) (b : Bool), k + j = nn φ → j + 1 ≤ n → b = an (fun n => G n == g) k → an (fun n => G n == g && hkd φ n v) k = false → f_X4_groupShifts_h6 N (nt (g : Nat)) (nt (v : Nat)) n (nt (if b = true then 1 else 0)) (nt (k : Nat)) σ = some (nt (if an (fun n => G n == g) (nn φ) = true ∧ an (fun n => G n == g && hkd φ n v) (nn φ) = false then 1 else 0), σ) := by
    intro j
    induction j with
    | zero =>
      intro k n b hk hn hb hh
      obtain rfl : k = nn φ := by omega
      obtain ⟨n, rfl⟩ : ∃ m, n = m + 1 := ⟨n - 1, by omega⟩
      rw [f_X4_groupShifts_h6, CFr_n h, le_t (by omega) (by omega) (by omega), bb_p, hb]
      congr 3
      by_cases q : an (fun n => G n == g) (nn φ) = true
      · rw [if_pos q, if_pos ⟨q, hh⟩]
      · rw [if_neg q, if_neg (fun w => q w.1)]
    | succ j ih =>
      intro k n b hk hn hb hh
      obtain ⟨n, rfl⟩ : ∃ m, n = m + 1 := ⟨n - 1, by omega⟩
      have hgk := hG k (by omega)
      have hx := w.2.2.1 k (by omega)
      have hb41 : ∀ y, f_X4_groupShifts_b41 N (fun x4_ x5_ σ_ => f_X4_groupShifts_h6 N (nt (g : Nat)) (nt (v : Nat)) n x4_ x5_ σ_) (nt (g : Nat)) (nt (v : Nat)) y (nt (k : Nat)) σ = f_X4_groupShifts_h6 N (nt (g : Nat)) (nt (v : Nat)) n y (nt ((k + 1 : Nat) : Int)) σ := fun y => by
        rw [f_X4_groupShifts_b41, n_1, nt_add, bd_eq]; rfl
      rw [f_X4_groupShifts_h6, CFr_n h, le_f (by omega) (by omega) (by omega), ck_inb (by omega) (by omega) (by omega), nat_k (by omega), hgk.1, hb41, s_shifts h w (by omega) (x := (v : Nat)) (by omega), obd_some, br_p, hb41]
      by_cases e : G k = g
      · rw [eq_t (by omega)]
        have hsh : (φ.1 2 k = 0 ∨ φ.1 2 k = 3 ∧ ((v : Nat) : Int) = 0) ↔ hkd φ k v = false := by
          unfold hkd
          rcases (show v = 0 ∨ v = 1 by omega) with rfl | rfl
          · rw [if_pos rfl, decide_eq_false_iff_not]; omega
          · rw [if_neg (by omega), if_pos rfl, decide_eq_false_iff_not]; omega
        by_cases e2 : hkd φ k v = false
        · rw [if_pos (hsh.mpr e2)]
          have := ih (k + 1) n true (by omega) (by omega) ((an_s (s := fun n => G n == g)).mpr (Or.inr (by simpa using e))).symm (by
            cases q : an (fun n => G n == g && hkd φ n v) (k + 1) with
            | false => rfl
            | true =>
              rcases (an_s (s := fun n => G n == g && hkd φ n v)).mp q with q1 | q1
              · rw [hh] at q1; cases q1
              · rw [Bool.and_eq_true] at q1; rw [e2] at q1; cases q1.2)
          rw [if_pos rfl] at this
          exact this
        · rw [if_neg (fun q => e2 (hsh.mp q))]
          have e3 : hkd φ k v = true := by simpa using e2
          rw [if_neg (fun q => by
            have : an (fun n => G n == g && hkd φ n v) (nn φ) = true := an_iff.mpr ⟨k, by omega, by rw [Bool.and_eq_true]; exact ⟨by simpa using e, e3⟩⟩
            rw [this] at q; cases q.2)]
          rfl
      · rw [eq_f (by omega) (by omega) (by omega) (by omega) (by omega)]
        exact ih (k + 1) n b (by omega) (by omega) (by
          rw [hb, Bool.eq_iff_iff, an_s]
          constructor
          · exact Or.inl
          · rintro (q | q)
            · exact q
            · exact absurd (by simpa using q) e) (by
          cases q : an (fun n => G n == g && hkd φ n v) (k + 1) with
          | false => rfl
          | true =>
            rcases (an_s (s := fun n => G n == g && hkd φ n v)).mp q with q1 | q1
            · rw [hh] at q1; cases q1
            · rw [Bool.and_eq_true] at q1; exact absurd (by simpa using q1.1) e)
  have := key (nn φ) 0 N false (by omega) (by omega) rfl rfl
  rw [if_neg (by decide)] at this
  exact this
end
