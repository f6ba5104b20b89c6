-- ===== the class weighs all =====
theorem sJ_sJ (σ : ZS) (c k : Nat) (x y : Int64) : sJ (sJ σ c k x) c k y = sJ σ c k y := by
  unfold sJ
  congr 1
  funext a j
  by_cases h1 : a = c
  · subst h1
    by_cases h2 : j = k
    · subst h2; simp [vp_updL]
    · simp [vp_updL, h2]
  · simp [h1]
theorem sJ_o {σ : ZS} {c d k : Nat} {x : Int64} (h : d ≠ c) : (sJ σ c k x).2 d = σ.2 d := by unfold sJ; simp [h]
section
variable {N : Nat} {φ : FR} {pi : Nat → Nat}
theorem CW_o {σ τ : ZS} {k s : Nat} {q : Nat → Rat} {r : Nat → Int} {St : Int} {W : Nat → Int} (h : CW φ pi σ k s q r St W) (h1 : τ.2 (143 + k) = σ.2 (143 + k)) (h2 : ∀ c, c < 4 → gJ τ (61 + c) k = gJ σ (61 + c) k) : CW φ pi τ k s q r St W := by
  obtain ⟨a1, a2, a3, a4, a5, ⟨a6, a7⟩, a8⟩ := h
  refine ⟨Row_o a1 h1, a2, a3, a4, a5, ⟨by rw [h2 0 (by omega)]; exact a6, a7⟩, fun c hc => ?_⟩
  obtain ⟨b1, b2⟩ := a8 c hc
  have := h2 (c + 1) (by omega)
  rw [show 61 + (c + 1) = 62 + c by omega] at this
  exact ⟨by rw [this]; exact b1, b2⟩
theorem s_weigh (w : WF φ) (hN : 1200 ≤ N) {σ : ZS} (hc : CFr σ 0 φ) {L : List Nat} (hM : CMe φ pi σ L) (hS : CSh φ σ pi) (h5 : gI σ 5 5 = nt ((2 * nb φ : Nat) : Int)) : ∃ τ, f_X0_weigh N σ = some ((), τ) ∧ CBl φ pi τ L ∧ (∀ c, c ≠ 7 → c ≠ 60 → τ.1 c = σ.1 c) ∧ (∀ c, ¬ (61 ≤ c ∧ c < 65) → τ.2 c = σ.2 c) := by
  have hw1 := w.1
  have hw2 := w.2.1
  have hL := hM.2.2.1
  unfold f_X0_weigh
  have k6 : ∀ (x : Option (Unit × ZS)), ck (cpg (0 : Int32) (0 : Int32) (6 : Int32) (ln 25) (ln 60)) x = x := fun x => ck_of (by decide) x
  rw [CFr_b hc, bd_eq, bd_eq, ck_tg (show tg 25 = 1 by decide), ck_tg (show tg 60 = 1 by decide), k6, bd_eq, show ((0 : Int32).toNatClampNeg) = 0 from rfl, show ((6 : Int32).toNatClampNeg) = 6 from rfl]
  obtain ⟨s0, hs0⟩ : ∃ s0, s0 = cpI (sI σ 7 2 (nt (nb φ : Nat))) 25 60 0 0 6 := ⟨_, rfl⟩
  rw [← hs0]
  have o1 : ∀ c, c ≠ 7 → c ≠ 60 → s0.1 c = σ.1 c := fun c c1 c2 => by
    rw [hs0]
    show (if c = 60 then _ else (sI σ 7 2 (nt (nb φ : Nat))).1 c) = _
    rw [if_neg c2, sI_o c1]
  have o2 : s0.2 = σ.2 := by rw [hs0]; rfl
  have g72 : gI s0 7 2 = nt ((nb φ : Nat) : Int) := by rw [hs0, gI_cpI, if_neg (by omega), gI_sI_at]
  have g60 : ∀ b, b < nb φ → gI s0 60 b = nt (φ.1 5 b) := fun b hb => by
    rw [hs0, gI_cpI, if_pos rfl, if_pos (by omega), show 0 + (b - 0) = b by omega, gI_sI_c (by omega)]
    exact CFr_s hc hb
  have hcf : ∀ s : ZS, s.1 = s0.1 → CFr s 0 φ := fun s hs => CFr_same hc (by rw [hs]; exact o1 _ (by omega) (by omega)) (fun f hf => by rw [hs]; exact o1 _ (by have := @cl_ge 0 f; omega) (by have := @cl_lt 0 f (by omega) hf; omega))
  have hsh : ∀ s : ZS, s.1 = s0.1 → CSh φ s pi := fun s hs => ⟨hS.1, fun v n hv hn => by
    have e : gI s (57 + v) n = gI σ (57 + v) n := by unfold gI; rw [hs, o1 _ (by omega) (by omega)]
    rw [e]; exact hS.2 v n hv hn⟩
  obtain ⟨s, es, hI⟩ := lp_inv (fun n k s => f_X0_weigh_h25 N n (nt (k : Nat)) s) (fun t s => s.1 = s0.1 ∧ (∀ c, ¬ (61 ≤ c ∧ c < 65) → s.2 c = s0.2 c) ∧ ∀ k x, k < t → L[k]? = some x → ∃ q r St W, CW φ pi s k x q r St W) L.length (fun n t s ht q => by
    obtain ⟨p1, p2, p3⟩ := q
    have ht : t < L.length := ht
    have g63 : ∀ s' : ZS, s'.1 = s0.1 → gI s' 6 3 = nt ((L.length : Nat) : Int) := fun s' hs => by unfold gI; rw [hs, o1 6 (by omega) (by omega)]; exact hM.2.2.2.1
    have gbs : ∀ s' : ZS, s'.1 = s0.1 → gI s' 7 2 = nt ((nb φ : Nat) : Int) := fun s' hs => by unfold gI; rw [hs]; exact g72
    obtain ⟨x, hx⟩ : ∃ x, L[t]? = some x := ⟨L[t], List.getElem?_eq_getElem ht⟩
    obtain ⟨_, r, hr1, hr2⟩ := hM.2.2.2.2 t x hx
    obtain ⟨q, hq1, hq2, hq3⟩ := MotR_Q w hS.1 hr2
    have hrb : ∀ k, k < wd φ → (r k).natAbs ≤ 6291456 := hr2.2.2.2.1
    have hrow : ∀ s' : ZS, (∀ c, ¬ (61 ≤ c ∧ c < 65) → s'.2 c = s0.2 c) → Row s' (143 + t) (wd φ) r := fun s' hs => Row_o hr1 (by rw [hs _ (by omega), o2])
    obtain ⟨B, hB⟩ : ∃ B : Nat → Int, B = fun b => φ.1 5 b * (((r (2 * b)).natAbs : Int) + ((r (2 * b + 1)).natAbs : Int)) := ⟨_, rfl⟩
    have hBb : ∀ b, b ≤ nb φ → 0 ≤ sZ b B ∧ sZ b B ≤ 150994944 * b := by
      intro b
      induction b with
      | zero => intro _; exact ⟨Int.le_refl _, Int.le_refl _⟩
      | succ b ih =>
        intro hb
        obtain ⟨i1, i2⟩ := ih (by omega)
        have h5 := (w.2.2.2.1 b (by omega)).2.2.2.2
        have h1 := hrb (2 * b) (by unfold wd; omega)
        have h2 := hrb (2 * b + 1) (by unfold wd; omega)
        have h3 : B b = φ.1 5 b * (((r (2 * b)).natAbs : Int) + ((r (2 * b + 1)).natAbs : Int)) := by rw [hB]
        have h4 : 0 ≤ B b := by rw [h3]; exact Int.mul_nonneg (by omega) (by omega)
        have h6 : B b ≤ 12 * 12582912 := by rw [h3]; exact Int.mul_le_mul (by omega) (by omega) (by omega) (by omega)
        rw [sZ_s]; omega
    -- strains
    have k1 := lp_go (fun m b (s' : ZS) => f_X0_weigh_h45 N (fun x2_ σ_ => f_X0_weigh_h25 N n x2_ σ_) (nt (t : Nat)) m (nt (b : Nat)) s') (fun b => sJ s 61 t (jl (sZ b B))) (nb φ) (fun m b hb => by
      have h5 := (w.2.2.2.1 b hb).2.2.2.2
      have gs : gI (sJ s 61 t (jl (sZ b B))) 60 b = nt (φ.1 5 b) := by rw [gI_sJ]; unfold gI; rw [p1]; exact g60 b hb
      have hr : Row (sJ s 61 t (jl (sZ b B))) (143 + t) (wd φ) r := hrow _ (fun c hc => by rw [sJ_o (by omega)]; exact p2 c hc)
      rw [f_X0_weigh_h45, gbs (sJ s 61 t (jl (sZ b B))) p1, le_f (by omega) (by omega) (by omega), ck_inb (by omega) (by omega) (by omega), ck_inb (by omega) (by omega) (by omega), s_bend w (by omega) hb hr hrb, obd_some, nat_k (by omega), nat_k (by omega), gJ_sJ_at, gs, long_nt (by omega) (by omega), jl_mul, jl_add, bd_eq, ck_inb (by omega) (by omega) (by omega), bd_eq, sJ_sJ, n_1, nt_add, bd_eq]
      have : sZ b B + φ.1 5 b * (((r (2 * b)).natAbs : Int) + ((r (2 * b + 1)).natAbs : Int)) = sZ (b + 1) B := by rw [sZ_s, hB]
      rw [this]
      rfl) (nb φ) 0 N (by omega) (by omega)
    have k1 : f_X0_weigh_h45 N (fun x2_ σ_ => f_X0_weigh_h25 N n x2_ σ_) (nt (t : Nat)) N (0 : Int32) (sJ s 61 t (0 : Int64)) = f_X0_weigh_h45 N (fun x2_ σ_ => f_X0_weigh_h25 N n x2_ σ_) (nt (t : Nat)) (N - nb φ) (nt (nb φ : Nat)) (sJ s 61 t (jl (sZ (nb φ) B))) := k1
    obtain ⟨m1, em1⟩ : ∃ m, N - nb φ = m + 1 := ⟨N - nb φ - 1, by omega⟩
    obtain ⟨s1, hs1⟩ : ∃ s1, s1 = sJ s 61 t (jl (sZ (nb φ) B)) := ⟨_, rfl⟩
    rw [← hs1] at k1
    have s11 : s1.1 = s0.1 := by rw [hs1]; exact p1
    -- works
    obtain ⟨s2, es2, hI2⟩ := lp_inv (fun m c s' => f_X0_weigh_h87 N (fun x2_ σ_ => f_X0_weigh_h25 N n x2_ σ_) (nt (t : Nat)) m (nt (c : Nat)) s') (fun c s' => s'.1 = s0.1 ∧ (∀ d, ¬ (62 ≤ d ∧ d < 65) → s'.2 d = s1.2 d) ∧ (∀ d k, k ≠ t → gJ s' d k = gJ s1 d k) ∧ ∃ W : Nat → Int, ∀ c', c' < c → gJ s' (62 + c') t = jl (W c') ∧ (W c' : Rat) = dq (dd φ) (pq φ c') q ∧ (W c').natAbs ≤ 440401920) 3 (fun m c s' hc3 q' => by
      obtain ⟨u1, u2, u3, W, u4⟩ := q'
      have hc3 : c < 3 := hc3
      have hr : Row s' (143 + t) (wd φ) r := hrow s' (fun d hd => by rw [u2 d (by omega), hs1, sJ_o (by omega)]; exact p2 d hd)
      have h55 : gI s' 5 5 = nt ((2 * nb φ : Nat) : Int) := by unfold gI; rw [u1, o1 5 (by omega) (by omega)]; exact h5
      obtain ⟨Wc, e1, e2, e3⟩ := s_workOf w (N := N) (by omega) (hcf s' u1) (k := t) (c := c) (by omega) hc3 hr hrb hq3 (hsh s' u1) h55
      refine ⟨sJ s' (62 + c) t (jl Wc), ?_, u1, fun d hd => by rw [sJ_o (by omega)]; exact u2 d hd, fun d k hk => by rw [gJ_sJ_k hk]; exact u3 d k hk, fun c' => if c' = c then Wc else W c', fun c' hc' => ?_⟩
      · rw [f_X0_weigh_h87, n_3, le_f (by omega) (by omega) (by omega), ck_inb (by omega) (by omega) (by omega), e1, obd_some, nat_k (by omega), ck_tg (tg_work hc3), ln_work hc3, ck_inb (by omega) (by omega) (by omega), nat_k (by omega), bd_eq, n_1, nt_add, bd_eq]
        rfl
      · dsimp only
        by_cases a : c' = c
        · subst a; rw [if_pos rfl]; exact ⟨gJ_sJ_at .., e2, e3⟩
        · rw [if_neg a, gJ_sJ_c (by omega)]; exact u4 c' (by omega)) 3 0 N s1 (by omega) (by omega) ⟨s11, fun _ _ => rfl, fun _ _ _ => rfl, fun _ => 0, fun c' hc' => by omega⟩
    obtain ⟨u1, u2, u3, W, u4⟩ := hI2
    have es2 : f_X0_weigh_h87 N (fun x2_ σ_ => f_X0_weigh_h25 N n x2_ σ_) (nt (t : Nat)) N (0 : Int32) s1 = f_X0_weigh_h87 N (fun x2_ σ_ => f_X0_weigh_h25 N n x2_ σ_) (nt (t : Nat)) (N - 3) (nt 3) s2 := es2
    obtain ⟨m2, em2⟩ : ∃ m, N - 3 = m + 1 := ⟨N - 3 - 1, by omega⟩
    refine ⟨s2, ?_, u1, fun c hc => by rw [u2 c (by omega), hs1, sJ_o (by omega)]; exact p2 c hc, fun k y hk hy => ?_⟩
    · rw [f_X0_weigh_h25, g63 s p1, le_f (by omega) (by omega) (by omega), ck_inb (by omega) (by omega) (by omega), nat_k (by omega), bd_eq, k1, em1, f_X0_weigh_h45, gbs s1 s11, le_t (by omega) (by omega) (by omega), es2, em2, f_X0_weigh_h87, n_3, le_t (by omega) (by omega) (by omega), n_1, nt_add, bd_eq]
      rfl
    · by_cases a : k = t
      · subst a
        rw [hx] at hy; cases hy
        have hst := stn_r w hq3
        refine ⟨q, r, sZ (nb φ) B, W, hrow s2 (fun d hd => by rw [u2 d (by omega), hs1, sJ_o (by omega)]; exact p2 d hd), hr2, hq1, hq2, hq3, ⟨?_, ?_, ?_, ?_⟩, u4⟩
        · have : gJ s2 61 k = gJ s1 61 k := by unfold gJ; rw [u2 61 (by omega)]
          rw [this, hs1, gJ_sJ_at]
        · rw [hst, hB]
        · exact (hBb (nb φ) (Nat.le_refl _)).1
        · have := (hBb (nb φ) (Nat.le_refl _)).2; omega
      · obtain ⟨q', r', St', W', h'⟩ := p3 k y (by omega) hy
        refine ⟨q', r', St', W', CW_o h' ?_ (fun c hc => ?_)⟩
        · rw [u2 _ (by omega), hs1, sJ_o (by omega)]
        · rw [u3 _ _ a, hs1, gJ_sJ_k a]) L.length 0 N s0 (by omega) (by omega) ⟨rfl, fun _ _ => rfl, fun k x hk => by omega⟩
  obtain ⟨p1, p2, p3⟩ := hI
  have es : f_X0_weigh_h25 N N (0 : Int32) s0 = f_X0_weigh_h25 N (N - L.length) (nt (L.length : Nat)) s := es
  obtain ⟨n, en⟩ : ∃ n, N - L.length = n + 1 := ⟨N - L.length - 1, by omega⟩
  have g63 : gI s 6 3 = nt ((L.length : Nat) : Int) := by unfold gI; rw [p1, o1 6 (by omega) (by omega)]; exact hM.2.2.2.1
  refine ⟨s, ?_, ⟨?_, fun b hb => ?_, fun k x hx => p3 k x (by
    have := List.getElem?_eq_some_iff.mp hx
    exact this.1) hx⟩, fun c c1 c2 => by rw [p1]; exact o1 c c1 c2, fun c hc => by rw [p2 c hc, o2]⟩
  · rw [es, en, f_X0_weigh_h25, g63, le_t (by omega) (by omega) (by omega)]
  · unfold gI; rw [p1]; exact g72
  · unfold gI; rw [p1]; exact g60 b hb
end
