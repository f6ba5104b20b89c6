-- ===== the search itself =====
theorem lt_bits : ∀ (i x y : Nat), (∀ j, i < j → x.testBit j = y.testBit j) → x.testBit i = false → y.testBit i = true → x < y := by
  intro i
  induction i with
  | zero =>
    intro x y h hx hy
    have h1 : x / 2 = y / 2 := Nat.eq_of_testBit_eq (fun j => by
      rw [← Nat.testBit_add_one, ← Nat.testBit_add_one]; exact h (j + 1) (by omega))
    rw [Nat.testBit_zero] at hx hy
    simp at hx hy
    omega
  | succ i ih =>
    intro x y h hx hy
    rw [Nat.testBit_add_one] at hx hy
    have := ih (x / 2) (y / 2) (fun j hj => by rw [← Nat.testBit_add_one, ← Nat.testBit_add_one]; exact h (j + 1) (by omega)) hx hy
    omega
theorem bit_hi {φ : FR} (w : WF φ) {s e : Nat} (h : IsM φ s) (he : 2 * nb φ ≤ e) : s.testBit e = false := by
  obtain ⟨q, _, rfl⟩ := h
  exact Nat.testBit_lt_two_pow (Nat.lt_of_lt_of_le (mq_lt φ q) (Nat.pow_le_pow_right (by omega) he))
section
variable {N : Nat} {φ : FR} {pi : Nat → Nat}
theorem SR_o {σ τ : ZS} {a m : Nat} {Y jd : Nat → Nat} (h : SR φ pi σ a m Y jd) (e : ∀ c, c < 65 + (a + m) → τ.2 c = σ.2 c) : SR φ pi τ a m Y jd := ⟨h.1, h.2.1, h.2.2.1, fun i hi => RI_o (h.2.2.2 i hi) (e _ (by omega))⟩
theorem s_search1 (w : WF φ) (hN : 200 ≤ N) (hpi : ∀ g, g < ds φ → pi g < ds φ) {σ : ZS} {e0 a T f0 : Nat} {Y jd : Nat → Nat} (ha : a < 78) (hS : SR φ pi σ a 1 Y jd) (hV : SV φ 1 e0 T Y jd) (hC : SC φ σ f0) (hf : f0 < 924) : ∃ τ L, f_X3_keep N (65 + a) σ = some ((), τ) ∧ SO φ pi σ τ a 1 e0 T f0 L := by
  have hw2 := w.2.1
  obtain ⟨V, hV0⟩ := SR_rows w hpi hS
  obtain ⟨r1, r2, r3, r4, r5⟩ := hV0 0 (by omega)
  obtain ⟨hEl, hEm⟩ := em_one w hS hV
  have hj := hS.2.2.1 0 (by omega)
  obtain ⟨x, hx⟩ : ∃ x, x = xv φ Y (jd 0) := ⟨_, rfl⟩
  rw [← hx] at hEl hEm r3 r4
  obtain ⟨r, hr⟩ : ∃ r, r = V 0 := ⟨_, rfl⟩
  rw [← hr] at r1 r2 r3 r4 r5
  have hS1 : mkd (fun e => decide (r e ≠ 0)) 0 (2 * nb φ) = mq φ (fun j => (x j : Rat)) := mkd_congr _ _ (fun e _ he => by
    unfold sup
    have h1 := r3 e (by omega)
    have h2 := tw_q0 φ e x
    by_cases q : r e = 0
    · rw [decide_eq_false (fun w => w q), decide_eq_false (fun w => w (h2.mpr (h1.mp q)))]
    · rw [decide_eq_true q, decide_eq_true (show dq (dd φ) (Rq φ e) (fun j => (x j : Rat)) ≠ 0 from fun w => q (h1.mpr (h2.mp w)))])
  obtain ⟨S, hS2⟩ : ∃ S, S = mq φ (fun j => (x j : Rat)) := ⟨_, rfl⟩
  have hbit : ∀ e, e < 2 * nb φ → (S.testBit e = true ↔ r e ≠ 0) := fun e he => by
    rw [hS2, mq_bit φ _ he]
    constructor
    · intro h q; exact h ((tw_q0 φ e x).mpr ((r3 e he).mp q))
    · intro h q; exact h ((r3 e he).mpr ((tw_q0 φ e x).mp q))
  have hS4 : S < 4096 := by
    have h1 := mq_lt φ (fun j => (x j : Rat))
    have h2 : (2 : Nat) ^ (2 * nb φ) ≤ 2 ^ 12 := Nat.pow_le_pow_right (by omega) (by omega)
    have h3 : (2 : Nat) ^ 12 = 4096 := by decide
    omega
  have hS0 : S ≠ 0 := fun q => by
    obtain ⟨⟨e, he, hne⟩, _⟩ := hEl
    have := (mq_bit φ (fun j => (x j : Rat)) he).mpr hne
    rw [← hS2, q, Nat.zero_testBit] at this
    cases this
  obtain ⟨l1, l2, l3⟩ := lwb_ok hS0 hS4
  have hln : lwb S < 2 * nb φ := by
    apply Classical.byContradiction
    intro q
    have := bit_hi w ⟨_, hEl, hS2⟩ (show 2 * nb φ ≤ lwb S by omega)
    rw [this] at l2; cases l2
  have hlr := (hbit _ hln).mp l2
  have hrow : Row σ (65 + a) (wd φ) r := r1
  obtain ⟨τ, k1, k2, k3, k4, k5, k6, k7, k8⟩ := s_keep w hN ha hf hrow (fun k hk => by have := r2 k hk; constructor <;> omega) hC.2.2 hC.1 hC.2.1
  rw [hS1, ← hS2] at k2 k4
  have hgz : gz (wd φ) r = 1 := by
    rcases r5 with h | h
    · exact h
    · exact absurd (h _ (by unfold wd; omega)) hlr
  refine ⟨τ, [S], k1, List.pairwise_singleton _ _, fun s => ?_, ?_, ⟨?_, ?_, ?_⟩, fun k s hk => ?_, fun k hk => k6 k (by omega), k7, fun c c1 c2 => k5 c c1 c2, fun c hc => k8 c (by omega)⟩
  · rw [List.mem_singleton, hEm, hS2]
  · show 1 ≤ Cb e0 0
    rw [Cb_0]; omega
  · unfold gI; rw [k5 5 (by omega) (by omega)]; exact hC.1
  · unfold gI; rw [k5 5 (by omega) (by omega)]; exact hC.2.1
  · exact k3
  · cases k with
    | succ k => simp at hk
    | zero =>
      have hk : S = s := by simpa using hk
      subst hk
      refine ⟨k2, _, k4, ?_, fun e he => ?_, ⟨hln, ?_⟩, fun k hk => ?_, x, hEl, hS2, ?_⟩
      · by_cases q : lwb S < 2 * nb φ ∧ r (lwb S) < 0
        · have : gz (wd φ) (fun k => (-1) * r k) = 1 := by rw [gz_mul, hgz]; rfl
          rw [gz_congr (w := fun k => (-1) * r k) (fun k _ => by rw [if_pos q]; omega)]
          exact this
        · rw [gz_congr (w := r) (fun k _ => by rw [if_neg q])]; exact hgz
      · rw [hbit e he]
        dsimp only
        split <;> omega
      · dsimp only
        split <;> omega
      · have := r2 k hk
        dsimp only
        split <;> omega
      · obtain ⟨y, z, y0, z0, h⟩ := r4
        by_cases q : lwb S < 2 * nb φ ∧ r (lwb S) < 0
        · exact ⟨-y, z, by omega, z0, fun k hk => by dsimp only; rw [if_pos q, ← h k hk]; grind⟩
        · exact ⟨y, z, y0, z0, fun k hk => by dsimp only; rw [if_neg q]; exact h k hk⟩
theorem s_search (w : WF φ) (hN : 200 ≤ N) (hpi : ∀ g, g < ds φ → pi g < ds φ) : ∀ (e0 dp : Nat) (σ : ZS) (a m T f0 : Nat) (Y jd : Nat → Nat), e0 < dp → 1 ≤ m → e0 ≤ 2 * nb φ → 2 * a + m * (m + 1) ≤ 156 → m ≤ 12 → SR φ pi σ a m Y jd → SV φ m e0 T Y jd → SC φ σ f0 → f0 + Cb e0 (m - 1) ≤ 924 → ∃ τ L, f_X3_search N dp (nt ((e0 : Nat) - 1)) (nt (a : Nat)) (nt (m : Nat)) (nt (T : Nat)) σ = some ((), τ) ∧ SO φ pi σ τ a m e0 T f0 L := by
  have hw2 := w.2.1
  have hpid : ∀ g, g < ds φ → pi g < dd φ := fun g hg => by have := hpi g hg; have := ds_le (φ := φ); omega
  -- nothing is left to find
  have hbig : ∀ (e0 dp : Nat) (σ : ZS) (a m T f0 : Nat) (Y jd : Nat → Nat), e0 < dp → e0 ≤ 12 → m ≤ 12 → e0 + 1 < m → SR φ pi σ a m Y jd → SV φ m e0 T Y jd → SC φ σ f0 → ∃ τ L, f_X3_search N dp (nt ((e0 : Nat) - 1)) (nt (a : Nat)) (nt (m : Nat)) (nt (T : Nat)) σ = some ((), τ) ∧ SO φ pi σ τ a m e0 T f0 L := by
    intro e0 dp σ a m T f0 Y jd hd he hm hbg hS hV hC
    obtain ⟨dp, rfl⟩ : ∃ k, dp = k + 1 := ⟨dp - 1, by omega⟩
    refine ⟨σ, [], ?_, List.Pairwise.nil, fun s => ⟨fun h => absurd h (List.not_mem_nil), fun h => absurd h (em_none w hS hV hbg s)⟩, Nat.zero_le _, hC, fun k s hk => by simp at hk, fun _ _ => rfl, fun _ _ => rfl, fun _ _ _ => rfl, fun _ _ => rfl⟩
    show f_X3_search_body N (f_X3_search N dp) _ _ _ _ σ = _
    unfold f_X3_search_body
    rw [n_1, n_2, nt_add, lt_t (by omega) (by omega) (by omega)]
  have hone : ∀ (e0 dp : Nat) (σ : ZS) (a T f0 : Nat) (Y jd : Nat → Nat), e0 < dp → e0 ≤ 12 → a < 78 → SR φ pi σ a 1 Y jd → SV φ 1 e0 T Y jd → SC φ σ f0 → f0 < 924 → ∃ τ L, f_X3_search N dp (nt ((e0 : Nat) - 1)) (nt (a : Nat)) (nt ((1 : Nat) : Int)) (nt (T : Nat)) σ = some ((), τ) ∧ SO φ pi σ τ a 1 e0 T f0 L := by
    intro e0 dp σ a T f0 Y jd hd he ha hS hV hC hf
    obtain ⟨dp, rfl⟩ : ∃ k, dp = k + 1 := ⟨dp - 1, by omega⟩
    obtain ⟨τ, L, h1, h2⟩ := s_search1 w hN hpi ha hS hV hC hf
    refine ⟨τ, L, ?_, h2⟩
    show f_X3_search_body N (f_X3_search N dp) _ _ _ _ σ = _
    unfold f_X3_search_body
    rw [n_1, n_2, nt_add, lt_f (by omega) (by omega) (by omega), lt_f (by omega) (by omega) (by omega), nt_mul, nt_add, nt_sub, show (78 : Int32) = nt 78 from rfl, le_t (by omega) (by omega) (by omega), eq_t (by rfl), ck_inb (by omega) (by omega) (by omega), nat_k (by omega), h1, obd_some]
  intro e0
  induction e0 with
  | zero =>
    intro dp σ a m T f0 Y jd hd h1 he ha hm hS hV hC hf
    by_cases q : m = 1
    · subst q
      rw [Cb_0] at hf
      exact hone 0 dp σ a T f0 Y jd hd (by omega) (by omega) hS hV hC (by omega)
    · exact hbig 0 dp σ a m T f0 Y jd hd (by omega) hm (by omega) hS hV hC
  | succ E ih =>
    intro dp σ a m T f0 Y jd hd h1 he ha hm hS hV hC hf
    by_cases q1 : m = 1
    · subst q1
      rw [Cb_0] at hf
      exact hone (E + 1) dp σ a T f0 Y jd hd (by omega) (by omega) hS hV hC (by omega)
    by_cases q2 : E + 1 + 1 < m
    · exact hbig (E + 1) dp σ a m T f0 Y jd hd (by omega) hm q2 hS hV hC
    obtain ⟨dp, rfl⟩ : ∃ k, dp = k + 1 := ⟨dp - 1, by omega⟩
    obtain ⟨M, rfl⟩ : ∃ M, m = M + 2 := ⟨m - 2, by omega⟩
    have hsz : (M + 2) * (M + 2 + 1) = M * (M + 1) + 4 * M + 6 := by grind
    have hsz2 : (M + 1) * (M + 1 + 1) = M * (M + 1) + 2 * M + 2 := by grind
    show ∃ τ L, f_X3_search_body N (f_X3_search N dp) (nt ((E + 1 : Nat) - 1)) (nt (a : Nat)) (nt ((M + 2 : Nat) : Int)) (nt (T : Nat)) σ = some ((), τ) ∧ SO φ pi σ τ a (M + 2) (E + 1) T f0 L
    rw [show ((E + 1 : Nat) : Int) - 1 = (E : Nat) by omega]
    obtain ⟨V, hVr⟩ := SR_rows w hpi hS
    have hEw : E < wd φ := by unfold wd; omega
    have hTE : T.testBit E = false := by
      cases q : T.testBit E with
      | false => rfl
      | true => have := (hV.2.1 E q).1; omega
    have hcb : Cb (E + 1) (M + 2 - 1) = Cb E M + Cb E (M + 1) := Cb_s E M
    have hbody : f_X3_search_body N (f_X3_search N dp) (nt (E : Nat)) (nt (a : Nat)) (nt ((M + 2 : Nat) : Int)) (nt (T : Nat)) σ = obd (f_X4_rowWith N (nt (E : Nat)) (nt (a : Nat)) (nt ((M + 2 : Nat) : Int)) σ) fun v5 σ6 => (if 0 ≤ v5 then bd (nt (a : Nat) + nt ((M + 2 : Nat) : Int)) fun v8 => f_X3_search_h81 N (f_X3_search N dp) (nt (E : Nat)) (nt (a : Nat)) (nt ((M + 2 : Nat) : Int)) (nt (T : Nat)) v5 N v8 (nt (a : Nat)) σ6 else obd (f_X3_search N dp (nt (E : Nat) - (1 : Int32)) (nt (a : Nat)) (nt ((M + 2 : Nat) : Int)) (nt (T : Nat)) σ6) fun _ σ26 => some ((), σ26)) := by
      unfold f_X3_search_body
      rw [n_1, n_2, nt_add, lt_f (by omega) (by omega) (by omega), lt_f (by omega) (by omega) (by omega), nt_mul, nt_add, nt_sub, show (78 : Int32) = nt 78 from rfl, le_t (by omega) (by omega) (by omega), eq_f (by omega) (by omega) (by omega) (by omega) (by omega)]
    rw [hbody]
    rcases s_rowWith (σ := σ) hN (e := E) (a := a) (m := M + 2) hEw (wd_le w) (by omega) (fun i hi => (hVr i hi).1) (fun i hi => by have := (hVr i hi).2.1 E hEw; constructor <;> omega) with ⟨p, hp, hne, _, hrw⟩ | ⟨hz, hrw⟩
    rotate_left
    · -- no row twists at this end
      rw [hrw, obd_some, n_0, le_f (by omega) (by omega) (by omega), n_1, nt_sub]
      have hz2 : ∀ i, i < M + 2 → tw φ E (xv φ Y (jd i)) = 0 := fun i hi => ((hVr i hi).2.2.1 E (by omega)).mp (hz i hi)
      have hV2 : SV φ (M + 2) E T Y jd := by
        refine ⟨fun q => ⟨fun h e he1 he2 ht => ?_, fun h => (hV.1 q).mpr (fun e he1 he2 ht => h e (by omega) he2 ht)⟩, fun e ht => ?_, hV.2.2⟩
        · by_cases q3 : e = E
          · subst q3; exact inV_z w hS.1 hz2 h
          · exact (hV.1 q).mp h e (by omega) he2 ht
        · obtain ⟨b1, b2, b3⟩ := hV.2.1 e ht
          exact ⟨by omega, b2, b3⟩
      obtain ⟨τ, L, r1, r2⟩ := ih dp σ a (M + 2) T f0 Y jd (by omega) (by omega) (by omega) ha hm hS hV2 hC (by rw [hcb] at hf; show f0 + Cb E (M + 1) ≤ 924; omega)
      refine ⟨τ, L, by rw [r1, obd_some], r2.1, fun s => ?_, ?_, r2.2.2.2⟩
      · rw [r2.2.1]
        refine ⟨fun h => ⟨h.1, fun e h1 h2 => h.2 e (by omega) h2⟩, fun h => ⟨h.1, fun e h1 h2 => ?_⟩⟩
        by_cases q3 : e = E
        · subst q3
          rw [hTE]
          obtain ⟨⟨q, hq, rfl⟩, hb⟩ := h
          have := inV_z w hS.1 hz2 (em_inV hV hb)
          cases q4 : (mq φ q).testBit e with
          | false => rfl
          | true => exact absurd this ((mq_bit φ q h2).mp q4)
        · exact h.2 e (by omega) h2
      · have := r2.2.2.1
        rw [hcb]; have h2 : M + 2 - 1 = M + 1 := by omega
        rw [h2] at this; omega
    -- a pivot
    rw [hrw, obd_some, n_0, le_t (by omega) (by omega) (by omega), nt_add, bd_eq]
    have hP : tw φ E (xv φ Y (jd p)) ≠ 0 := fun q => hne (((hVr p hp).2.2.1 E (by omega)).mpr q)
    have hjp := hS.2.2.1 p hp
    obtain ⟨Y', hY'⟩ : ∃ Y', Y' = upN Y (jd p) E := ⟨_, rfl⟩
    obtain ⟨jd', hjd'⟩ : ∃ jd' : Nat → Nat, jd' = fun i => jd (sk p i) := ⟨_, rfl⟩
    have hYo : ∀ i, i < dd φ → okc φ (dd φ) (Y i) := fun i hi => Or.inl (hS.1.1 i hi)
    have hAE : AE φ Y' := by
      refine ⟨fun l hl => ?_, by rw [hY', D_up w Y hjp (by omega)]; exact hP⟩
      rw [hY']; unfold upN
      split
      · omega
      · exact hS.1.1 l hl
    have hb137 : ∀ (n : Nat) (x : Int) (k : Nat) (s : ZS), f_X3_search_b137 N (f_X3_search N dp) (fun x6_ x7_ σ_ => f_X3_search_h81 N (f_X3_search N dp) (nt (E : Nat)) (nt (a : Nat)) (nt ((M + 2 : Nat) : Int)) (nt (T : Nat)) (nt ((a + p : Nat) : Int)) n x6_ x7_ σ_) (nt (E : Nat)) (nt (a : Nat)) (nt ((M + 2 : Nat) : Int)) (nt (T : Nat)) (nt ((a + p : Nat) : Int)) (nt x) (nt ((a + k : Nat) : Int)) s = f_X3_search_h81 N (f_X3_search N dp) (nt (E : Nat)) (nt (a : Nat)) (nt ((M + 2 : Nat) : Int)) (nt (T : Nat)) (nt ((a + p : Nat) : Int)) n (nt x) (nt ((a + (k + 1) : Nat) : Int)) s := fun n x k s => by
      rw [f_X3_search_b137, n_1, nt_add, bd_eq]; rfl
    obtain ⟨ct, hct⟩ : ∃ ct : Nat → Nat, ct = fun k => if k ≤ p then k else k - 1 := ⟨_, rfl⟩
    have ct1 : ∀ k, k ≤ p → ct k = k := fun k hk => by rw [hct]; exact if_pos hk
    have ct2 : ∀ k, p < k → ct k = k - 1 := fun k hk => by rw [hct]; exact if_neg (by omega)
    obtain ⟨s, es, hI⟩ := lp_inv (fun n k s => f_X3_search_h81 N (f_X3_search N dp) (nt (E : Nat)) (nt (a : Nat)) (nt ((M + 2 : Nat) : Int)) (nt (T : Nat)) (nt ((a + p : Nat) : Int)) n (nt ((a + (M + 2) + ct k : Nat) : Int)) (nt ((a + k : Nat) : Int)) s) (fun k s => s.1 = σ.1 ∧ (∀ c, ¬ (65 + (a + (M + 2)) ≤ c ∧ c < 143) → s.2 c = σ.2 c) ∧ ∀ i, i < ct k → RI φ pi s (65 + (a + (M + 2) + i)) Y' (jd' i)) (M + 2) (fun n k s hk q => by
      obtain ⟨p1, p2, p3⟩ := q
      have hk : k < M + 2 := hk
      rw [f_X3_search_h81, nt_add, le_f (by omega) (by omega) (by omega)]
      by_cases qk : k = p
      · subst qk
        refine ⟨s, ?_, p1, p2, fun i hi => p3 i (by rw [ct1 k (by omega)]; rw [ct2 (k + 1) (by omega)] at hi; omega)⟩
        rw [eq_t (by rfl), hb137, ct1 k (by omega), ct2 (k + 1) (by omega)]; rfl
      · have hckb : ct k ≤ M := by rw [hct]; dsimp only; split <;> omega
        have hsk : sk p (ct k) = k := by
          by_cases q3 : k < p
          · rw [ct1 k (by omega), sk_lt q3]
          · rw [ct2 k (by omega), sk_ge (by omega)]; omega
        have hck1 : ct (k + 1) = ct k + 1 := by
          by_cases q3 : k < p
          · rw [ct1 k (by omega), ct1 (k + 1) (by omega)]
          · rw [ct2 k (by omega), ct2 (k + 1) (by omega)]; omega
        have g5 : gI s 5 5 = nt ((2 * nb φ : Nat) : Int) := by unfold gI; rw [p1]; exact hC.1
        have g6 : gI s 5 6 = nt ((ds φ : Nat) : Int) := by unfold gI; rw [p1]; exact hC.2.1
        obtain ⟨s', f1, f2, f3, f4⟩ := RI_cancel w hN (σ := s) hYo hS.1.2 hpid (hS.2.2.1 k hk) hjp (fun q3 => qk (hS.2.1 k p hk hp q3)) (e := E) (by omega) hP (c1 := 65 + (a + k)) (c2 := 65 + (a + p)) (c4 := 65 + (a + (M + 2) + ct k)) ⟨tg_rows (by omega), ln_rows (by omega)⟩ ⟨tg_rows (by omega), ln_rows (by omega)⟩ ⟨tg_rows (by omega), ln_rows (by omega)⟩ g5 g6 (RI_o (hS.2.2.2 k hk) (p2 _ (by omega))) (RI_o (hS.2.2.2 p hp) (p2 _ (by omega)))
        refine ⟨s', ?_, f3.trans p1, fun c hc => by rw [f4 c (by omega)]; exact p2 c hc, fun i hi => ?_⟩
        · rw [eq_f (by omega) (by omega) (by omega) (by omega) (by omega), ck_inb (by omega) (by omega) (by omega), ck_inb (by omega) (by omega) (by omega), ck_inb (by omega) (by omega) (by omega), nat_k (by omega), nat_k (by omega), nat_k (by omega), f1, obd_some, n_1, nt_add, bd_eq, hb137, hck1]
          rfl
        · rw [hck1] at hi
          by_cases q3 : i = ct k
          · subst q3
            rw [hjd', hY']; dsimp only; rw [hsk]; exact f2
          · exact RI_o (p3 i (by omega)) (f4 _ (by omega))) (M + 2) 0 N σ (by omega) (by omega) ⟨rfl, fun _ _ => rfl, fun i hi => by rw [ct1 0 (by omega)] at hi; omega⟩
    obtain ⟨p1, p2, p3⟩ := hI
    have hctm : ct (M + 2) = M + 1 := by rw [ct2 (M + 2) (by omega)]; omega
    rw [hctm] at p3
    rw [hctm, ct1 0 (by omega)] at es
    have es : f_X3_search_h81 N (f_X3_search N dp) (nt (E : Nat)) (nt (a : Nat)) (nt ((M + 2 : Nat) : Int)) (nt (T : Nat)) (nt ((a + p : Nat) : Int)) N (nt ((a : Nat) + ((M + 2 : Nat) : Int))) (nt (a : Nat)) σ = f_X3_search_h81 N (f_X3_search N dp) (nt (E : Nat)) (nt (a : Nat)) (nt ((M + 2 : Nat) : Int)) (nt (T : Nat)) (nt ((a + p : Nat) : Int)) (N - (M + 2)) (nt ((a + (M + 2) + (M + 1) : Nat) : Int)) (nt ((a + (M + 2) : Nat) : Int)) s := es
    obtain ⟨n, en⟩ : ∃ n, N - (M + 2) = n + 1 := ⟨N - (M + 2) - 1, by omega⟩
    rw [es, en, f_X3_search_h81, nt_add, le_t (by omega) (by omega) (by omega)]
    have hSn : SR φ pi s (a + (M + 2)) (M + 1) Y' jd' := by
      refine ⟨hAE, fun i j hi hj h => ?_, fun i hi => ?_, p3⟩
      · rw [hjd'] at h
        exact sk_inj (hS.2.1 _ _ (by have := sk_bd (k := p) hi; omega) (by have := sk_bd (k := p) hj; omega) h)
      · rw [hjd']; exact hS.2.2.1 _ (by have := sk_bd (k := p) hi; omega)
    have hCs : SC φ s f0 := ⟨by unfold gI; rw [p1]; exact hC.1, by unfold gI; rw [p1]; exact hC.2.1, by unfold gI; rw [p1]; exact hC.2.2⟩
    have hinV : ∀ q : Nat → Rat, inV φ Y' jd' (M + 1) q ↔ inV φ Y jd (M + 2) q ∧ dq (dd φ) (Rq φ E) q = 0 := by
      intro q
      constructor
      · intro h
        refine ⟨fun l hl hn => ?_, ?_⟩
        · have := h l hl (fun i hi => by rw [hjd']; exact hn _ (by have := sk_bd (k := p) hi; omega))
          rw [hY'] at this; unfold upN at this
          rwa [if_neg (fun q3 => hn p hp q3.symm)] at this
        · have := h (jd p) hjp (fun i hi q3 => by
            rw [hjd'] at q3
            exact sk_ne p i (hS.2.1 _ _ (by have := sk_bd (k := p) hi; omega) hp q3))
          rw [hY'] at this; unfold upN at this
          rwa [if_pos rfl] at this
      · rintro ⟨h, hE⟩ l hl hn
        rw [hY']; unfold upN
        by_cases q3 : l = jd p
        · rw [if_pos q3]; exact hE
        · rw [if_neg q3]
          refine h l hl (fun i hi q4 => ?_)
          have hip : i ≠ p := fun q5 => q3 (by rw [← q4, q5])
          obtain ⟨i', hi', q6⟩ := sk_ex (k := p) (j := i) (n := M + 1) hip (by omega) (by omega)
          exact hn i' hi' (by rw [hjd']; dsimp only; rw [q6]; exact q4)
    have hV1 : ∀ q : Nat → Rat, inV φ Y' jd' (M + 1) q ↔ ∀ e, E ≤ e → e < 2 * nb φ → T.testBit e = false → dq (dd φ) (Rq φ e) q = 0 := by
      intro q
      rw [hinV q, hV.1 q]
      constructor
      · rintro ⟨h, hE⟩ e he1 he2 ht
        by_cases q3 : e = E
        · subst q3; exact hE
        · exact h e (by omega) he2 ht
      · intro h
        exact ⟨fun e he1 he2 ht => h e (by omega) he2 ht, h E (Nat.le_refl _) (by omega) hTE⟩
    obtain ⟨Vn, hVn⟩ := SR_rows w hpi hSn
    -- the sets without this end
    have first : ∃ (τ1 : ZS) (L1 : List Nat), (f_X3_search_h81 N (f_X3_search N dp) (nt (E : Nat)) (nt (a : Nat)) (nt ((M + 2 : Nat) : Int)) (nt (T : Nat)) (nt ((a + p : Nat) : Int)) (n + 1) (nt ((a + (M + 2) + (M + 1) : Nat) : Int)) (nt ((a + (M + 2) : Nat) : Int)) s = f_X3_search_b173 N (f_X3_search N dp) (nt (E : Nat)) (nt (a : Nat)) (nt ((M + 2 : Nat) : Int)) (nt (T : Nat)) τ1) ∧ L1.Pairwise (· < ·) ∧ (∀ s, s ∈ L1 ↔ Em φ E T s) ∧ L1.length ≤ Cb E M ∧ SC φ τ1 (f0 + L1.length) ∧ (∀ k s, L1[k]? = some s → gI τ1 59 (f0 + k) = nt (s : Nat) ∧ ∃ r, Row τ1 (143 + (f0 + k)) (wd φ) r ∧ MotR φ pi r s) ∧ (∀ k, k < f0 → gI τ1 59 k = gI σ 59 k) ∧ (∀ k, k ≠ 3 → gI τ1 6 k = gI σ 6 k) ∧ (∀ c, c ≠ 59 → c ≠ 6 → τ1.1 c = σ.1 c) ∧ ∀ c, (c < 65 + (a + (M + 2)) ∨ (143 ≤ c ∧ c < 143 + f0) ∨ 1067 ≤ c) → τ1.2 c = σ.2 c := by
      have hx : f_X3_search_h81 N (f_X3_search N dp) (nt (E : Nat)) (nt (a : Nat)) (nt ((M + 2 : Nat) : Int)) (nt (T : Nat)) (nt ((a + p : Nat) : Int)) (n + 1) (nt ((a + (M + 2) + (M + 1) : Nat) : Int)) (nt ((a + (M + 2) : Nat) : Int)) s = obd (f_X3_allTwist N (nt (T : Nat)) (nt ((a + (M + 2) : Nat) : Int)) (nt ((M + 1 : Nat) : Int)) s) fun v10 σ11 => (if v10 = 0 then f_X3_search_b173 N (f_X3_search N dp) (nt (E : Nat)) (nt (a : Nat)) (nt ((M + 2 : Nat) : Int)) (nt (T : Nat)) σ11 else obd (f_X3_search N dp (nt ((E : Nat) - 1)) (nt ((a + (M + 2) : Nat) : Int)) (nt ((M + 1 : Nat) : Int)) (nt (T : Nat)) σ11) fun _ σ16 => f_X3_search_b173 N (f_X3_search N dp) (nt (E : Nat)) (nt (a : Nat)) (nt ((M + 2 : Nat) : Int)) (nt (T : Nat)) σ16) := by
        rw [f_X3_search_h81, nt_add, le_t (by omega) (by omega) (by omega), n_1, nt_sub, nt_sub, show ((a : Nat) : Int) + ((M + 2 : Nat) : Int) = ((a + (M + 2) : Nat) : Int) by omega, show ((M + 2 : Nat) : Int) - 1 = ((M + 1 : Nat) : Int) by omega]
      rw [hx]
      rcases s_allTwist w hN (σ := s) (a := a + (M + 2)) (m := M + 1) (T := T) (by omega) hV.2.2 hCs.1 (fun i hi => (hVn i hi).1) (fun i hi k hk => by have := (hVn i hi).2.1 k hk; constructor <;> omega) with ⟨hall, hat⟩ | ⟨⟨e1, he1, ht1, hz1⟩, hat⟩
      · rw [hat, obd_some, n_0, eq_f (by omega) (by omega) (by omega) (by omega) (by omega)]
        have hV2 : SV φ (M + 1) E T Y' jd' := by
          refine ⟨hV1, fun e ht => ?_, hV.2.2⟩
          obtain ⟨b1, b2, _⟩ := hV.2.1 e ht
          obtain ⟨i, hi, hne2⟩ := hall e b2 ht
          exact ⟨by omega, b2, i, hi, fun q => hne2 (((hVn i hi).2.2.1 e b2).mpr q)⟩
        obtain ⟨τ1, L1, r1, r2, r3, r4, r5, r6, r7, r8, r9, r10⟩ := ih dp s (a + (M + 2)) (M + 1) T f0 Y' jd' (by omega) (by omega) (by omega) (by omega) (by omega) hSn hV2 hCs (by rw [hcb] at hf; show f0 + Cb E M ≤ 924; omega)
        refine ⟨τ1, L1, by rw [r1, obd_some], r2, r3, r4, r5, r6, fun k hk => by rw [r7 k hk]; unfold gI; rw [p1], fun k hk => by rw [r8 k hk]; unfold gI; rw [p1], fun c c1 c2 => by rw [r9 c c1 c2, p1], fun c hc => ?_⟩
        rw [r10 c (by omega), p2 c (by omega)]
      · rw [hat, obd_some, n_0, eq_t rfl]
        refine ⟨s, [], rfl, List.Pairwise.nil, fun x => ⟨fun h => absurd h (List.not_mem_nil), fun h => ?_⟩, Nat.zero_le _, hCs, fun k x hk => by simp at hk, fun k _ => by unfold gI; rw [p1], fun k _ => by unfold gI; rw [p1], fun c _ _ => by rw [p1], fun c hc => p2 c (by omega)⟩
        exfalso
        obtain ⟨⟨q, hq, rfl⟩, hb⟩ := h
        have hin : inV φ Y' jd' (M + 1) q := by
          rw [hV1]
          intro e h1 h2 ht
          have := hb e h1 h2
          rw [ht] at this
          apply Classical.byContradiction
          intro q3
          rw [(mq_bit φ q h2).mpr q3] at this; cases this
        have h0 := inV_z w hAE (e := e1) (fun i hi => ((hVn i hi).2.2.1 e1 he1).mp (hz1 i hi)) hin
        have h2 := hb e1 (by have := (hV.2.1 e1 ht1).1; omega) he1
        rw [ht1] at h2
        exact (mq_bit φ q he1).mp h2 h0
    obtain ⟨τ1, L1, r1, r2, r3, r4, r5, r6, r7, r8, r9, r10⟩ := first
    rw [f_X3_search_h81, nt_add, le_t (by omega) (by omega) (by omega)] at r1
    rw [r1]
    -- the sets with this end
    obtain ⟨T2, hT2⟩ : ∃ T2, T2 = T ||| 2 ^ E := ⟨_, rfl⟩
    have hT2b : ∀ e, T2.testBit e = (T.testBit e || decide (E = e)) := fun e => by rw [hT2, Nat.testBit_or, Nat.testBit_two_pow]
    have hT24 : T2 < 4096 := by
      have h1 : (2 : Nat) ^ E < 2 ^ 12 := Nat.pow_lt_pow_right (by omega) (by omega)
      have h2 : T < 2 ^ 12 := hV.2.2
      rw [hT2]
      exact Nat.or_lt_two_pow h2 h1
    have hS2 : SR φ pi τ1 a (M + 2) Y jd := SR_o hS (fun c hc => r10 c (Or.inl hc))
    have hV2 : SV φ (M + 2) E T2 Y jd := by
      refine ⟨fun q => ?_, fun e ht => ?_, hT24⟩
      · rw [hV.1 q]
        refine ⟨fun h e he1 he2 ht => ?_, fun h e he1 he2 ht => h e (by omega) he2 (by rw [hT2b, ht, decide_eq_false (by omega)]; rfl)⟩
        rw [hT2b] at ht
        have h3 : T.testBit e = false ∧ ¬ E = e := by
          rw [Bool.or_eq_false_iff] at ht
          exact ⟨ht.1, of_decide_eq_false ht.2⟩
        exact h e (by omega) he2 h3.1
      · rw [hT2b, Bool.or_eq_true] at ht
        rcases ht with ht | ht
        · obtain ⟨b1, b2, b3⟩ := hV.2.1 e ht
          exact ⟨by omega, b2, b3⟩
        · have : E = e := of_decide_eq_true ht
          subst this
          exact ⟨Nat.le_refl _, by omega, p, hp, hP⟩
    obtain ⟨τ, L2, t1, t2, t3, t4, t5, t6, t7, t8, t9, t10⟩ := ih dp τ1 a (M + 2) T2 (f0 + L1.length) Y jd (by omega) (by omega) (by omega) ha hm hS2 hV2 r5 (by rw [hcb] at hf; show f0 + L1.length + Cb E (M + 1) ≤ 924; omega)
    refine ⟨τ, L1 ++ L2, ?_, ?_, fun x => ?_, ?_, ?_, fun k x hk => ?_, fun k hk => ?_, fun k hk => ?_, fun c c1 c2 => ?_, fun c hc => ?_⟩
    · unfold f_X3_search_b173
      rw [n_1, nt_sub, nt_pow (by omega), nt_or, ← hT2, t1, obd_some]
    · rw [List.pairwise_append]
      refine ⟨r2, t2, fun x hx y hy => ?_⟩
      have hx := (r3 x).mp hx
      have hy := (t3 y).mp hy
      refine lt_bits E x y (fun j hj => ?_) ?_ ?_
      · by_cases q3 : j < 2 * nb φ
        · rw [hx.2 j (by omega) q3, hy.2 j (by omega) q3, hT2b, decide_eq_false (by omega), Bool.or_false]
        · rw [bit_hi w hx.1 (by omega), bit_hi w hy.1 (by omega)]
      · rw [hx.2 E (Nat.le_refl _) (by omega), hTE]
      · rw [hy.2 E (Nat.le_refl _) (by omega), hT2b, decide_eq_true rfl, Bool.or_true]
    · rw [List.mem_append, r3, t3]
      constructor
      · rintro (h | h)
        · exact ⟨h.1, fun e h1 h2 => h.2 e (by omega) h2⟩
        · exact ⟨h.1, fun e h1 h2 => by rw [h.2 e (by omega) h2, hT2b, decide_eq_false (by omega), Bool.or_false]⟩
      · intro h
        cases q3 : x.testBit E with
        | false =>
          left
          refine ⟨h.1, fun e h1 h2 => ?_⟩
          by_cases q4 : e = E
          · subst q4; rw [q3, hTE]
          · exact h.2 e (by omega) h2
        | true =>
          right
          refine ⟨h.1, fun e h1 h2 => ?_⟩
          rw [hT2b]
          by_cases q4 : e = E
          · subst q4; rw [q3, decide_eq_true rfl, Bool.or_true]
          · rw [h.2 e (by omega) h2, decide_eq_false (by omega), Bool.or_false]
    · rw [List.length_append, hcb]
      have h2 : M + 2 - 1 = M + 1 := by omega
      rw [h2] at t4
      omega
    · rw [List.length_append, ← Nat.add_assoc]; exact t5
    · by_cases q3 : k < L1.length
      · rw [List.getElem?_append_left q3] at hk
        obtain ⟨b1, r, b2, b3⟩ := r6 k x hk
        refine ⟨by rw [t7 _ (by omega)]; exact b1, r, Row_o b2 (t10 _ (by omega)), b3⟩
      · rw [List.getElem?_append_right (by omega)] at hk
        have := t6 (k - L1.length) x hk
        rw [show f0 + L1.length + (k - L1.length) = f0 + k by omega] at this
        exact this
    · rw [t7 k (by omega), r7 k hk]
    · rw [t8 k hk, r8 k hk]
    · rw [t9 c c1 c2, r9 c c1 c2]
    · rw [t10 c (by omega), r10 c hc]
end
