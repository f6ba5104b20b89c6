-- ===== the class reduces its rows =====
theorem no_inj : ∀ (n : Nat) (f : Nat → Nat), inj (n + 1) f → (∀ i, i < n + 1 → f i < n) → False := by
  intro n
  induction n with
  | zero => intro f _ h; exact absurd (h 0 (by omega)) (Nat.not_lt_zero _)
  | succ n ih =>
    intro f hi h
    have hne : ∀ i, i < n + 1 → f i ≠ f (n + 1) := fun i hi2 w => by have := hi i (n + 1) (by omega) (by omega) w; omega
    refine ih (fun i => us (f (n + 1)) (f i)) (fun i j hi2 hj2 e => hi i j (by omega) (by omega) ?_) (fun i hi2 => ?_)
    · have h1 := hne i hi2
      have h2 := hne j hj2
      dsimp only at e
      unfold us at e
      split at e <;> split at e <;> omega
    · have h1 := hne i hi2
      have h2 := h i (by omega)
      have h3 := h (n + 1) (by omega)
      show us (f (n + 1)) (f i) < n
      unfold us
      split <;> omega
theorem inj_on {n : Nat} {f : Nat → Nat} (hi : inj n f) (h : ∀ i, i < n → f i < n) : ∀ j, j < n → ∃ i, i < n ∧ f i = j := by
  intro j hj
  apply Classical.byContradiction
  intro w
  obtain ⟨n, rfl⟩ : ∃ m, n = m + 1 := ⟨n - 1, by omega⟩
  have hne : ∀ i, i < n + 1 → f i ≠ j := fun i hi2 q => w ⟨i, hi2, q⟩
  refine no_inj n (fun i => us j (f i)) (fun a b ha hb e => hi a b ha hb ?_) (fun i hi2 => ?_)
  · have h1 := hne a ha
    have h2 := hne b hb
    dsimp only at e
    unfold us at e
    split at e <;> split at e <;> omega
  · have h1 := hne i hi2
    have h2 := h i hi2
    show us j (f i) < n
    unfold us
    split <;> omega
theorem inj_le {n m : Nat} {f : Nat → Nat} (hi : inj n f) (h : ∀ i, i < n → f i < m) : n ≤ m := by
  apply Classical.byContradiction
  intro w
  exact no_inj m f (fun i j a b e => hi i j (by omega) (by omega) e) (fun i hi2 => h i (by omega))
theorem sJ_wJ {σ : ZS} {A B k n : Nat} {x : Int64} {g : Nat → Int64} (h : A ≠ B) : sJ (wJ σ B n g) A k x = wJ (sJ σ A k x) B n g := by
  unfold sJ wJ
  congr 1
  funext a j
  by_cases h1 : a = A
  · subst h1
    by_cases h2 : j = k
    · subst h2; simp [vp_updL, h]
    · simp [vp_updL, h, h2]
  · by_cases h2 : a = B
    · subst h2; simp [h1]
    · simp [h1, h2]
section
variable {N : Nat} {σ : ZS} {φ : FR} {pi : Nat → Nat}
theorem s_swapRows (hN : 200 ≤ N) {a b w : Nat} (ha : a < 78) (hb : b < 78) (hw : w ≤ 26) (hwd : f_X4_width N σ = some (nt (w : Nat), σ)) {V U : Nat → Int} (h1 : Row σ (65 + a) w V) (h2 : Row σ (65 + b) w U) : ∃ τ, f_X4_swapRows N (nt (a : Nat)) (nt (b : Nat)) σ = some ((), τ) ∧ Row τ (65 + a) w U ∧ Row τ (65 + b) w V ∧ τ.1 = σ.1 ∧ ∀ d, d ≠ 65 + a → d ≠ 65 + b → τ.2 d = σ.2 d := by
  unfold f_X4_swapRows
  rw [hwd, obd_some]
  by_cases e : a = b
  · subst e
    obtain ⟨n, rfl⟩ : ∃ n, N = n + 1 := ⟨N - 1, by omega⟩
    refine ⟨σ, ?_, ?_, ?_, rfl, fun _ _ _ => rfl⟩
    · rw [f_X4_swapRows_h8, n_0]
      by_cases e0 : (w : Int) ≤ 0
      · rw [le_t e0 (by omega) (by omega)]
      · rw [le_f (by omega) (by omega) (by omega), eq_t rfl]
    · exact h2
    · exact h1
  · have key := lp_go (fun n k (s : ZS) => f_X4_swapRows_h8 N (nt (a : Nat)) (nt (b : Nat)) (nt (w : Nat)) n (nt (k : Nat)) s) (fun k => wJ (wJ σ (65 + a) k (fun k => jl (U k))) (65 + b) k (fun k => jl (V k))) w (fun n k hk => by
      have g1 : gJ (wJ (wJ σ (65 + a) k (fun k => jl (U k))) (65 + b) k (fun k => jl (V k))) (65 + a) k = jl (V k) := by
        rw [gJ_wJ_c (by omega), gJ_wJ, if_neg (by omega)]; exact h1 k hk
      have g2 : gJ (wJ (wJ σ (65 + a) k (fun k => jl (U k))) (65 + b) k (fun k => jl (V k))) (65 + b) k = jl (U k) := by
        rw [gJ_wJ, if_neg (by omega), gJ_wJ_c (by omega)]; exact h2 k hk
      rw [f_X4_swapRows_h8, le_f (by omega) (by omega) (by omega), eq_f (by omega) (by omega) (by omega) (by omega) (by omega), ck_inb (by omega) (by omega) (by omega), nat_k (by omega), nat_k (by omega), nat_k (by omega), ck_tg (tg_rows ha), ln_rows ha, ck_inb (by omega) (by omega) (by omega), g1, bd_eq, ck_inb (by omega) (by omega) (by omega), ck_inb (by omega) (by omega) (by omega), ck_tg (tg_rows hb), ln_rows hb, ck_inb (by omega) (by omega) (by omega), g2, bd_eq, ck_tg (tg_rows ha), ck_inb (by omega) (by omega) (by omega), bd_eq, ck_inb (by omega) (by omega) (by omega), ck_tg (tg_rows hb), ck_inb (by omega) (by omega) (by omega), bd_eq, n_1, nt_add, bd_eq, sJ_wJ (by omega), wJ_s σ (65 + a) k (fun k => jl (U k)), wJ_s _ (65 + b) k (fun k => jl (V k))]
      rfl) w 0 N (by omega) (by omega)
    obtain ⟨n, en⟩ : ∃ n, N - w = n + 1 := ⟨N - w - 1, by omega⟩
    have key : f_X4_swapRows_h8 N (nt (a : Nat)) (nt (b : Nat)) (nt (w : Nat)) N (0 : Int32) (wJ (wJ σ (65 + a) 0 (fun k => jl (U k))) (65 + b) 0 (fun k => jl (V k))) = f_X4_swapRows_h8 N (nt (a : Nat)) (nt (b : Nat)) (nt (w : Nat)) (N - w) (nt (w : Nat)) (wJ (wJ σ (65 + a) w (fun k => jl (U k))) (65 + b) w (fun k => jl (V k))) := key
    rw [wJ_0, wJ_0] at key
    refine ⟨wJ (wJ σ (65 + a) w (fun k => jl (U k))) (65 + b) w (fun k => jl (V k)), ?_, ?_, Row_wJ, rfl, fun d hd1 hd2 => by rw [wJ_o hd2, wJ_o hd1]⟩
    · rw [key, en, f_X4_swapRows_h8, le_t (by omega) (by omega) (by omega)]
    · exact Row_o Row_wJ (wJ_o (by omega))
/-- an end at which motions twist that twist at none before -/
noncomputable def pvt (φ : FR) (e : Nat) : Bool := cd (∃ q : Nat → Int, (∀ e', e' < e → tw φ e' q = 0) ∧ tw φ e q ≠ 0)
noncomputable def rk (φ : FR) : Nat := cn (2 * nb φ) (pvt φ)
/-- the class's cells of the basis: sizes -/
def Sz (φ : FR) (σ : ZS) (rho : Nat) : Prop := gI σ 5 3 = nt ((dd φ : Nat) : Int) ∧ gI σ 5 4 = nt ((rho : Nat) : Int) ∧ gI σ 5 5 = nt ((2 * nb φ : Nat) : Int) ∧ gI σ 5 6 = nt ((ds φ : Nat) : Int)
/-- a basis half reduced -/
def RD (φ : FR) (pi : Nat → Nat) (σ : ZS) (rho e : Nat) (Y idx : Nat → Nat) : Prop := (∀ l, l < dd φ → okc φ (dd φ) (Y l)) ∧ Dt φ Y ≠ 0 ∧ inj (dd φ) idx ∧ (∀ i, i < dd φ → idx i < dd φ) ∧ (∀ i, i < dd φ → RI φ pi σ (65 + i) Y (idx i)) ∧ (∀ i, i < rho → Y (idx i) < e ∧ Y (idx i) < 2 * nb φ) ∧ (∀ i, rho ≤ i → i < dd φ → ∀ e', e' < e → tw φ e' (xv φ Y (idx i)) = 0) ∧ rho ≤ dd φ ∧ rho = cn e (pvt φ)
theorem RD_pvt (w : WF φ) {rho e : Nat} {Y idx : Nat → Nat} (h : RD φ pi σ rho e Y idx) : pvt φ e = true ↔ ∃ i, rho ≤ i ∧ i < dd φ ∧ tw φ e (xv φ Y (idx i)) ≠ 0 := by
  obtain ⟨h1, h2, h3, h4, h5, h6, h7, h8, h9⟩ := h
  have hnb := w.2.1
  unfold pvt
  rw [cd_iff]
  constructor
  · intro ⟨q, q1, q2⟩
    apply Classical.byContradiction
    intro hn
    apply q2
    have hc := tw_cr (φ := φ) Y e q
    rw [sZ_zero (fun l hl => by
      obtain ⟨i, hi, rfl⟩ := inj_on h3 h4 l hl
      by_cases hr : rho ≤ i
      · have : tw φ e (xv φ Y (idx i)) = 0 := Classical.byContradiction (fun q => hn ⟨i, hr, hi, q⟩)
        rw [← tw_xv Y hl, this]; omega
      · have h10 := h6 i (by omega)
        have : sZ (dd φ) (fun j => fu φ (Y (idx i)) j * q j) = 0 := by
          have h11 := q1 (Y (idx i)) h10.1
          unfold tw at h11
          unfold fu
          rw [if_pos (by omega)]
          exact h11
        rw [this]; omega)] at hc
    exact (Int.mul_eq_zero.mp hc).resolve_left h2
  · intro ⟨i, hr, hi, hq⟩
    exact ⟨xv φ Y (idx i), fun e' he' => h7 i hr hi e' he', hq⟩
/-- no more room: all ends behind are no pivots -/
theorem RD_full (w : WF φ) {rho e : Nat} {Y idx : Nat → Nat} (h : RD φ pi σ rho e Y idx) (hr : rho = dd φ) : ∀ k, RD φ pi σ rho (e + k) Y idx := by
  intro k
  induction k with
  | zero => exact h
  | succ k ih =>
    have hp : pvt φ (e + k) = false := by
      cases q : pvt φ (e + k) with
      | false => rfl
      | true => obtain ⟨i, i1, i2, _⟩ := (RD_pvt w ih).mp q; omega
    obtain ⟨h1, h2, h3, h4, h5, h6, h7, h8, h9⟩ := ih
    exact ⟨h1, h2, h3, h4, h5, fun i hi => ⟨by have := (h6 i hi).1; omega, (h6 i hi).2⟩, fun i hi hi2 => by omega, h8, by rw [← Nat.add_assoc, cn_s, hp]; simpa using h9⟩
def fr5 (σ τ : ZS) : Prop := (∀ c, c ≠ 5 → τ.1 c = σ.1 c) ∧ (∀ k, k ≠ 4 → gI τ 5 k = gI σ 5 k) ∧ ∀ c, ¬ (65 ≤ c ∧ c < 143) → τ.2 c = σ.2 c
theorem fr5_rf (σ : ZS) : fr5 σ σ := ⟨fun _ _ => rfl, fun _ _ => rfl, fun _ _ => rfl⟩
theorem fr5_tr {a b c : ZS} (h : fr5 a b) (h2 : fr5 b c) : fr5 a c := ⟨fun x hx => (h2.1 x hx).trans (h.1 x hx), fun k hk => (h2.2.1 k hk).trans (h.2.1 k hk), fun x hx => (h2.2.2 x hx).trans (h.2.2 x hx)⟩
theorem s_reduce1 (w : WF φ) (hN : 200 ≤ N) (hpi : ∀ g, g < ds φ → pi g < dd φ) : ∀ (j e rho n : Nat) (σ : ZS) (Y idx : Nat → Nat), e + j = 2 * nb φ → j + 1 ≤ n → Sz φ σ rho → RD φ pi σ rho e Y idx → ∃ τ Y' idx', f_X4_reduceRows_h7 N n (nt (e : Nat)) σ = some ((), τ) ∧ Sz φ τ (rk φ) ∧ RD φ pi τ (rk φ) (2 * nb φ) Y' idx' ∧ fr5 σ τ := by
  have hnb := w.2.1
  have hdd := dd_le (φ := φ)
  intro j
  induction j with
  | zero =>
    intro e rho n σ Y idx he hn hs hR
    obtain rfl : e = 2 * nb φ := by omega
    obtain ⟨n, rfl⟩ : ∃ m, n = m + 1 := ⟨n - 1, by omega⟩
    have h9 := hR.2.2.2.2.2.2.2.2
    have h9 : rho = rk φ := h9
    subst h9
    refine ⟨σ, Y, idx, ?_, hs, hR, fr5_rf σ⟩
    rw [f_X4_reduceRows_h7, hs.2.2.1, le_t (by omega) (by omega) (by omega)]
  | succ j ih =>
    intro e rho n σ Y idx he hn hs hR
    obtain ⟨n, rfl⟩ : ∃ m, n = m + 1 := ⟨n - 1, by omega⟩
    have h8 := hR.2.2.2.2.2.2.2.1
    rw [f_X4_reduceRows_h7, hs.2.2.1, le_f (by omega) (by omega) (by omega), hs.1, hs.2.1]
    by_cases hfull : rho = dd φ
    · rw [le_t (by omega) (by omega) (by omega)]
      have hF := RD_full w hR hfull (j + 1)
      rw [he] at hF
      have h9 : rho = rk φ := hF.2.2.2.2.2.2.2.2
      rw [← h9]
      exact ⟨σ, Y, idx, rfl, hs, hF, fr5_rf σ⟩
    rw [le_f (by omega) (by omega) (by omega), nt_sub, show ((dd φ : Nat) : Int) - (rho : Nat) = ((dd φ - rho : Nat) : Int) by omega]
    obtain ⟨h1, h2, h3, h4, h5, h6, h7, _, h9⟩ := id hR
    -- the rows
    obtain ⟨V, hV⟩ : ∃ V : Nat → Nat → Int, ∀ i, i < dd φ → Row σ (65 + i) (wd φ) (V i) ∧ alg (wd φ) (V i) (T12 φ pi (xv φ Y (idx i))) ∧ (gz (wd φ) (V i) = 1 ∨ ∀ k', k' < wd φ → V i k' = 0) := by
      refine ⟨fun i => if h : i < dd φ then Classical.choose (h5 i h) else fun _ => 0, fun i hi => ?_⟩
      dsimp only
      rw [dif_pos hi]
      exact Classical.choose_spec (h5 i hi)
    have hVb : ∀ i, i < dd φ → ∀ k, k < wd φ → (V i k).natAbs ≤ 805306368 := fun i hi => alg_bd w h1 hpi (h4 i hi) (hV i hi).2.1 (hV i hi).2.2
    have hew : e < wd φ := by unfold wd; omega
    have hwd : ∀ s : ZS, s.1 = σ.1 → f_X4_width N s = some (nt (wd φ : Nat), s) := fun s hs2 => s_width (by unfold gI; rw [hs2]; exact hs.2.2.1) (by unfold gI; rw [hs2]; exact hs.2.2.2) rfl
    rcases s_rowWith (σ := σ) hN (e := e) (a := rho) (m := dd φ - rho) hew (wd_le w) (by omega) (V := fun i => V (rho + i)) (fun i hi => (hV (rho + i) (by omega)).1) (fun i hi => by have := hVb (rho + i) (by omega) e hew; constructor <;> omega) with ⟨i0, hi0, hne, _, hrw⟩ | ⟨hz, hrw⟩
    · -- a pivot
      rw [hrw, obd_some, n_0, lt_f (by omega) (by omega) (by omega), hs.2.1]
      obtain ⟨τ1, e1, r1, r2, q1, q2⟩ := s_swapRows (σ := σ) hN (a := rho + i0) (b := rho) (by omega) (by omega) (wd_le w) (hwd σ rfl) (hV (rho + i0) (by omega)).1 (hV rho (by omega)).1
      rw [e1, obd_some]
      obtain ⟨sw, hsw⟩ : ∃ sw : Nat → Nat, sw = fun i => if i = rho then rho + i0 else if i = rho + i0 then rho else i := ⟨_, rfl⟩
      have sw1 : sw rho = rho + i0 := by rw [hsw]; simp
      have sw2 : ∀ i, i ≠ rho → i ≠ rho + i0 → sw i = i := fun i a b => by rw [hsw]; simp [a, b]
      have sw3 : sw (rho + i0) = rho := by
        rw [hsw]; dsimp only
        by_cases q : rho + i0 = rho
        · rw [if_pos q]; exact q
        · rw [if_neg q, if_pos rfl]
      have sw4 : ∀ i, i < dd φ → sw i < dd φ := fun i hi => by rw [hsw]; dsimp only; split; omega; split <;> omega
      have swj : ∀ i k, sw i = sw k → i = k := fun i k h => by
        rw [hsw] at h; dsimp only at h
        split at h <;> (try split at h) <;> (try split at h) <;> (try split at h) <;> omega
      obtain ⟨jd, hjd⟩ : ∃ jd : Nat → Nat, jd = fun i => idx (sw i) := ⟨_, rfl⟩
      have j3 : inj (dd φ) jd := fun a b ha hb h => by
        rw [hjd] at h
        exact swj a b (h3 _ _ (sw4 a ha) (sw4 b hb) h)
      have j4 : ∀ i, i < dd φ → jd i < dd φ := fun i hi => by rw [hjd]; exact h4 _ (sw4 i hi)
      have jr : jd rho = idx (rho + i0) := by rw [hjd]; dsimp only; rw [sw1]
      have hP : tw φ e (xv φ Y (jd rho)) ≠ 0 := fun q => hne ((alg_z w (hV (rho + i0) (by omega)).2.1 (by omega)).mpr (by rw [← jr]; exact q))
      have c5 : ∀ i, i < dd φ → RI φ pi τ1 (65 + i) Y (jd i) := by
        intro i hi
        rw [hjd]; dsimp only
        by_cases a : i = rho
        · subst a
          rw [sw1]
          exact ⟨_, r2, (hV (i + i0) (by omega)).2⟩
        · by_cases b : i = rho + i0
          · subst b
            rw [sw3]
            exact ⟨_, r1, (hV rho (by omega)).2⟩
          · rw [sw2 i a b]
            exact RI_o (h5 i hi) (q2 _ (by omega) (by omega))
      have g3 : ∀ s : ZS, s.1 = τ1.1 → gI s 5 3 = nt ((dd φ : Nat) : Int) ∧ gI s 5 4 = nt ((rho : Nat) : Int) ∧ gI s 5 5 = nt ((2 * nb φ : Nat) : Int) ∧ gI s 5 6 = nt ((ds φ : Nat) : Int) := fun s hs2 => by
        unfold gI; rw [hs2, q1]; exact hs
      obtain ⟨s, es, hI⟩ := lp_inv (fun m k s => f_X4_reduceRows_h60 N (fun x1_ σ_ => f_X4_reduceRows_h7 N n x1_ σ_) (nt (e : Nat)) m (nt (k : Nat)) s) (fun t s => s.1 = τ1.1 ∧ (∀ c, ¬ (65 ≤ c ∧ c < 143) → s.2 c = τ1.2 c) ∧ ∀ i, i < dd φ → RI φ pi s (65 + i) (if i < t ∧ i ≠ rho then upN Y (jd rho) e else Y) (jd i)) (dd φ) (fun m t s ht q => by
        obtain ⟨p1, p2, p3⟩ := q
        have ht : t < dd φ := ht
        obtain ⟨g3a, g3b, g3c, g3d⟩ := g3 s p1
        have hb102 : ∀ s : ZS, f_X4_reduceRows_b102 N (fun x3_ σ_ => f_X4_reduceRows_h60 N (fun x1_ σ_ => f_X4_reduceRows_h7 N n x1_ σ_) (nt (e : Nat)) m x3_ σ_) (nt (e : Nat)) (nt (t : Nat)) s = f_X4_reduceRows_h60 N (fun x1_ σ_ => f_X4_reduceRows_h7 N n x1_ σ_) (nt (e : Nat)) m (nt ((t + 1 : Nat) : Int)) s := fun s => by
          rw [f_X4_reduceRows_b102, n_1, nt_add, bd_eq]; rfl
        rw [f_X4_reduceRows_h60, g3a, le_f (by omega) (by omega) (by omega), g3b]
        by_cases a : t = rho
        · refine ⟨s, ?_, p1, p2, fun i hi => ?_⟩
          · rw [eq_t (by omega), hb102]
          · have := p3 i hi
            by_cases b : i < t ∧ i ≠ rho
            · rw [if_pos b] at this; rw [if_pos (by omega)]; exact this
            · rw [if_neg b] at this; rw [if_neg (by omega)]; exact this
        · have pt := p3 t ht
          rw [if_neg (by omega)] at pt
          have pr := p3 rho (by omega)
          rw [if_neg (by omega)] at pr
          obtain ⟨s', f1, f2, f3, f4⟩ := RI_cancel w hN (σ := s) h1 h2 hpi (j4 t ht) (j4 rho (by omega)) (fun q => a (j3 t rho ht (by omega) q)) (e := e) (by omega) hP ⟨tg_rows (by omega), ln_rows (by omega)⟩ ⟨tg_rows (by omega), ln_rows (by omega)⟩ ⟨tg_rows (by omega), ln_rows (by omega)⟩ g3c g3d pt pr (c4 := 65 + t)
          refine ⟨s', ?_, f3.trans p1, fun c hc => by rw [f4 c (by omega)]; exact p2 c hc, fun i hi => ?_⟩
          · rw [eq_f (by omega) (by omega) (by omega) (by omega) (by omega), ck_inb (by omega) (by omega) (by omega), ck_inb (by omega) (by omega) (by omega), ck_inb (by omega) (by omega) (by omega), nat_k (by omega), nat_k (by omega), f1, obd_some, hb102]
          · by_cases b : i = t
            · subst b
              rw [if_pos ⟨by omega, a⟩]; exact f2
            · have := RI_o (p3 i hi) (f4 (65 + i) (by omega))
              by_cases c : i < t ∧ i ≠ rho
              · rw [if_pos c] at this; rw [if_pos (by omega)]; exact this
              · rw [if_neg c] at this; rw [if_neg (by omega)]; exact this) (dd φ) 0 N τ1 (by omega) (by omega) ⟨rfl, fun _ _ => rfl, fun i hi => by rw [if_neg (by omega)]; exact c5 i hi⟩
      obtain ⟨p1, p2, p3⟩ := hI
      obtain ⟨g3a, g3b, g3c, g3d⟩ := g3 s p1
      have es : f_X4_reduceRows_h60 N (fun x1_ σ_ => f_X4_reduceRows_h7 N n x1_ σ_) (nt (e : Nat)) N (nt 0) τ1 = f_X4_reduceRows_h60 N (fun x1_ σ_ => f_X4_reduceRows_h7 N n x1_ σ_) (nt (e : Nat)) (N - dd φ) (nt (dd φ : Nat)) s := es
      obtain ⟨m, em⟩ : ∃ m, N - dd φ = m + 1 := ⟨N - dd φ - 1, by omega⟩
      rw [es, em, f_X4_reduceRows_h60, g3a, le_t (by omega) (by omega) (by omega), g3b, n_1, nt_add, bd_eq, bd_eq, f_X4_reduceRows_b118, n_1, nt_add, bd_eq]
      have hpv : pvt φ e = true := (RD_pvt w hR).mpr ⟨rho + i0, by omega, by omega, by rw [← jr]; exact hP⟩
      have hD2 : Dt φ (upN Y (jd rho) e) ≠ 0 := by rw [D_up w Y (j4 rho (by omega)) (by omega)]; exact hP
      have hRn : RD φ pi (sI s 5 4 (nt ((rho : Nat) + 1))) (rho + 1) (e + 1) (upN Y (jd rho) e) jd := by
        refine ⟨okc_up h1 (Or.inl (by omega)), hD2, j3, j4, fun i hi => ?_, fun i hi => ?_, fun i hi hi2 e' he' => ?_, by omega, by rw [cn_s, hpv, ← h9]; rfl⟩
        · have := p3 i hi
          by_cases a : i = rho
          · subst a
            rw [if_neg (by omega)] at this
            exact RI_o (RI_pivot w (by omega) this) rfl
          · rw [if_pos ⟨hi, a⟩] at this
            exact RI_o this rfl
        · unfold upN
          by_cases a : i = rho
          · subst a; rw [if_pos rfl]; omega
          · rw [if_neg (fun q => a (j3 i rho (by omega) (by omega) q))]
            have b : jd i = idx i := by rw [hjd]; dsimp only; rw [sw2 i a (by omega)]
            rw [b]
            have := h6 i (by omega)
            omega
        · have hki : jd i ≠ jd rho := fun q => by have := j3 i rho hi2 (by omega) q; omega
          have ht := dt_two (dd φ) (Mx φ Y) (jd rho) (jd i) (j4 rho (by omega)) (j4 i hi2) (fun q => hki q.symm) (Rz φ e) (Rz φ e')
          rw [← Mx_up w Y (jd rho) (show e < 2 * nb φ by omega)] at ht
          rw [tw_xv _ (j4 i hi2)]
          have hz : ∀ k e'', rho ≤ k → k < dd φ → e'' < e → tw φ e'' (xv φ Y (jd k)) = 0 := by
            intro k e'' hk hk2 he2
            rw [hjd]; dsimp only
            refine h7 _ ?_ (sw4 k hk2) e'' he2
            rw [hsw]; dsimp only; split; omega; split <;> omega
          have hprod : Dt φ Y * dt (dd φ) (up (Mx φ (upN Y (jd rho) e)) (jd i) (Rz φ e')) = 0 := by
            unfold Dt
            rw [ht]
            by_cases a : e' = e
            · subst a; rw [Mx_up w Y (jd rho) (show e' < 2 * nb φ by omega)]; omega
            · have z1 := hz i e' (by omega) hi2 (by omega)
              have z2 := hz rho e' (by omega) (by omega) (by omega)
              rw [tw_xv Y (j4 i hi2)] at z1
              rw [tw_xv Y (j4 rho (by omega))] at z2
              rw [z1, z2]; omega
          exact (Int.mul_eq_zero.mp hprod).resolve_left h2
      have hSn : Sz φ (sI s 5 4 (nt ((rho : Nat) + 1))) (rho + 1) := ⟨by rw [gI_sI_k (by omega)]; exact g3a, by rw [gI_sI_at]; rfl, by rw [gI_sI_k (by omega)]; exact g3c, by rw [gI_sI_k (by omega)]; exact g3d⟩
      obtain ⟨τ, Y', idx', k1, k2, k3, k4⟩ := ih (e + 1) (rho + 1) n _ _ _ (by omega) (by omega) hSn hRn
      refine ⟨τ, Y', idx', k1, k2, k3, fr5_tr ⟨fun c hc => ?_, fun k hk => ?_, fun c hc => ?_⟩ k4⟩
      · rw [sI_o hc, p1, q1]
      · rw [gI_sI_k hk]; unfold gI; rw [p1, q1]
      · show s.2 c = σ.2 c
        rw [p2 c hc, q2 c (by omega) (by omega)]
    · -- none
      rw [hrw, obd_some, n_0, lt_t (by omega) (by omega) (by omega), f_X4_reduceRows_b118, n_1, nt_add, bd_eq]
      have hz2 : ∀ i, rho ≤ i → i < dd φ → tw φ e (xv φ Y (idx i)) = 0 := fun i hi hi2 => by
        have := hz (i - rho) (by omega)
        rw [show rho + (i - rho) = i by omega] at this
        exact (alg_z w (hV i hi2).2.1 (by omega)).mp this
      have hpv : pvt φ e = false := by
        cases q : pvt φ e with
        | false => rfl
        | true =>
          obtain ⟨i, i1, i2, i3⟩ := (RD_pvt w hR).mp q
          exact absurd (hz2 i i1 i2) i3
      exact ih (e + 1) rho n σ Y idx (by omega) (by omega) hs ⟨h1, h2, h3, h4, h5, fun i hi => ⟨by have := (h6 i hi).1; omega, (h6 i hi).2⟩, fun i hi hi2 e' he' => by
        by_cases a : e' = e
        · subst a; exact hz2 i hi hi2
        · exact h7 i hi hi2 e' (by omega), h8, by rw [cn_s, hpv]; simpa using h9⟩
theorem s_reduceRows (w : WF φ) (hN : 200 ≤ N) (hpi : ∀ g, g < ds φ → pi g < dd φ) {r0 : Int32} {Y idx : Nat → Nat} (h3 : gI σ 5 3 = nt ((dd φ : Nat) : Int)) (h5 : gI σ 5 5 = nt ((2 * nb φ : Nat) : Int)) (h6 : gI σ 5 6 = nt ((ds φ : Nat) : Int)) (hR : RD φ pi σ 0 0 Y idx) : ∃ τ Y' idx', f_X4_reduceRows N σ = some ((), τ) ∧ Sz φ τ (rk φ) ∧ RD φ pi τ (rk φ) (2 * nb φ) Y' idx' ∧ fr5 σ τ := by
  have hnb := w.2.1
  obtain ⟨τ, Y', idx', k1, k2, k3, k4⟩ := s_reduce1 w hN hpi (2 * nb φ) 0 0 N (sI σ 5 4 (nt 0)) Y idx (by omega) (by omega) ⟨by rw [gI_sI_k (by omega)]; exact h3, by rw [gI_sI_at]; rfl, by rw [gI_sI_k (by omega)]; exact h5, by rw [gI_sI_k (by omega)]; exact h6⟩ hR
  refine ⟨τ, Y', idx', ?_, k2, k3, fr5_tr ⟨fun c hc => sI_o hc, fun k hk => gI_sI_k hk .., fun _ _ => rfl⟩ k4⟩
  unfold f_X4_reduceRows
  rw [n_0, bd_eq]
  exact k1
end
