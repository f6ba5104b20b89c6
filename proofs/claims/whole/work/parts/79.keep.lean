-- ===== mechanisms, and how the class keeps one =====
noncomputable def Rq (φ : FR) (e : Nat) : Nat → Rat := fun j => (Rz φ e j : Rat)
theorem tw_q (φ : FR) (e : Nat) (x : Nat → Int) : dq (dd φ) (Rq φ e) (fun j => (x j : Rat)) = ((tw φ e x : Int) : Rat) := by
  unfold dq tw Rq
  rw [sZQ]
  exact sQ_congr (fun j _ => by rw [Rat.intCast_mul])
theorem q_0 {a : Int} : ((a : Int) : Rat) = 0 ↔ a = 0 := ⟨fun h => Rat.intCast_inj.mp (h.trans Rat.intCast_zero.symm), fun h => by rw [h]; rfl⟩
theorem tw_q0 (φ : FR) (e : Nat) (x : Nat → Int) : dq (dd φ) (Rq φ e) (fun j => (x j : Rat)) = 0 ↔ tw φ e x = 0 := by rw [tw_q, q_0]
abbrev ElF (φ : FR) (q : Nat → Rat) : Prop := El (2 * nb φ) (dd φ) (Rq φ) q
noncomputable def mq (φ : FR) (q : Nat → Rat) : Nat := mkd (sup (2 * nb φ) (dd φ) (Rq φ) q) 0 (2 * nb φ)
/-- the sets that are mechanisms -/
def IsM (φ : FR) (s : Nat) : Prop := ∃ q, ElF φ q ∧ s = mq φ q
theorem mq_bit (φ : FR) (q : Nat → Rat) {e : Nat} (he : e < 2 * nb φ) : (mq φ q).testBit e = true ↔ dq (dd φ) (Rq φ e) q ≠ 0 := by
  unfold mq
  rw [mkd_bit, Nat.zero_add, decide_eq_true he, Bool.true_and]
  exact sup_t (n := 2 * nb φ)
theorem mq_lt (φ : FR) (q : Nat → Rat) : mq φ q < 2 ^ (2 * nb φ) := mkd_lt _ _ _
section
variable {φ : FR} {pi : Nat → Nat}
theorem fu_end (w : WF φ) {Y : Nat → Nat} {l : Nat} (h : Y l < 2 * nb φ) : Mx φ Y l = Rz φ (Y l) := by
  have := w.2.1
  unfold Mx fu; rw [if_pos (by omega)]
theorem psi_x (w : WF φ) {Y : Nat → Nat} {l k : Nat} (hl : l < dd φ) (hk : k < dd φ) (h : Y l < 2 * nb φ) : tw φ (Y l) (xv φ Y k) = if l = k then Dt φ Y else 0 := by
  rw [tw_xv Y hk, ← fu_end w h]
  by_cases q : l = k
  · subst q; rw [if_pos rfl, up_self]; rfl
  · rw [if_neg q, dt_up_same (dd φ) (Mx φ Y) k l hk hl (fun w => q w.symm)]
theorem cr_tw (w : WF φ) {Y : Nat → Nat} (hY : ∀ l, l < dd φ → Y l < 2 * nb φ) (e : Nat) (q : Nat → Rat) : (Dt φ Y : Rat) * dq (dd φ) (Rq φ e) q = sQ (dd φ) (fun l => ((tw φ e (xv φ Y l) : Int) : Rat) * dq (dd φ) (Rq φ (Y l)) q) := by
  have h := dt_vecq (dd φ) (Mx φ Y) (Rz φ e) q
  rw [sQ_congr (n := dd φ) (g := fun l => ((tw φ e (xv φ Y l) : Int) : Rat) * dq (dd φ) (Rq φ (Y l)) q) (fun l hl => by rw [tw_xv Y hl, fu_end w (hY l hl)]; rfl)] at h
  exact h
theorem cr_co (w : WF φ) {Y : Nat → Nat} (hY : ∀ l, l < dd φ → Y l < 2 * nb φ) {j : Nat} (hj : j < dd φ) (q : Nat → Rat) : (Dt φ Y : Rat) * q j = sQ (dd φ) (fun l => (xv φ Y l j : Rat) * dq (dd φ) (Rq φ (Y l)) q) := by
  have h := dt_vecq (dd φ) (Mx φ Y) (un j) q
  have e1 : dq (dd φ) (fun i => (un j i : Rat)) q = q j := by
    unfold dq
    rw [sQ_one (k := j) hj (fun i _ hi => by dsimp only; rw [show un j i = 0 from if_neg hi, Rat.intCast_zero, Rat.zero_mul])]
    dsimp only
    rw [show un j j = 1 from if_pos rfl, Rat.intCast_one, Rat.one_mul]
  rw [e1, sQ_congr (n := dd φ) (g := fun l => (xv φ Y l j : Rat) * dq (dd φ) (Rq φ (Y l)) q) (fun l hl => by rw [fu_end w (hY l hl)]; rfl)] at h
  exact h
def AE (φ : FR) (Y : Nat → Nat) : Prop := (∀ l, l < dd φ → Y l < 2 * nb φ) ∧ Dt φ Y ≠ 0
/-- the motions of some rows -/
def inV (φ : FR) (Y jd : Nat → Nat) (m : Nat) (q : Nat → Rat) : Prop := ∀ l, l < dd φ → (∀ i, i < m → jd i ≠ l) → dq (dd φ) (Rq φ (Y l)) q = 0
theorem D_q {Y : Nat → Nat} (h : Dt φ Y ≠ 0) : (Dt φ Y : Rat) ≠ 0 := fun q => h (q_0.mp q)
theorem AE_NL (w : WF φ) {Y : Nat → Nat} (h : AE φ Y) : NL (2 * nb φ) (dd φ) (Rq φ) := by
  intro q hq j hj
  have h1 := cr_co w h.1 hj q
  rw [sQ_zero (fun l hl => by rw [hq (Y l) (h.1 l hl), Rat.mul_zero])] at h1
  exact (Rat.mul_eq_zero.mp h1).resolve_left (D_q h.2)
theorem x_inV (w : WF φ) {Y jd : Nat → Nat} {m i : Nat} (hY : AE φ Y) (hj : ∀ i, i < m → jd i < dd φ) (hi : i < m) : inV φ Y jd m (fun j => (xv φ Y (jd i) j : Rat)) := by
  intro l hl hn
  rw [tw_q0, psi_x w hl (hj i hi) (hY.1 l hl), if_neg (fun q => hn i hi q.symm)]
/-- a row's twist tells that of all its motions -/
theorem inV_z (w : WF φ) {Y jd : Nat → Nat} {m e : Nat} (hY : AE φ Y) (hz : ∀ i, i < m → tw φ e (xv φ Y (jd i)) = 0) {q : Nat → Rat} (hq : inV φ Y jd m q) : dq (dd φ) (Rq φ e) q = 0 := by
  have h1 := cr_tw w hY.1 e q
  rw [sQ_zero (fun l hl => by
    by_cases h : ∃ i, i < m ∧ jd i = l
    · obtain ⟨i, hi, rfl⟩ := h
      rw [hz i hi, Rat.intCast_zero, Rat.zero_mul]
    · rw [hq l hl (fun i hi q2 => h ⟨i, hi, q2⟩), Rat.mul_zero])] at h1
  exact (Rat.mul_eq_zero.mp h1).resolve_left (D_q hY.2)
/-- one row alone: its motion and its multiples -/
theorem inV_1 (w : WF φ) {Y jd : Nat → Nat} (hY : AE φ Y) (hj : jd 0 < dd φ) {q : Nat → Rat} (hq : inV φ Y jd 1 q) : ∃ l : Rat, ∀ j, j < dd φ → q j = l * (xv φ Y (jd 0) j : Rat) := by
  refine ⟨dq (dd φ) (Rq φ (Y (jd 0))) q * (Dt φ Y : Rat)⁻¹, fun j hj2 => ?_⟩
  have h1 := cr_co w hY.1 hj2 q
  rw [sQ_one (k := jd 0) hj (fun l hl hne => by rw [hq l hl (fun i hi q2 => by obtain rfl : i = 0 := by omega
                                                                               exact hne q2.symm), Rat.mul_zero])] at h1
  have h2 : (Dt φ Y : Rat) * (Dt φ Y : Rat)⁻¹ = 1 := Rat.mul_inv_cancel _ (D_q hY.2)
  generalize (Dt φ Y : Rat)⁻¹ = i at *
  generalize (Dt φ Y : Rat) = D at *
  have h3 : i * (D * q j) = (D * i) * q j := by grind
  rw [h2, h1] at h3
  grind
theorem mq_mul {q q' : Nat → Rat} {l : Rat} (hl : l ≠ 0) (h : ∀ j, j < dd φ → q' j = l * q j) : mq φ q' = mq φ q := by
  unfold mq
  refine mkd_congr _ _ (fun e _ _ => ?_)
  unfold sup
  have : dq (dd φ) (Rq φ e) q' = l * dq (dd φ) (Rq φ e) q := by
    rw [← dq_mul]; exact dq_congr (fun _ _ => rfl) h
  rw [this]
  by_cases q0 : dq (dd φ) (Rq φ e) q = 0
  · rw [q0, Rat.mul_zero]
  · have : l * dq (dd φ) (Rq φ e) q ≠ 0 := fun w => by
      rcases Rat.mul_eq_zero.mp w with h | h
      · exact hl h
      · exact q0 h
    rw [decide_eq_true this, decide_eq_true q0]
/-- what the class keeps of a mechanism -/
def MotR (φ : FR) (pi : Nat → Nat) (r : Nat → Int) (s : Nat) : Prop := gz (wd φ) r = 1 ∧ (∀ e, e < 2 * nb φ → (s.testBit e = true ↔ r e ≠ 0)) ∧ (lwb s < 2 * nb φ ∧ 0 < r (lwb s)) ∧ (∀ k, k < wd φ → (r k).natAbs ≤ 6291456) ∧ ∃ x : Nat → Int, ElF φ (fun j => (x j : Rat)) ∧ s = mq φ (fun j => (x j : Rat)) ∧ alg (wd φ) r (T12 φ pi x)
theorem dt_mech (w : WF φ) {Y : Nat → Nat} (hY : ∀ l, l < dd φ → Y l < 2 * nb φ) (hpi : ∀ g, g < ds φ → pi g < ds φ) {k k' : Nat} (hk : k < dd φ) (hk' : k' < wd φ) : (T12 φ pi (xv φ Y k) k').natAbs ≤ 6291456 := by
  have hYo : ∀ i, i < dd φ → okc φ (ds φ) (Y i) := fun i hi => Or.inl (hY i hi)
  by_cases h : k' < 2 * nb φ
  · rw [T_tw h, tw_xv Y hk, ← Mx_up w Y k h, Int.natAbs_mul]
    have h1 := dt_few w (okc_up (k := k) hYo (Or.inl h))
    have h2 := (len_12 w (b := k' / 2) (by omega)).2
    have h3 : (12 / lenB φ (k' / 2)).natAbs ≤ 12 := by omega
    calc (12 / lenB φ (k' / 2)).natAbs * _ ≤ 12 * 524288 := Nat.mul_le_mul h3 h1
      _ = 6291456 := by decide
  · unfold wd at hk'
    obtain ⟨g, rfl⟩ : ∃ g, k' = 2 * nb φ + g := ⟨k' - 2 * nb φ, by omega⟩
    have hg : g < ds φ := by omega
    have hd := ds_le (φ := φ)
    rw [T_sh w hg (by have := hpi g hg; omega), Int.natAbs_mul]
    unfold xv
    rw [← Mx_un]
    have h1 := dt_few w (okc_up (k := k) hYo (c := 12 + pi g) (Or.inr ⟨by omega, by have := hpi g hg; omega⟩))
    calc (12 : Int).natAbs * _ ≤ 12 * 524288 := Nat.mul_le_mul (by decide) h1
      _ = 6291456 := by decide
theorem lwb_ok {a : Nat} (ha : a ≠ 0) (h : a < 4096) : lwb a < 12 ∧ a.testBit (lwb a) = true ∧ ∀ k, k < lwb a → a.testBit k = false := by
  unfold lwb
  rw [if_neg ha]
  have hex : an (fun e => a.testBit e) 11 = true ∨ a.testBit 11 = true := by
    rw [← an_s (s := fun e => a.testBit e)]
    cases q : an (fun e => a.testBit e) 12 with
    | true => rfl
    | false =>
      exfalso
      apply ha
      apply Nat.eq_of_testBit_eq
      intro i
      rw [Nat.zero_testBit]
      by_cases hi : i < 12
      · cases q2 : a.testBit i with
        | false => rfl
        | true =>
          have : an (fun e => a.testBit e) 12 = true := an_iff.mpr ⟨i, hi, q2⟩
          rw [q] at this; cases this
      · exact Nat.testBit_lt_two_pow (Nat.lt_of_lt_of_le h (by
          have : (2 : Nat) ^ 12 ≤ 2 ^ i := Nat.pow_le_pow_right (by omega) (by omega)
          exact this))
  obtain ⟨h1, h2, h3⟩ := lst_ok (s := fun e => a.testBit e) 11 hex
  exact ⟨by omega, h1, h3⟩
end
section
variable {N : Nat} {σ : ZS} {φ : FR} {pi : Nat → Nat}
theorem s_keep (w : WF φ) (hN : 200 ≤ N) {a f0 : Nat} (ha : a < 78) (hf : f0 < 924) {r : Nat → Int} (h : Row σ (65 + a) (wd φ) r) (hb : ∀ k, k < wd φ → okJ (r k)) (h63 : gI σ 6 3 = nt (f0 : Nat)) (h5 : gI σ 5 5 = nt ((2 * nb φ : Nat) : Int)) (h6 : gI σ 5 6 = nt ((ds φ : Nat) : Int)) : ∃ τ, f_X3_keep N (65 + a) σ = some ((), τ) ∧ gI τ 59 f0 = nt ((mkd (fun e => decide (r e ≠ 0)) 0 (2 * nb φ) : Nat) : Int) ∧ gI τ 6 3 = nt ((f0 + 1 : Nat) : Int) ∧ Row τ (143 + f0) (wd φ) (fun k => if lwb (mkd (fun e => decide (r e ≠ 0)) 0 (2 * nb φ)) < 2 * nb φ ∧ r (lwb (mkd (fun e => decide (r e ≠ 0)) 0 (2 * nb φ))) < 0 then - r k else r k) ∧ (∀ c, c ≠ 59 → c ≠ 6 → τ.1 c = σ.1 c) ∧ (∀ k, k ≠ f0 → gI τ 59 k = gI σ 59 k) ∧ (∀ k, k ≠ 3 → gI τ 6 k = gI σ 6 k) ∧ ∀ c, c ≠ 143 + f0 → τ.2 c = σ.2 c := by
  have hw2 := w.2.1
  have h26 := wd_le w
  unfold f_X3_keep
  rw [h63, n_924, lt_t (by omega) (by omega) (by omega), h5, n_1, nt_sub, bd_eq, n_0]
  have key : ∀ (e n : Nat), e ≤ 2 * nb φ → e + 1 ≤ n → f_X3_keep_h23 N (65 + a) n (nt ((mkd (fun e => decide (r e ≠ 0)) e (2 * nb φ - e) : Nat) : Int)) (nt ((e : Nat) - 1)) σ = f_X3_keep_h23 N (65 + a) (n - e) (nt ((mkd (fun e => decide (r e ≠ 0)) 0 (2 * nb φ) : Nat) : Int)) (nt (-1)) σ := by
    intro e
    induction e with
    | zero => intro n _ _; rfl
    | succ e ih =>
      intro n he hn
      obtain ⟨n, rfl⟩ : ∃ m, n = m + 1 := ⟨n - 1, by omega⟩
      have hew : e < wd φ := by unfold wd; omega
      obtain ⟨b1, b2⟩ := hb e hew
      have hlt := mkd_lt (fun e => decide (r e ≠ 0)) (2 * nb φ - (e + 1)) (e + 1)
      have hlt2 : (2 : Nat) ^ (2 * nb φ - (e + 1)) ≤ 2 ^ 12 := Nat.pow_le_pow_right (by omega) (by omega)
      have h4096 : (2 : Nat) ^ 12 = 4096 := by decide
      have hs : mkd (fun e => decide (r e ≠ 0)) e (2 * nb φ - e) = (if r e ≠ 0 then 1 else 0) + 2 * mkd (fun e => decide (r e ≠ 0)) (e + 1) (2 * nb φ - (e + 1)) := by
        rw [show 2 * nb φ - e = (2 * nb φ - (e + 1)) + 1 by omega]
        show (if decide (r e ≠ 0) = true then 1 else 0) + 2 * mkd _ (e + 1) _ = _
        by_cases q : r e ≠ 0
        · rw [if_pos (decide_eq_true q), if_pos q]
        · rw [if_neg (fun w => q (of_decide_eq_true w)), if_neg q]
      generalize hM : mkd (fun e => decide (r e ≠ 0)) (e + 1) (2 * nb φ - (e + 1)) = M at *
      have hor : ∀ b : Nat, b < 2 → nt ((2 * M : Nat) : Int) ||| nt (b : Nat) = nt ((b + 2 * M : Nat) : Int) := fun b hb => by
        rw [nt_or]
        congr 2
        have := Nat.two_pow_add_eq_or_of_lt (i := 1) (b := b) (by omega) M
        rw [show 2 ^ 1 * M = 2 * M by omega] at this
        omega
      have hb43 : ∀ b : Nat, b < 2 → f_X3_keep_b43 N (fun x2_ x3_ σ_ => f_X3_keep_h23 N (65 + a) n x2_ x3_ σ_) (65 + a) (nt (e : Nat)) (nt ((2 * M : Nat) : Int)) (nt (b : Nat)) σ = f_X3_keep_h23 N (65 + a) n (nt ((b + 2 * M : Nat) : Int)) (nt ((e : Nat) - 1)) σ := fun b hb => by
        rw [f_X3_keep_b43, hor b hb, bd_eq, n_m1, nt_add, bd_eq]; rfl
      have i1 := ih n (by omega) (by omega)
      rw [hs] at i1
      rw [f_X3_keep_h23, show ((e + 1 : Nat) : Int) - 1 = (e : Nat) by omega, n_0, lt_f (by omega) (by omega) (by omega), ck_tg (tg_rows ha), ln_rows ha, ck_inb (by omega) (by omega) (by omega), nat_k (by omega), h e hew, nt_shl1, j_0, show n + 1 - (e + 1) = n - e by omega, ← i1]
      by_cases q : r e = 0
      · rw [jeq_t q, if_neg (by simpa using q)]
        exact hb43 0 (by omega)
      · rw [jeq_f q (by omega) (by omega) (by omega) (by omega), if_pos q]
        exact hb43 1 (by omega)
  have k0 := key (2 * nb φ) N (Nat.le_refl _) (by omega)
  rw [Nat.sub_self] at k0
  have k0 : f_X3_keep_h23 N (65 + a) N (nt 0) (nt ((2 * nb φ : Nat) - 1)) σ = _ := k0
  rw [k0]
  obtain ⟨S, hS⟩ : ∃ S, S = mkd (fun e => decide (r e ≠ 0)) 0 (2 * nb φ) := ⟨_, rfl⟩
  rw [← hS]
  have hS4 : S < 4096 := by
    have h1 := mkd_lt (fun e => decide (r e ≠ 0)) (2 * nb φ) 0
    have h2 : (2 : Nat) ^ (2 * nb φ) ≤ 2 ^ 12 := Nat.pow_le_pow_right (by omega) (by omega)
    have h3 : (2 : Nat) ^ 12 = 4096 := by decide
    omega
  obtain ⟨n, en⟩ : ∃ n, N - 2 * nb φ = n + 1 := ⟨N - 2 * nb φ - 1, by omega⟩
  rw [en, f_X3_keep_h23, n_0, lt_t (by omega) (by omega) (by omega), s_ntz N hS4, obd_some, h5]
  have hL33 : lwb S ≤ 32 := by
    by_cases q : S = 0
    · rw [q]; decide
    · have := (lwb_ok q hS4).1; omega
  have hwd : f_X4_width N σ = some (nt (wd φ : Nat), σ) := s_width h5 h6 rfl
  -- what is written
  have hb80 : ∀ (t : Int), (t = 0 ∨ t = 1) → ∃ τ, f_X3_keep_b80 N (65 + a) (nt (S : Nat)) (nt t) σ = some ((), τ) ∧ gI τ 59 f0 = nt ((S : Nat) : Int) ∧ gI τ 6 3 = nt ((f0 + 1 : Nat) : Int) ∧ Row τ (143 + f0) (wd φ) (fun k => if t = 1 then - r k else r k) ∧ (∀ c, c ≠ 59 → c ≠ 6 → τ.1 c = σ.1 c) ∧ (∀ k, k ≠ f0 → gI τ 59 k = gI σ 59 k) ∧ (∀ k, k ≠ 3 → gI τ 6 k = gI σ 6 k) ∧ ∀ c, c ≠ 143 + f0 → τ.2 c = σ.2 c := by
    intro t ht
    unfold f_X3_keep_b80
    rw [h63, ck_inb (by omega) (by omega) (by omega), nat_k (by omega), bd_eq, hwd, obd_some]
    have key2 := lp_go (fun n k (s : ZS) => f_X3_keep_h105 N (65 + a) (nt (S : Nat)) (nt t) (143 + f0) (nt (wd φ : Nat)) n (nt (k : Nat)) s) (fun k => wJ σ (143 + f0) k (fun k => jl (if t = 1 then - r k else r k))) (wd φ) (fun n k hk => by
      have g1 : gJ (wJ σ (143 + f0) k (fun k => jl (if t = 1 then - r k else r k))) (65 + a) k = jl (r k) := by rw [gJ_wJ_c (by omega)]; exact h k hk
      have hb133 : ∀ (y : Int64) (s : ZS), f_X3_keep_b133 N (fun x7_ σ_ => f_X3_keep_h105 N (65 + a) (nt (S : Nat)) (nt t) (143 + f0) (nt (wd φ : Nat)) n x7_ σ_) (65 + a) (nt (S : Nat)) (nt t) (143 + f0) (nt (wd φ : Nat)) (nt (k : Nat)) (143 + f0) (nt (k : Nat)) y s = f_X3_keep_h105 N (65 + a) (nt (S : Nat)) (nt t) (143 + f0) (nt (wd φ : Nat)) n (nt ((k + 1 : Nat) : Int)) (sJ s (143 + f0) k y) := fun y s => by
        rw [f_X3_keep_b133, ck_tg (tg_mot hf), ln_mot hf, ck_inb (by omega) (by omega) (by omega), nat_k (by omega), bd_eq, n_1, nt_add, bd_eq]; rfl
      rw [f_X3_keep_h105, le_f (by omega) (by omega) (by omega), ck_tg (tg_rows ha), ln_rows ha, ck_inb (by omega) (by omega) (by omega), nat_k (by omega), g1, jl_neg, hb133, hb133, n_0, ← wJ_s σ (143 + f0) k (fun k => jl (if t = 1 then - r k else r k))]
      rcases ht with rfl | rfl
      · rw [eq_t rfl, if_neg (show ¬ (0 : Int) = 1 by omega)]
      · rw [eq_f (by omega) (by omega) (by omega) (by omega) (by omega), if_pos (show (1 : Int) = 1 from rfl), ck_tg (tg_rows ha), ck_inb (by omega) (by omega) (by omega)]) (wd φ) 0 N (by omega) (by omega)
    have key2 : f_X3_keep_h105 N (65 + a) (nt (S : Nat)) (nt t) (143 + f0) (nt (wd φ : Nat)) N (0 : Int32) (wJ σ (143 + f0) 0 (fun k => jl (if t = 1 then - r k else r k))) = f_X3_keep_h105 N (65 + a) (nt (S : Nat)) (nt t) (143 + f0) (nt (wd φ : Nat)) (N - wd φ) (nt (wd φ : Nat)) (wJ σ (143 + f0) (wd φ) (fun k => jl (if t = 1 then - r k else r k))) := key2
    rw [wJ_0] at key2
    obtain ⟨n2, en2⟩ : ∃ n, N - wd φ = n + 1 := ⟨N - wd φ - 1, by omega⟩
    have g63 : gI (wJ σ (143 + f0) (wd φ) (fun k => jl (if t = 1 then - r k else r k))) 6 3 = nt (f0 : Nat) := h63
    refine ⟨sI (sI (wJ σ (143 + f0) (wd φ) (fun k => jl (if t = 1 then - r k else r k))) 59 f0 (nt (S : Nat))) 6 3 (nt ((f0 : Nat) + 1)), ?_, ?_, ?_, ?_, fun c c1 c2 => ?_, fun k hk => ?_, fun k hk => ?_, fun c hc => ?_⟩
    · rw [key2, en2, f_X3_keep_h105, le_t (by omega) (by omega) (by omega), g63, ck_inb (by omega) (by omega) (by omega), nat_k (by omega), bd_eq, gI_sI_c (by omega), g63, n_1, nt_add, bd_eq, bd_eq]
    · rw [gI_sI_c (by omega), gI_sI_at]
    · rw [gI_sI_at]; rfl
    · exact Row_o Row_wJ rfl
    · rw [sI_o c2, sI_o c1]; rfl
    · rw [gI_sI_c (by omega), gI_sI_k hk]; rfl
    · rw [gI_sI_k hk, gI_sI_c (by omega)]; rfl
    · show (wJ σ (143 + f0) (wd φ) _).2 c = _
      rw [wJ_o hc]
  by_cases q1 : lwb S < 2 * nb φ
  · have hlw : lwb S < wd φ := by unfold wd; omega
    obtain ⟨b1, b2⟩ := hb (lwb S) hlw
    rw [le_f (by omega) (by omega) (by omega), ck_tg (tg_rows ha), ln_rows ha, ck_inb (by omega) (by omega) (by omega), nat_k (by omega), h _ hlw, j_0]
    by_cases q2 : r (lwb S) < 0
    · rw [jlt_t q2 (by omega) (by omega)]
      obtain ⟨τ, e1, e2, e3, e4, e5⟩ := hb80 1 (Or.inr rfl)
      exact ⟨τ, e1, e2, e3, fun k hk => by
        have := e4 k hk
        dsimp only at this ⊢
        rw [if_pos (show (1 : Int) = 1 from rfl)] at this
        rw [if_pos ⟨q1, q2⟩]; exact this, e5⟩
    · rw [jlt_f (by omega) (by omega) (by omega)]
      obtain ⟨τ, e1, e2, e3, e4, e5⟩ := hb80 0 (Or.inl rfl)
      exact ⟨τ, e1, e2, e3, fun k hk => by
        have := e4 k hk
        dsimp only at this ⊢
        rw [if_neg (show ¬ (0 : Int) = 1 by omega)] at this
        rw [if_neg (fun w => q2 w.2)]; exact this, e5⟩
  · rw [le_t (by omega) (by omega) (by omega)]
    obtain ⟨τ, e1, e2, e3, e4, e5⟩ := hb80 0 (Or.inl rfl)
    exact ⟨τ, e1, e2, e3, fun k hk => by
        have := e4 k hk
        dsimp only at this ⊢
        rw [if_neg (show ¬ (0 : Int) = 1 by omega)] at this
        rw [if_neg (fun w => q1 w.1)]; exact this, e5⟩
end
