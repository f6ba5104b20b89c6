-- ===== the class: yielding ends, spare and weakest =====
def Yi (φ : FR) (c : Nat) (f : Rat) (e : Nat) : Prop := (∀ m, MoS φ c f e m → m = (φ.1 5 (e / 2) : Rat)) ∨ ∀ m, MoS φ c f e m → m = -(φ.1 5 (e / 2) : Rat)
noncomputable def yib (φ : FR) (c : Nat) (f : Rat) (e : Nat) : Bool := @decide (Yi φ c f e) (Classical.propDecidable _)
theorem yib_t {φ : FR} {c : Nat} {f : Rat} {e : Nat} : yib φ c f e = true ↔ Yi φ c f e := by unfold yib; exact @decide_eq_true_iff _ (Classical.propDecidable _)
/-- the greatest factor -/
def IsG (φ : FR) (c : Nat) (S : Nat → Int) (x : Rat) : Prop := FS φ c S x ∧ ∀ f, FS φ c S f → f ≤ x
/-- with so much less strength it stays -/
def Spr (φ : FR) (c b : Nat) (n : Int) : Prop := ∃ x, FS φ c (Sx φ b (-n)) x ∧ ∀ f, FS φ c (φ.1 5) f → f ≤ x
/-- the greatest number up to one for which something holds, or 0 -/
def mxn (p : Nat → Prop) (n : Nat) (r : Nat) : Prop := (r = 0 ∨ p r) ∧ r ≤ n ∧ ∀ k, r < k → k ≤ n → ¬ p k
theorem q_mul_lt {a b c d : Int} (hb : 0 < b) (hd : 0 < d) : a * d < c * b ↔ (a : Rat) * (b : Rat)⁻¹ < (c : Rat) * (d : Rat)⁻¹ := by
  have hbq := q_pos.mpr hb
  have hdq := q_pos.mpr hd
  have ib : (b : Rat) * (b : Rat)⁻¹ = 1 := Rat.mul_inv_cancel _ (fun w => by rw [w] at hbq; grind)
  have id' : (d : Rat) * (d : Rat)⁻¹ = 1 := Rat.mul_inv_cancel _ (fun w => by rw [w] at hdq; grind)
  have pb := Rat.inv_pos.mpr hbq
  have pd := Rat.inv_pos.mpr hdq
  rw [← Rat.intCast_lt_intCast, Rat.intCast_mul, Rat.intCast_mul]
  generalize (b : Rat)⁻¹ = i at *
  generalize (d : Rat)⁻¹ = j at *
  generalize (a : Rat) = A
  generalize (c : Rat) = C
  generalize (b : Rat) = B at *
  generalize (d : Rat) = D at *
  constructor
  · intro h
    have h1 := Rat.mul_lt_mul_of_pos_right h (Rat.mul_pos pb pd)
    have e1 : A * D * (i * j) = A * i * (D * j) := by grind
    have e2 : C * B * (i * j) = C * j * (B * i) := by grind
    rw [e1, e2, ib, id', Rat.mul_one, Rat.mul_one] at h1
    exact h1
  · intro h
    have h1 := Rat.mul_lt_mul_of_pos_right h (Rat.mul_pos hbq hdq)
    have e1 : A * i * (B * D) = A * D * (B * i) := by grind
    have e2 : C * j * (B * D) = C * B * (D * j) := by grind
    rw [e1, e2, ib, id', Rat.mul_one, Rat.mul_one] at h1
    exact h1
theorem q_quo {g h : Int} (hh : 0 < h) (f : Rat) : f * (h : Rat) ≤ (g : Rat) ↔ f ≤ (g : Rat) * (h : Rat)⁻¹ := by
  have hhq := q_pos.mpr hh
  have ih : (h : Rat) * (h : Rat)⁻¹ = 1 := Rat.mul_inv_cancel _ (fun w => by rw [w] at hhq; grind)
  have ph := Rat.inv_pos.mpr hhq
  generalize (h : Rat)⁻¹ = i at *
  generalize (h : Rat) = H at *
  constructor
  · intro h
    have h1 := Rat.mul_le_mul_of_nonneg_right h (Rat.le_of_lt ph)
    rw [Rat.mul_assoc, ih, Rat.mul_one] at h1
    exact h1
  · intro h
    have h1 := Rat.mul_le_mul_of_nonneg_right h (Rat.le_of_lt hhq)
    rw [Rat.mul_assoc, Rat.mul_comm i H, ih, Rat.mul_one] at h1
    exact h1
theorem q_quo2 {l k : Int} (hk : 0 < k) (f : Rat) : (l : Rat) ≤ f * (k : Rat) ↔ (l : Rat) * (k : Rat)⁻¹ ≤ f := by
  have hkq := q_pos.mpr hk
  have ik : (k : Rat) * (k : Rat)⁻¹ = 1 := Rat.mul_inv_cancel _ (fun w => by rw [w] at hkq; grind)
  have pk := Rat.inv_pos.mpr hkq
  generalize (k : Rat)⁻¹ = i at *
  generalize (k : Rat) = H at *
  constructor
  · intro h
    have h1 := Rat.mul_le_mul_of_nonneg_right h (Rat.le_of_lt pk)
    rw [Rat.mul_assoc, ik, Rat.mul_one] at h1
    exact h1
  · intro h
    have h1 := Rat.mul_le_mul_of_nonneg_right h (Rat.le_of_lt hkq)
    rw [Rat.mul_assoc, Rat.mul_comm i H, ik, Rat.mul_one] at h1
    exact h1
section
variable {N : Nat} {φ : FR} {pi : Nat → Nat}
theorem Lim_G {c : Nat} {S : Nat → Int} {g h l k : Int} (hL : Lim φ c S g h l k) : IsG φ c S ((g : Rat) * (h : Rat)⁻¹) ∧ FS φ c S ((l : Rat) * (k : Rat)⁻¹) ∧ ∀ f, FS φ c S f → (l : Rat) * (k : Rat)⁻¹ ≤ f := by
  obtain ⟨h1, h2, h3, h4⟩ := hL
  have h5 : (l : Rat) * (k : Rat)⁻¹ ≤ (g : Rat) * (h : Rat)⁻¹ := by
    have := (q_mul_lt (a := g) (b := h) (c := l) (d := k) h1 h2)
    have h6 : ¬ g * k < l * h := by omega
    rw [this] at h6
    grind
  refine ⟨⟨(h3 _).mpr ⟨(q_quo h1 _).mpr Rat.le_refl, (q_quo2 h2 _).mpr h5⟩, fun f hf => (q_quo h1 f).mp ((h3 f).mp hf).1⟩, (h3 _).mpr ⟨(q_quo h1 _).mpr h5, (q_quo2 h2 _).mpr Rat.le_refl⟩, fun f hf => (q_quo2 h2 f).mp ((h3 f).mp hf).2⟩
theorem IsG_u {c : Nat} {S : Nat → Int} {x y : Rat} (h : IsG φ c S x) (h2 : IsG φ c S y) : x = y := by
  have a := h.2 y h2.1
  have b := h2.2 x h.1
  grind
theorem FS_mono (w : WF φ) {c : Nat} {S T : Nat → Int} (h : ∀ b, b < nb φ → S b ≤ T b) {f : Rat} (hf : FS φ c S f) : FS φ c T f := fun q hq => by
  have h1 := hf q hq
  have h2 : stn (dd φ) (Rq φ) (cS φ S) (2 * nb φ) q ≤ stn (dd φ) (Rq φ) (cS φ T) (2 * nb φ) q := by
    unfold stn
    refine sQ_le (fun e he => ?_)
    have hl := len_rg w (b := e / 2) (by omega)
    refine Rat.mul_le_mul_of_nonneg_right ?_ (ab_nn _)
    unfold cS
    refine Rat.mul_le_mul_of_nonneg_right (q_le.mpr (h (e / 2) (by omega))) (Rat.le_of_lt (Rat.inv_pos.mpr (q_pos.mpr (by omega))))
  grind
theorem Sx_0 (b : Nat) : Sx φ b 0 = φ.1 5 := by
  funext k; unfold Sx; split <;> omega
theorem s_isSame (hN : 200 ≤ N) {σ : ZS} {x y : Nat} (hx : isc x 1 = true) (hy : isc y 1 = true) {a b c d : Int} (h1 : Fq σ x a b) (h2 : Fq σ y c d) (ha : okJ a) (hb : okJ b) (hc : okJ c) (hd : okJ d) (hbp : 0 < b) (hdp : 0 < d) : f_X1_isSame N x y σ = some (nt (if a * d = c * b then 1 else 0), σ) := by
  unfold f_X1_isSame
  rw [ck_of hx, s_isBelow hN hx hy h1 h2 ha hb hc hd hbp hdp, obd_some, br_p]
  by_cases q : a * d < c * b
  · rw [if_pos q, if_neg (by omega)]; rfl
  · rw [if_neg q, ck_of hy, s_isBelow hN hy hx h2 h1 hc hd ha hb hdp hbp, obd_some, br_p]
    by_cases q2 : c * b < a * d
    · rw [if_pos q2, if_neg (by omega)]; rfl
    · rw [if_neg q2, if_pos (by omega)]; rfl
theorem s_isWhole {σ : ZS} {x : Nat} (hx : isc x 1 = true) {a b s : Int} (h : Fq σ x a b) (ha : okJ a) (hs : s.natAbs ≤ 12) (hb : 0 < b ∧ b ≤ 2770827000000000) : f_X1_isWhole N x (nt s) σ = some (nt (if a = s * b then 1 else 0), σ) := by
  obtain ⟨a1, a2⟩ := ha
  have m := mul_bd hs (b := b) (B := 2770827000000000) (by omega)
  unfold f_X1_isWhole
  rw [ck_of hx, ck_of hx, h.1, h.2, long_nt (by omega) (by omega), jl_mul]
  by_cases e : a = s * b
  · rw [jeq_t e, if_pos e]; rfl
  · rw [jeq_f e (by omega) (by omega) (by omega) (by omega), if_neg e]; rfl
theorem s_yieldingEnds (w : WF φ) (hN : 1200 ≤ N) {σ : ZS} {L : List Nat} (hM : CMe φ pi σ L) (hB : CBl φ pi σ L) {c : Nat} (hc : c < 3) {u v : Int} (hl : LmL σ c u v) (hne : ∀ e, e < 2 * nb φ → ∃ m, MoS φ c ((u : Rat) * (v : Rat)⁻¹) e m) : ∃ τ, f_X0_yieldingEnds N σ = some (nt (mkd (yib φ c ((u : Rat) * (v : Rat)⁻¹)) 0 (2 * nb φ) : Nat), τ) ∧ fr9 σ τ := by
  have hw2 := w.2.1
  obtain ⟨Y, hY⟩ : ∃ Y, Y = yib φ c ((u : Rat) * (v : Rat)⁻¹) := ⟨_, rfl⟩
  rw [← hY]
  have gb : ∀ s, fr9 σ s → gI s 7 2 = nt ((nb φ : Nat) : Int) := fun s hf => by unfold gI; rw [hf.1]; exact hB.1
  obtain ⟨s, es, hI⟩ := lp_inv (fun n t (s : ZS) => f_X0_yieldingEnds_h4 N n (nt (mkd Y 0 t : Nat)) (nt (t : Nat)) s) (fun _ s => fr9 σ s) (2 * nb φ) (fun n e s he hf => by
    have he : e < 2 * nb φ := he
    have hM2 := CMe_fr7 hM (fr9_7 hf)
    have hB2 := CBl_fr7 hB (fr9_7 hf)
    obtain ⟨τ, g, h, l, k, e1, e2, e3, e4, e5, e6, e7, e8, e9, e10, e11⟩ := s_findMoments w hN hM2 hB2 hc (LmL_9 hl hf) he
    have hst := (w.2.2.2.1 (e / 2) (by omega)).2.2.2.2
    have hdiv : ((e : Nat) : Int).tdiv 2 = ((e / 2 : Nat) : Int) := by
      rw [Int.tdiv_eq_ediv_of_nonneg (by omega)]; omega
    have g60 : gI τ 60 (e / 2) = nt (φ.1 5 (e / 2)) := by unfold gI; rw [e2.1]; exact hB2.2.1 (e / 2) (by omega)
    obtain ⟨S, hS⟩ : ∃ S, S = φ.1 5 (e / 2) := ⟨_, rfl⟩
    rw [← hS] at g60 hst
    obtain ⟨m0, hm0⟩ := hne e he
    have hm1 := (e11 m0).mp hm0
    -- what the marks say
    have hlk : (l : Rat) * (k : Rat)⁻¹ ≤ (g : Rat) * (h : Rat)⁻¹ := by
      have a := (q_quo e5 m0).mp hm1.1
      have b := (q_quo2 e6 m0).mp hm1.2
      grind
    have hk : ∀ {k : Int}, 0 < k → (k : Rat) * (k : Rat)⁻¹ = 1 := fun {k} hk => Rat.mul_inv_cancel _ (fun w => by have := q_0.mp w; omega)
    have hyi : Yi φ c ((u : Rat) * (v : Rat)⁻¹) e ↔ l = S * k ∨ g = -S * h := by
      constructor
      · rintro (h1 | h1)
        · left
          have h2 := h1 ((l : Rat) * (k : Rat)⁻¹) ((e11 _).mpr ⟨(q_quo e5 _).mpr hlk, (q_quo2 e6 _).mpr Rat.le_refl⟩)
          rw [← hS] at h2
          rw [← Rat.intCast_inj, Rat.intCast_mul, ← h2, Rat.mul_assoc, Rat.mul_comm _ (k : Rat), hk e6, Rat.mul_one]
        · right
          have h2 := h1 ((g : Rat) * (h : Rat)⁻¹) ((e11 _).mpr ⟨(q_quo e5 _).mpr Rat.le_refl, (q_quo2 e6 _).mpr hlk⟩)
          rw [← hS] at h2
          rw [← Rat.intCast_inj, Rat.intCast_mul, Rat.intCast_neg, ← h2, Rat.mul_assoc, Rat.mul_comm _ (h : Rat), hk e5, Rat.mul_one]
      · rintro (h1 | h1)
        · left
          intro m hm
          have a := (q_quo2 e6 m).mp ((e11 m).mp hm).2
          have b := ab_iff.mp hm.1
          rw [h1, Rat.intCast_mul, Rat.mul_assoc, hk e6, Rat.mul_one] at a
          rw [← hS] at b ⊢
          grind
        · right
          intro m hm
          have a := (q_quo e5 m).mp ((e11 m).mp hm).1
          have b := ab_iff.mp hm.1
          rw [h1, Rat.intCast_mul, Rat.intCast_neg, Rat.mul_assoc, hk e5, Rat.mul_one] at a
          rw [← hS] at b ⊢
          grind
    refine ⟨τ, ?_, fr9_tr hf e2⟩
    have hb57 : ∀ x : Nat, f_X0_yieldingEnds_b57 N (fun x1_ x2_ σ_ => f_X0_yieldingEnds_h4 N n x1_ x2_ σ_) (nt (x : Nat)) (nt (e : Nat)) τ = f_X0_yieldingEnds_h4 N n (nt (x : Nat)) (nt ((e + 1 : Nat) : Int)) τ := fun x => by
      rw [f_X0_yieldingEnds_b57, n_1, nt_add, bd_eq]; rfl
    have hor : mkd Y 0 e ||| 2 ^ e = mkd Y 0 (e + 1) ∨ Y e = false := by
      by_cases a : Y e = true
      · left
        refine Nat.eq_of_testBit_eq (fun i => ?_)
        rw [Nat.testBit_or, mkd_bit, mkd_bit, Nat.testBit_two_pow, Nat.zero_add]
        by_cases b : i = e
        · subst b; simp [a]
        · by_cases d : i < e
          · simp [d, show i < e + 1 by omega, show ¬ e = i by omega]
          · simp [d, show ¬ i < e + 1 by omega, show ¬ e = i by omega]
      · right; simpa using a
    have hsame : Y e = false → mkd Y 0 e = mkd Y 0 (e + 1) := fun a => by
      refine Nat.eq_of_testBit_eq (fun i => ?_)
      rw [mkd_bit, mkd_bit, Nat.zero_add]
      by_cases b : i = e
      · subst b; simp [a]
      · by_cases d : i < e
        · simp [d, show i < e + 1 by omega]
        · simp [d, show ¬ i < e + 1 by omega]
    have hb51 : Y e = true → f_X0_yieldingEnds_b51 N (fun x1_ x2_ σ_ => f_X0_yieldingEnds_h4 N n x1_ x2_ σ_) (nt (mkd Y 0 e : Nat)) (nt (e : Nat)) τ = f_X0_yieldingEnds_h4 N n (nt (mkd Y 0 (e + 1) : Nat)) (nt ((e + 1 : Nat) : Int)) τ := fun a => by
      rw [f_X0_yieldingEnds_b51, n_1, nt_pow (by omega), nt_or, bd_eq, hb57]
      rcases hor with b | b
      · rw [b]
      · rw [a] at b; cases b
    rw [f_X0_yieldingEnds_h4, gb s hf, n_2, nt_mul, le_f (by omega) (by omega) (by omega), e1, obd_some, nt_div ⟨by omega, by omega⟩ ⟨by omega, by omega⟩, hdiv, ck_inb (by omega) (by omega) (by omega), nat_k (by omega), g60, bd_eq, s_isWhole (isc_f ⟨by omega, by omega⟩) e4 ⟨by omega, by omega⟩ (by omega) ⟨e6, e10⟩, obd_some, br_p, nt_neg, s_isWhole (isc_f ⟨by omega, by omega⟩) e3 ⟨by omega, by omega⟩ (by omega) ⟨e5, e9⟩, obd_some, br_p]
    by_cases c1 : l = S * k
    · rw [if_pos c1]
      exact hb51 (by rw [hY]; exact yib_t.mpr (hyi.mpr (Or.inl c1)))
    · rw [if_neg c1]
      by_cases c2 : g = -S * h
      · rw [if_pos c2]
        exact hb51 (by rw [hY]; exact yib_t.mpr (hyi.mpr (Or.inr c2)))
      · rw [if_neg c2, hb57]
        have hf : Y e = false := by
          rw [hY]
          cases hh : yib φ c ((u : Rat) * (v : Rat)⁻¹) e with
          | false => rfl
          | true =>
            rcases hyi.mp (yib_t.mp hh) with h | h
            · exact absurd h c1
            · exact absurd h c2
        rw [hsame hf]) (2 * nb φ) 0 N σ (by omega) (by omega) (fr9_rf σ)
  obtain ⟨m, em⟩ : ∃ m, N - 2 * nb φ = m + 1 := ⟨N - 2 * nb φ - 1, by omega⟩
  have es : f_X0_yieldingEnds_h4 N N (0 : Int32) (0 : Int32) σ = f_X0_yieldingEnds_h4 N (N - 2 * nb φ) (nt (mkd Y 0 (2 * nb φ) : Nat)) (nt (2 * nb φ : Nat)) s := es
  refine ⟨s, ?_, hI⟩
  unfold f_X0_yieldingEnds
  rw [es, em, f_X0_yieldingEnds_h4, gb s hI, n_2, nt_mul, le_t (by omega) (by omega) (by omega)]
end
