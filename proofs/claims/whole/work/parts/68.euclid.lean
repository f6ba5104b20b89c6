-- ===== common divisors, lowest terms, comparisons: both sides =====
theorem fb_93 : (fb 93).1 = 12200160415121876738 := by decide +kernel
theorem s_gcd {N : Nat} (hN : 200 ≤ N) {a b : Int} (ha : -9223372036854775807 ≤ a ∧ a ≤ 9223372036854775807) (hb : -9223372036854775807 ≤ b ∧ b ≤ 9223372036854775807) (σ : ZS) : f_X5_gcd N (jl a) (jl b) σ = some (jl (Int.gcd a b), σ) := by
  unfold f_X5_gcd
  have e1 : (if a < 0 then -a else a) = (a.natAbs : Int) := by split <;> omega
  have e2 : (if b < 0 then -b else b) = (b.natAbs : Int) := by split <;> omega
  rw [s_ABS N a ⟨by omega, by omega⟩, obd_some, s_ABS N b ⟨by omega, by omega⟩, obd_some, e1, e2]
  have hg : Int.gcd a b = Nat.gcd a.natAbs b.natAbs := rfl
  rw [hg]
  have hA : a.natAbs < 2 ^ 63 := by omega
  have hB : b.natAbs < 2 ^ 63 := by omega
  generalize a.natAbs = A at *
  generalize b.natAbs = B at *
  by_cases h : B < A
  · exact s_gcdl N 91 N 0 A B σ h hA (Or.inl (by rw [fb_93]; omega)) (by omega) (by omega)
  · obtain ⟨n, rfl⟩ : ∃ n, N = n + 1 := ⟨N - 1, by omega⟩
    rw [f_X5_gcd_h15, n_100, n_0, le_f (by omega) (by omega) (by omega), j_0]
    by_cases h0 : B = 0
    · subst h0
      obtain rfl : A = 0 := by omega
      rw [jeq_t (by rfl)]; rfl
    · rw [jeq_f (by omega) (by omega) (by omega) (by omega) (by omega), ← j_0, ck_j0 (by omega) (by omega) (by omega), bd_eq, bd_eq, jl_rem ⟨by omega, by omega⟩ ⟨by omega, by omega⟩, n_1, nt_add, ← Int.ofNat_tmod]
      have hr : A % B < B := Nat.mod_lt _ (by omega)
      have := s_gcdl (n + 1) 91 n 1 B (A % B) σ hr hB (Or.inl (by rw [fb_93]; omega)) (by omega) (by omega)
      rw [gcd_step] at this
      exact this
/-- the reference's loop of Euclid -/
theorem m_comml (N : Nat) : ∀ (k n i a b : Nat) (σ : ZS), b < a → a < 2 ^ 63 → (a < (fb (k + 2)).1 ∨ b < (fb (k + 1)).1) → k + i ≤ 199 → k + 1 ≤ n → f_X6_common_h31 N n (jl a) (jl b) (nt i) σ = some (jl (Nat.gcd a b), σ) := by
  intro k
  induction k with
  | zero =>
    intro n i a b σ hab ha hf hi hn
    have hb : b = 0 := by
      rcases hf with h | h
      · have h : a < 1 := h
        omega
      · have h : b < 1 := h
        omega
    subst hb
    obtain ⟨n, rfl⟩ : ∃ m, n = m + 1 := ⟨n - 1, by omega⟩
    rw [f_X6_common_h31, n_200, le_f (by omega) (by omega) (by omega), j_0, jeq_t (by rfl), Nat.gcd_zero_right]
  | succ k ih =>
    intro n i a b σ hab ha hf hi hn
    obtain ⟨n, rfl⟩ : ∃ m, n = m + 1 := ⟨n - 1, by omega⟩
    rw [f_X6_common_h31, n_200, le_f (by omega) (by omega) (by omega), j_0]
    by_cases hb : b = 0
    · subst hb
      rw [jeq_t (by rfl), Nat.gcd_zero_right]
    · rw [jeq_f (by omega) (by omega) (by omega) (by omega) (by omega), ← j_0, ck_j0 (by omega) (by omega) (by omega), bd_eq, bd_eq, jl_rem ⟨by omega, by omega⟩ ⟨by omega, by omega⟩, n_1, nt_add, ← Int.ofNat_tmod]
      have hr : a % b < b := Nat.mod_lt _ (by omega)
      have h := ih n (i + 1) b (a % b) σ hr (by omega) ?_ (by omega) (by omega)
      · rw [gcd_step] at h
        exact h
      · by_cases hbf : b < (fb (k + 2)).1
        · exact Or.inl hbf
        · right
          have h1 : a < (fb (k + 3)).1 := by
            rcases hf with h | h
            · exact h
            · exact absurd h hbf
          have h2 : (fb (k + 3)).1 = (fb (k + 1)).1 + (fb (k + 2)).1 := by
            rw [fb_1 (k + 2), fb_2 (k + 1), fb_1 (k + 1)]
          have h3 : a % b ≤ a - b := by
            have e := Nat.mod_add_div a b
            have : 1 ≤ a / b := Nat.div_pos (by omega) (by omega)
            have : b * 1 ≤ b * (a / b) := Nat.mul_le_mul_left b this
            omega
          omega
theorem m_common {N : Nat} (hN : 200 ≤ N) {a b : Int} (ha : -9223372036854775807 ≤ a ∧ a ≤ 9223372036854775807) (hb : -9223372036854775807 ≤ b ∧ b ≤ 9223372036854775807) (σ : ZS) : f_X6_common N (jl a) (jl b) σ = some (jl (Int.gcd a b), σ) := by
  have e1 : (if a < 0 then jl (-a) else jl a) = jl (a.natAbs : Int) := by split <;> congr 1 <;> omega
  have e2 : (if b < 0 then jl (-b) else jl b) = jl (b.natAbs : Int) := by split <;> congr 1 <;> omega
  have e3 : f_X6_common N (jl a) (jl b) σ = f_X6_common_h31 N N (jl a.natAbs) (jl b.natAbs) (nt 0) σ := by
    unfold f_X6_common f_X6_common_b12 f_X6_common_b26
    rw [j_0, ← e1, ← e2]
    by_cases h1 : a < 0
    · rw [jlt_t h1 (by omega) (by omega), if_pos h1, jl_neg]
      by_cases h2 : b < 0
      · rw [jlt_t h2 (by omega) (by omega), if_pos h2, jl_neg]; rfl
      · rw [jlt_f (by omega) (by omega) (by omega), if_neg h2]; rfl
    · rw [jlt_f (by omega) (by omega) (by omega), if_neg h1]
      by_cases h2 : b < 0
      · rw [jlt_t h2 (by omega) (by omega), if_pos h2, jl_neg]; rfl
      · rw [jlt_f (by omega) (by omega) (by omega), if_neg h2]; rfl
  rw [e3]
  have hg : Int.gcd a b = Nat.gcd a.natAbs b.natAbs := rfl
  rw [hg]
  have hA : a.natAbs < 2 ^ 63 := by omega
  have hB : b.natAbs < 2 ^ 63 := by omega
  generalize a.natAbs = A at *
  generalize b.natAbs = B at *
  by_cases h : B < A
  · exact m_comml N 91 N 0 A B σ h hA (Or.inl (by rw [fb_93]; omega)) (by omega) (by omega)
  · obtain ⟨n, rfl⟩ : ∃ n, N = n + 1 := ⟨N - 1, by omega⟩
    rw [f_X6_common_h31, n_200, le_f (by omega) (by omega) (by omega), j_0]
    by_cases h0 : B = 0
    · subst h0
      obtain rfl : A = 0 := by omega
      rw [jeq_t (by rfl)]; rfl
    · rw [jeq_f (by omega) (by omega) (by omega) (by omega) (by omega), ← j_0, ck_j0 (by omega) (by omega) (by omega), bd_eq, bd_eq, jl_rem ⟨by omega, by omega⟩ ⟨by omega, by omega⟩, n_1, nt_add, ← Int.ofNat_tmod]
      have hr : A % B < B := Nat.mod_lt _ (by omega)
      have := m_comml (n + 1) 91 n 1 B (A % B) σ hr hB (Or.inl (by rw [fb_93]; omega)) (by omega) (by omega)
      rw [gcd_step] at this
      exact this
-- lowest terms
def rn (u l : Int) : Int := (Rat.divInt u l).num
def rd (u l : Int) : Int := ((Rat.divInt u l).den : Int)
theorem rn_of {u l : Int} (hl : 0 < l) : rn u l = u / (Int.gcd u l : Int) := by
  unfold rn
  rw [Rat.num_divInt, Int.sign_eq_one_of_pos hl, Int.one_mul, Int.gcd_comm]
theorem rd_of {u l : Int} (hl : 0 < l) : rd u l = l / (Int.gcd u l : Int) := by
  unfold rd
  rw [Rat.den_divInt, if_neg (by omega), Int.gcd_comm]
  have : (l.natAbs : Int) = l := by omega
  rw [Int.natCast_ediv, this]
theorem rn_eq {u l u' l' : Int} (hl : 0 < l) (hl' : 0 < l') (h : u * l' = u' * l) : rn u l = rn u' l' := by
  unfold rn; rw [(Rat.divInt_eq_divInt_iff (by omega) (by omega)).mpr h]
theorem rd_eq {u l u' l' : Int} (hl : 0 < l) (hl' : 0 < l') (h : u * l' = u' * l) : rd u l = rd u' l' := by
  unfold rd; rw [(Rat.divInt_eq_divInt_iff (by omega) (by omega)).mpr h]
theorem gcd_pos {u l : Int} (hl : 0 < l) : 0 < (Int.gcd u l : Int) := by
  have : Int.gcd u l ≠ 0 := fun w => by
    have := (Int.gcd_eq_zero_iff.mp w).2; omega
  omega
theorem rd_pos {u l : Int} : 0 < rd u l := by
  unfold rd; have := (Rat.divInt u l).den_pos; omega
theorem rn_rd {u l : Int} (hl : 0 < l) : rn u l * l = u * rd u l := by
  have h := Rat.num_divInt_den (Rat.divInt u l)
  have h2 := (Rat.divInt_eq_divInt_iff (n₁ := rn u l) (d₁ := rd u l) (n₂ := u) (d₂ := l) (by have := @rd_pos u l; omega) (by omega)).mp h
  exact h2
theorem rn_idem {u l : Int} (hl : 0 < l) : rn (rn u l) (rd u l) = rn u l := rn_eq rd_pos hl (rn_rd hl)
theorem rd_idem {u l : Int} (hl : 0 < l) : rd (rn u l) (rd u l) = rd u l := rd_eq rd_pos hl (rn_rd hl)
theorem tdiv_g {u g : Int} (hg : 0 < g) (h : g ∣ u) : u.tdiv g = u / g := by
  obtain ⟨k, rfl⟩ := h
  rw [Int.mul_tdiv_cancel_left _ (by omega), Int.mul_ediv_cancel_left _ (by omega)]
theorem rn_abs {u l : Int} (hl : 0 < l) : (rn u l).natAbs ≤ u.natAbs := by
  rw [rn_of hl]
  obtain ⟨k, hk⟩ := Int.gcd_dvd_left (a := u) (b := l)
  have hg := gcd_pos (u := u) hl
  generalize (Int.gcd u l : Int) = g at *
  rw [hk, Int.mul_ediv_cancel_left _ (by omega), Int.natAbs_mul]
  have : 1 ≤ g.natAbs := by omega
  calc k.natAbs = 1 * k.natAbs := by omega
    _ ≤ _ := Nat.mul_le_mul_right _ this
theorem rd_le {u l : Int} (hl : 0 < l) : rd u l ≤ l := by
  rw [rd_of hl]
  exact Int.ediv_le_self _ (by omega)
section
variable {N : Nat} {σ : ZS}
/-- a Fraction's cell -/
def Fq (σ : ZS) (c : Nat) (u l : Int) : Prop := gJ σ c 0 = jl u ∧ gJ σ c 1 = jl l
def okJ (a : Int) : Prop := -9223372036854775807 ≤ a ∧ a ≤ 9223372036854775807
theorem s_reduce (hN : 200 ≤ N) {c : Nat} (hc : isc c 1 = true) {u l : Int} (h : Fq σ c u l) (hu : okJ u) (hl : okJ l) (hp : 0 < l) : ∃ τ, f_X1_reduce N c σ = some ((), τ) ∧ Fq τ c (rn u l) (rd u l) ∧ τ.1 = σ.1 ∧ ∀ d, d ≠ c → τ.2 d = σ.2 d := by
  unfold f_X1_reduce
  obtain ⟨hu1, hu2⟩ := id hu
  obtain ⟨hl1, hl2⟩ := id hl
  rw [ck_of hc, ck_of hc, h.1, h.2, s_gcd hN hu hl, obd_some]
  have hg := gcd_pos (u := u) hp
  have d1 := Int.gcd_dvd_left (a := u) (b := l)
  have d2 := Int.gcd_dvd_right (a := u) (b := l)
  have hgl : (Int.gcd u l : Int) ≤ l := Int.le_of_dvd hp d2
  by_cases e : 1 < (Int.gcd u l : Int)
  · rw [j_1, jlt_t e (by omega) (by omega), ck_of hc, ck_j0 (by omega) (by omega) (by omega), h.1, jl_div ⟨by omega, by omega⟩ ⟨by omega, by omega⟩, tdiv_g hg d1, ← rn_of hp, bd_eq, ck_of hc, bd_eq, ck_of hc, ck_j0 (by omega) (by omega) (by omega), gJ_sJ_k (by omega), h.2, jl_div ⟨by omega, by omega⟩ ⟨by omega, by omega⟩, tdiv_g hg d2, ← rd_of hp, bd_eq, ck_of hc, bd_eq]
    refine ⟨_, rfl, ⟨?_, ?_⟩, rfl, fun d hd => ?_⟩
    · rw [gJ_sJ_k (by omega), gJ_sJ_at]
    · rw [gJ_sJ_at]
    · show (if d = c then _ else (if d = c then _ else σ.2 d)) = σ.2 d
      rw [if_neg hd, if_neg hd]
  · rw [j_1, jlt_f (by omega) (by omega) (by omega)]
    have e1 : (Int.gcd u l : Int) = 1 := by omega
    refine ⟨σ, rfl, ⟨?_, ?_⟩, rfl, fun d hd => rfl⟩
    · rw [rn_of hp, e1, Int.ediv_one]; exact h.1
    · rw [rd_of hp, e1, Int.ediv_one]; exact h.2
theorem s_lowest (hN : 200 ≤ N) {c : Nat} (hc : isc c 1 = true) {u l : Int} (h : Fq σ c u l) (hu : okJ u) (hl : okJ l) (hp : 0 < l) {q : Int} (hq : q = 0 ∨ q = 1) : ∃ τ, f_X1_lowestTerm N c (nt q) σ = some (jl (if q = 0 then rn u l else rd u l), τ) ∧ Fq τ c (rn u l) (rd u l) ∧ τ.1 = σ.1 ∧ ∀ d, d ≠ c → τ.2 d = σ.2 d := by
  obtain ⟨τ, e, h1, h2, h3⟩ := s_reduce (σ := σ) hN hc h hu hl hp
  refine ⟨τ, ?_, h1, h2, h3⟩
  unfold f_X1_lowestTerm
  rw [ck_of hc, e, obd_some, ck_of hc, ck_of hc, h1.1, h1.2, n_0]
  rcases hq with rfl | rfl
  · rw [eq_t rfl, if_pos rfl]
  · rw [eq_f (by omega) (by omega) (by omega) (by omega) (by omega), if_neg (by omega)]
theorem m_part (hN : 200 ≤ N) {u l : Int} (hu : okJ u) (hl : okJ l) (hp : 0 < l) {q : Int} (hq : 0 ≤ q ∧ q ≤ 3) : f_X6_part N (jl u) (jl l) (nt q) σ = some (jl (if q.tmod 2 = 0 then rn u l else rd u l), σ) := by
  obtain ⟨hu1, hu2⟩ := id hu
  obtain ⟨hl1, hl2⟩ := id hl
  have hg := gcd_pos (u := u) hp
  have d1 := Int.gcd_dvd_left (a := u) (b := l)
  have d2 := Int.gcd_dvd_right (a := u) (b := l)
  have hgl : (Int.gcd u l : Int) ≤ l := Int.le_of_dvd hp d2
  unfold f_X6_part
  rw [m_common hN hu hl, obd_some, ck_j0 (by omega) (by omega) (by omega), ck_j0 (by omega) (by omega) (by omega), jl_div ⟨by omega, by omega⟩ ⟨by omega, by omega⟩, jl_div ⟨by omega, by omega⟩ ⟨by omega, by omega⟩, tdiv_g hg d1, tdiv_g hg d2, ← rn_of hp, ← rd_of hp, n_2, nt_rem ⟨by omega, by omega⟩ ⟨by omega, by omega⟩, n_0]
  have hm : q.tmod 2 = 0 ∨ q.tmod 2 = 1 := by
    have := Int.tmod_lt_of_pos q (show (0 : Int) < 2 by omega)
    have := Int.tmod_nonneg 2 hq.1
    omega
  rcases hm with h | h
  · rw [h, eq_t rfl, if_pos rfl]
  · rw [h, eq_f (by omega) (by omega) (by omega) (by omega) (by omega), if_neg (by omega)]
-- floors
theorem xor_neg (x y : Int64) : (x ^^^ y) < 0 ↔ ¬ (x < 0 ↔ y < 0) := by
  have h : ∀ z : Int64, z < 0 ↔ z.toBitVec.msb = true := fun z => by
    rw [Int64.lt_iff_toBitVec_slt]
    exact BitVec.slt_zero_iff_msb_cond
  rw [h, h, h, Int64.toBitVec_xor, BitVec.msb_xor]
  cases x.toBitVec.msb <;> cases y.toBitVec.msb <;> simp
theorem fdiv_t {a b : Int} (hb : 0 < b) : a / b = if a.tmod b < 0 then a.tdiv b - 1 else a.tdiv b := by
  have e := Int.mul_tdiv_add_tmod a b
  have h1 := Int.tmod_lt_of_pos a hb
  have h2 : - b < a.tmod b := by
    have := Int.lt_tmod_of_pos a hb
    omega
  by_cases h : a.tmod b < 0
  · rw [if_pos h]
    exact ((Int.ediv_emod_unique (a := a) (r := a.tmod b + b) (q := a.tdiv b - 1) hb).mpr ⟨by rw [Int.mul_sub]; omega, by omega, by omega⟩).1
  · rw [if_neg h]
    exact ((Int.ediv_emod_unique (a := a) (r := a.tmod b) (q := a.tdiv b) hb).mpr ⟨by omega, by omega, by omega⟩).1
theorem div_ok {a b : Int} (ha : okJ a) (hb : 0 < b) : okJ (a / b) := by
  obtain ⟨h1, h2⟩ := ha
  constructor
  · rw [Int.le_ediv_iff_mul_le hb]
    have : -9223372036854775807 * b ≤ -9223372036854775807 * 1 := Int.mul_le_mul_of_nonpos_left (by omega) (by omega)
    omega
  · rw [Int.ediv_le_iff_le_mul hb]
    have : 9223372036854775807 * 1 ≤ 9223372036854775807 * b := Int.mul_le_mul_of_nonneg_left (by omega) (by omega)
    omega
theorem tdiv_ok {a b : Int} (ha : okJ a) (hb : 0 < b) : okJ (a.tdiv b) := by
  have h := Int.natAbs_tdiv_le_natAbs a b
  obtain ⟨h1, h2⟩ := ha
  constructor <;> omega
theorem s_floorDiv {a b : Int} (ha : okJ a) (hb : okJ b) (hp : 0 < b) : f_J9_floorDiv_f86c9 N (jl a) (jl b) σ = some (jl (a / b), σ) := by
  obtain ⟨q1, q2⟩ := tdiv_ok ha hp
  obtain ⟨ha1, ha2⟩ := id ha
  obtain ⟨hb1, hb2⟩ := id hb
  have e := Int.mul_tdiv_add_tmod a b
  have t1 := Int.tmod_lt_of_pos a hp
  have t2 := Int.lt_tmod_of_pos a hp
  unfold f_J9_floorDiv_f86c9
  rw [ck_j0 (by omega) (by omega) (by omega), jl_div ⟨by omega, by omega⟩ ⟨by omega, by omega⟩, bd_eq, fdiv_t hp]
  have hx : (jl a ^^^ jl b) < (0 : Int64) ↔ a < 0 := by
    rw [xor_neg, j_0, jl_lt ⟨by omega, by omega⟩ ⟨by omega, by omega⟩, jl_lt ⟨by omega, by omega⟩ ⟨by omega, by omega⟩]; omega
  by_cases h0 : a < 0
  · have t3 : a.tmod b ≤ 0 := by
      have := Int.tmod_nonneg (a := -a) b (by omega)
      rw [Int.neg_tmod] at this; omega
    rw [if_pos (hx.mpr h0), jl_mul]
    have e2 : a.tdiv b * b = b * a.tdiv b := Int.mul_comm _ _
    by_cases h1 : a.tmod b = 0
    · rw [jeq_t (by omega), if_neg (by omega)]
    · rw [jeq_f (by omega) (by omega) (by omega) (by omega) (by omega), if_pos (by omega), j_1, jl_sub]
  · rw [if_neg (fun w => h0 (hx.mp w))]
    have t3 : 0 ≤ a.tmod b := Int.tmod_nonneg b (by omega)
    rw [if_neg (by omega)]
theorem m_floor {a b : Int} (ha : okJ a) (hb : okJ b) (hp : 0 < b) : f_X6_floor N (jl a) (jl b) σ = some (jl (a / b), σ) := by
  obtain ⟨ha1, ha2⟩ := id ha
  obtain ⟨hb1, hb2⟩ := id hb
  have t1 := Int.tmod_lt_of_pos a hp
  have t2 := Int.lt_tmod_of_pos a hp
  unfold f_X6_floor
  rw [ck_j0 (by omega) (by omega) (by omega), jl_div ⟨by omega, by omega⟩ ⟨by omega, by omega⟩, bd_eq, ck_j0 (by omega) (by omega) (by omega), jl_rem ⟨by omega, by omega⟩ ⟨by omega, by omega⟩, fdiv_t hp, j_0]
  by_cases h : a.tmod b < 0
  · rw [jlt_t h (by omega) (by omega), if_pos h, j_1, jl_sub]
  · rw [jlt_f (by omega) (by omega) (by omega), if_neg h]
/-- whole parts decide, or what is left does -/
theorem cmp_step {a b c d : Int} (hb : 0 < b) (hd : 0 < d) : (a / b < c / d → a * d < c * b) ∧ (c / d < a / b → c * b < a * d) ∧ (a / b = c / d → (a * d < c * b ↔ (a % b) * d < (c % d) * b) ∧ (a * d = c * b ↔ (a % b) * d = (c % d) * b)) := by
  have ea := Int.mul_ediv_add_emod a b
  have ec := Int.mul_ediv_add_emod c d
  have ra := Int.emod_nonneg a (show b ≠ 0 by omega)
  have rc := Int.emod_nonneg c (show d ≠ 0 by omega)
  have la := Int.emod_lt_of_pos a hb
  have lc := Int.emod_lt_of_pos c hd
  generalize a / b = q at *
  generalize c / d = p at *
  generalize a % b = r at *
  generalize c % d = s at *
  subst ea
  subst ec
  have gen : ∀ (q p r s b d : Int), 0 < b → 0 < d → r < b → 0 ≤ s → q < p → (b * q + r) * d < (d * p + s) * b := by
    intro q p r s b d hb hd hr hs hq
    have h1 : (b * q + r) * d < (b * q + b) * d := Int.mul_lt_mul_of_pos_right (by omega) hd
    have h2 : b * (q + 1) * d ≤ b * p * d := Int.mul_le_mul_of_nonneg_right (Int.mul_le_mul_of_nonneg_left (by omega) (by omega)) (by omega)
    have h3 : 0 ≤ s * b := Int.mul_nonneg hs (by omega)
    grind
  refine ⟨fun h => gen q p r s b d hb hd la rc h, fun h => gen p q s r d b hd hb lc ra h, fun h => ?_⟩
  subst h
  have e : (b * q + r) * d - (d * q + s) * b = r * d - s * b := by grind
  constructor <;> constructor <;> intro h <;> omega
theorem half_step {a b k : Nat} (hb : 0 < b) (hba : b < a) (h : a * b < 2 ^ (k + 1)) : b * (a % b) < 2 ^ k := by
  have e := Nat.mod_add_div a b
  have h1 : 1 ≤ a / b := Nat.div_pos (by omega) hb
  have h2 : b * 1 ≤ b * (a / b) := Nat.mul_le_mul_left b h1
  have h3 := Nat.mod_lt a hb
  have h4 : 2 * (a % b) ≤ a := by omega
  have h5 : b * (2 * (a % b)) ≤ b * a := Nat.mul_le_mul_left b h4
  have h6 : 2 ^ (k + 1) = 2 * 2 ^ k := by rw [Nat.pow_succ]; omega
  have h7 : b * (2 * (a % b)) = 2 * (b * (a % b)) := by grind
  rw [Nat.mul_comm a b] at h
  omega
theorem s_below_l : ∀ (k n i a b c d : Nat), 0 < b → b < a → 0 < d → d < c → a < 2 ^ 63 → c < 2 ^ 63 → a * b < 2 ^ k → c * d < 2 ^ k → k + i ≤ 199 → k + 1 ≤ n → f_X1_isBelow_h26 N n (jl a) (jl b) (jl c) (jl d) (nt i) σ = some (nt (if (a : Int) * d < c * b then 1 else 0), σ) := by
  intro k
  induction k with
  | zero =>
    intro n i a b c d hb hba hd hdc ha hc h1
    have : 1 * 1 ≤ a * b := Nat.mul_le_mul (by omega) (by omega)
    omega
  | succ k ih =>
    intro n i a b c d hb hba hd hdc ha hc h1 h2 hi hn
    obtain ⟨n, rfl⟩ : ∃ m, n = m + 1 := ⟨n - 1, by omega⟩
    obtain ⟨s1, s2, s3⟩ := cmp_step (a := a) (b := b) (c := c) (d := d) (by omega) (by omega)
    have eqa : (a : Int) / b = ((a / b : Nat) : Int) := (Int.natCast_ediv a b).symm
    have eqc : (c : Int) / d = ((c / d : Nat) : Int) := (Int.natCast_ediv c d).symm
    have era : (a : Int) % b = ((a % b : Nat) : Int) := (Int.natCast_emod a b).symm
    have erc : (c : Int) % d = ((c % d : Nat) : Int) := (Int.natCast_emod c d).symm
    have la := Nat.div_le_self a b
    have lc := Nat.div_le_self c d
    have na : (0 : Int) ≤ ((a / b : Nat) : Int) := Int.natCast_nonneg _
    have nc : (0 : Int) ≤ ((c / d : Nat) : Int) := Int.natCast_nonneg _
    have fa := Nat.mod_add_div a b
    have fc := Nat.mod_add_div c d
    rw [f_X1_isBelow_h26, n_200, le_f (by omega) (by omega) (by omega), j_0, jlt_t (by omega) (by omega) (by omega), jlt_t (by omega) (by omega) (by omega), s_floorDiv ⟨by omega, by omega⟩ ⟨by omega, by omega⟩ (by omega), obd_some, s_floorDiv ⟨by omega, by omega⟩ ⟨by omega, by omega⟩ (by omega), obd_some]
    rw [eqa, eqc] at s1 s2 s3 ⊢
    by_cases e : ((a / b : Nat) : Int) = ((c / d : Nat) : Int)
    · obtain ⟨s4, _⟩ := s3 e
      rw [era, erc] at s4
      rw [jeq_t e, jl_mul, jl_sub, bd_eq, jl_mul, jl_sub, bd_eq]
      have xa : (a : Int) - ((a / b : Nat) : Int) * b = ((a % b : Nat) : Int) := by
        have : ((a % b + b * (a / b) : Nat) : Int) = a := by rw [fa]
        rw [Int.natCast_add, Int.natCast_mul] at this
        rw [Int.mul_comm]; omega
      have xc : (c : Int) - ((c / d : Nat) : Int) * d = ((c % d : Nat) : Int) := by
        have : ((c % d + d * (c / d) : Nat) : Int) = c := by rw [fc]
        rw [Int.natCast_add, Int.natCast_mul] at this
        rw [Int.mul_comm]; omega
      have ma := Nat.mod_lt a hb
      have mc := Nat.mod_lt c hd
      rw [xa, xc]
      by_cases e0 : c % d = 0
      · rw [jeq_t (by omega), if_neg (by rw [s4, e0]; have := Int.mul_nonneg (show (0 : Int) ≤ ((a % b : Nat) : Int) by omega) (show (0 : Int) ≤ (d : Int) by omega); omega), n_0]
      · rw [jeq_f (by omega) (by omega) (by omega) (by omega) (by omega)]
        by_cases e1 : a % b = 0
        · rw [jeq_t (by omega), if_pos (by rw [s4, e1]; have := Int.mul_pos (show (0 : Int) < ((c % d : Nat) : Int) by omega) (show (0 : Int) < (b : Int) by omega); omega), n_1]
        · rw [jeq_f (by omega) (by omega) (by omega) (by omega) (by omega), n_1, nt_add, bd_eq]
          have := ih n (i + 1) d (c % d) b (a % b) (by omega) mc (by omega) ma (by omega) (by omega) (half_step hd hdc h2) (half_step hb hba h1) (by omega) (by omega)
          refine Eq.trans this ?_
          congr 3
          have e7 : ((d : Int) * ((a % b : Nat) : Int) < b * ((c % d : Nat) : Int)) ↔ ((a : Int) * d < c * b) := by
            rw [s4, Int.mul_comm (d : Int), Int.mul_comm (b : Int)]
          by_cases e8 : (a : Int) * d < c * b
          · rw [if_pos e8, if_pos (e7.mpr e8)]
          · rw [if_neg e8, if_neg (fun w => e8 (e7.mp w))]
    · rw [jeq_f e (by omega) (by omega) (by omega) (by omega)]
      by_cases e2 : ((a / b : Nat) : Int) < ((c / d : Nat) : Int)
      · rw [jlt_t e2 (by omega) (by omega), if_pos (s1 e2), n_1]
      · have := s2 (by omega)
        rw [jlt_f (by omega) (by omega) (by omega), if_neg (by omega), n_0]
theorem s_isBelow (hN : 200 ≤ N) {x y : Nat} (hx : isc x 1 = true) (hy : isc y 1 = true) {a b c d : Int} (h1 : Fq σ x a b) (h2 : Fq σ y c d) (ha : okJ a) (hb : okJ b) (hc : okJ c) (hd : okJ d) (hbp : 0 < b) (hdp : 0 < d) : f_X1_isBelow N x y σ = some (nt (if a * d < c * b then 1 else 0), σ) := by
  unfold f_X1_isBelow
  rw [ck_of hx, h1.1, bd_eq, ck_of hx, h1.2, bd_eq, ck_of hy, h2.1, bd_eq, ck_of hy, h2.2, bd_eq]
  obtain ⟨n, rfl⟩ : ∃ n, N = n + 1 := ⟨N - 1, by omega⟩
  obtain ⟨s1, s2, s3⟩ := cmp_step (a := a) (b := b) (c := c) (d := d) hbp hdp
  obtain ⟨qa1, qa2⟩ := div_ok ha hbp
  obtain ⟨qc1, qc2⟩ := div_ok hc hdp
  have ea := Int.mul_ediv_add_emod a b
  have ec := Int.mul_ediv_add_emod c d
  have ra := Int.emod_nonneg a (show b ≠ 0 by omega)
  have rc := Int.emod_nonneg c (show d ≠ 0 by omega)
  have la := Int.emod_lt_of_pos a hbp
  have lc := Int.emod_lt_of_pos c hdp
  obtain ⟨hb1, hb2⟩ := id hb
  obtain ⟨hd1, hd2⟩ := id hd
  rw [f_X1_isBelow_h26, n_200, n_0, le_f (by omega) (by omega) (by omega), j_0, jlt_t (by omega) (by omega) (by omega), jlt_t (by omega) (by omega) (by omega), s_floorDiv ha hb hbp, obd_some, s_floorDiv hc hd hdp, obd_some]
  by_cases e : a / b = c / d
  · obtain ⟨s4, _⟩ := s3 e
    rw [jeq_t e, jl_mul, jl_sub, bd_eq, jl_mul, jl_sub, bd_eq]
    have xa : a - a / b * b = a % b := by rw [Int.mul_comm]; omega
    have xc : c - c / d * d = c % d := by rw [Int.mul_comm]; omega
    rw [xa, xc]
    by_cases e0 : c % d = 0
    · rw [jeq_t (by omega), if_neg (by rw [s4, e0]; have := Int.mul_nonneg ra (show (0 : Int) ≤ d by omega); omega)]
    · rw [jeq_f (by omega) (by omega) (by omega) (by omega) (by omega)]
      by_cases e1 : a % b = 0
      · rw [jeq_t (by omega), if_pos (by rw [s4, e1]; have := Int.mul_pos (show (0 : Int) < c % d by omega) hbp; omega), n_1]
      · rw [jeq_f (by omega) (by omega) (by omega) (by omega) (by omega), n_1, nt_add, bd_eq]
        have hm : ∀ x y : Nat, x < 2 ^ 63 → y < 2 ^ 63 → x * y < 2 ^ 126 := fun x y h1 h2 => by
          have := Nat.mul_lt_mul'' h1 h2
          calc x * y < 2 ^ 63 * 2 ^ 63 := this
            _ = 2 ^ 126 := by decide
        have := s_below_l (N := n + 1) (σ := σ) 126 n 1 d.toNat (c % d).toNat b.toNat (a % b).toNat (by omega) (by omega) (by omega) (by omega) (by omega) (by omega) (hm _ _ (by omega) (by omega)) (hm _ _ (by omega) (by omega)) (by omega) (by omega)
        rw [Int.toNat_of_nonneg (show 0 ≤ d by omega), Int.toNat_of_nonneg rc, Int.toNat_of_nonneg (show 0 ≤ b by omega), Int.toNat_of_nonneg ra] at this
        refine Eq.trans this ?_
        congr 3
        have e7 : (d * (a % b) < b * (c % d)) ↔ (a * d < c * b) := by
          rw [s4, Int.mul_comm d, Int.mul_comm b]
        by_cases e8 : a * d < c * b
        · rw [if_pos e8, if_pos (e7.mpr e8)]
        · rw [if_neg e8, if_neg (fun w => e8 (e7.mp w))]
  · rw [jeq_f e (by omega) (by omega) (by omega) (by omega)]
    by_cases e2 : a / b < c / d
    · rw [jlt_t e2 (by omega) (by omega), if_pos (s1 e2), n_1]
    · have := s2 (by omega)
      rw [jlt_f (by omega) (by omega) (by omega), if_neg (by omega)]
def cm3 (x y : Int) : Int := if x < y then -1 else if x = y then 0 else 1
theorem m_compare_l : ∀ (k n i a b c d : Nat) (s : Int), (s = 1 ∨ s = -1) → 0 < b → b < a → 0 < d → d < c → a < 2 ^ 63 → c < 2 ^ 63 → a * b < 2 ^ k → c * d < 2 ^ k → k + i ≤ 199 → k + 1 ≤ n → f_X6_compare_h20 N n (jl a) (jl b) (jl c) (jl d) (nt s) (nt i) σ = some (nt (s * cm3 ((a : Int) * d) (c * b)), σ) := by
  intro k
  induction k with
  | zero =>
    intro n i a b c d s hs hb hba hd hdc ha hc h1
    have : 1 * 1 ≤ a * b := Nat.mul_le_mul (by omega) (by omega)
    omega
  | succ k ih =>
    intro n i a b c d s hs hb hba hd hdc ha hc h1 h2 hi hn
    obtain ⟨n, rfl⟩ : ∃ m, n = m + 1 := ⟨n - 1, by omega⟩
    obtain ⟨s1, s2, s3⟩ := cmp_step (a := a) (b := b) (c := c) (d := d) (by omega) (by omega)
    have eqa : (a : Int) / b = ((a / b : Nat) : Int) := (Int.natCast_ediv a b).symm
    have eqc : (c : Int) / d = ((c / d : Nat) : Int) := (Int.natCast_ediv c d).symm
    have era : (a : Int) % b = ((a % b : Nat) : Int) := (Int.natCast_emod a b).symm
    have erc : (c : Int) % d = ((c % d : Nat) : Int) := (Int.natCast_emod c d).symm
    have la := Nat.div_le_self a b
    have lc := Nat.div_le_self c d
    have na : (0 : Int) ≤ ((a / b : Nat) : Int) := Int.natCast_nonneg _
    have nc : (0 : Int) ≤ ((c / d : Nat) : Int) := Int.natCast_nonneg _
    have fa := Nat.mod_add_div a b
    have fc := Nat.mod_add_div c d
    rw [f_X6_compare_h20, n_200, le_f (by omega) (by omega) (by omega), m_floor ⟨by omega, by omega⟩ ⟨by omega, by omega⟩ (by omega), obd_some, m_floor ⟨by omega, by omega⟩ ⟨by omega, by omega⟩ (by omega), obd_some]
    rw [eqa, eqc] at s1 s2 s3 ⊢
    by_cases e : ((a / b : Nat) : Int) = ((c / d : Nat) : Int)
    · obtain ⟨s4, s5⟩ := s3 e
      rw [era, erc] at s4 s5
      rw [jeq_t e, jl_mul, jl_sub, bd_eq, jl_mul, jl_sub, bd_eq]
      have xa : (a : Int) - ((a / b : Nat) : Int) * b = ((a % b : Nat) : Int) := by
        have : ((a % b + b * (a / b) : Nat) : Int) = a := by rw [fa]
        rw [Int.natCast_add, Int.natCast_mul] at this
        rw [Int.mul_comm]; omega
      have xc : (c : Int) - ((c / d : Nat) : Int) * d = ((c % d : Nat) : Int) := by
        have : ((c % d + d * (c / d) : Nat) : Int) = c := by rw [fc]
        rw [Int.natCast_add, Int.natCast_mul] at this
        rw [Int.mul_comm]; omega
      have ma := Nat.mod_lt a hb
      have mc := Nat.mod_lt c hd
      rw [xa, xc, j_0]
      have hcm : cm3 ((a : Int) * d) (c * b) = cm3 (((a % b : Nat) : Int) * d) (((c % d : Nat) : Int) * b) := by
        unfold cm3
        by_cases e8 : (a : Int) * d < c * b
        · rw [if_pos e8, if_pos (s4.mp e8)]
        · rw [if_neg e8, if_neg (fun w => e8 (s4.mpr w))]
          by_cases e9 : (a : Int) * d = c * b
          · rw [if_pos e9, if_pos (s5.mp e9)]
          · rw [if_neg e9, if_neg (fun w => e9 (s5.mpr w))]
      rw [hcm]
      have hend : (a % b = 0 ∨ c % d = 0) → f_X6_compare_b105 N (nt s) (jl ((a % b : Nat) : Int)) (jl ((c % d : Nat) : Int)) σ = some (nt (s * cm3 (((a % b : Nat) : Int) * d) (((c % d : Nat) : Int) * b)), σ) := by
        intro h0
        unfold f_X6_compare_b105 cm3
        have p1 := Int.mul_nonneg (show (0 : Int) ≤ ((a % b : Nat) : Int) by omega) (show (0 : Int) ≤ (d : Int) by omega)
        have p2 := Int.mul_nonneg (show (0 : Int) ≤ ((c % d : Nat) : Int) by omega) (show (0 : Int) ≤ (b : Int) by omega)
        by_cases e0 : a % b = 0
        · by_cases e1 : c % d = 0
          · rw [jeq_t (by omega), e0, e1]
            have z1 : ((0 : Nat) : Int) * (d : Int) = 0 := Int.zero_mul _
            have z2 : ((0 : Nat) : Int) * (b : Int) = 0 := Int.zero_mul _
            rw [z1, z2, if_neg (by omega), if_pos rfl, Int.mul_zero]; rfl
          · have p3 := Int.mul_pos (show (0 : Int) < ((c % d : Nat) : Int) by omega) (show (0 : Int) < (b : Int) by omega)
            have z1 : ((0 : Nat) : Int) * (d : Int) = 0 := Int.zero_mul _
            rw [jeq_f (by omega) (by omega) (by omega) (by omega) (by omega), j_0, jeq_t (by omega), e0, z1, if_pos p3, nt_neg]
            congr 3; omega
        · have e1 : c % d = 0 := by omega
          have p3 := Int.mul_pos (show (0 : Int) < ((a % b : Nat) : Int) by omega) (show (0 : Int) < (d : Int) by omega)
          have z1 : ((0 : Nat) : Int) * (b : Int) = 0 := Int.zero_mul _
          rw [jeq_f (by omega) (by omega) (by omega) (by omega) (by omega), j_0, jeq_f (by omega) (by omega) (by omega) (by omega) (by omega), e1, z1, if_neg (by omega), if_neg (by omega)]
          congr 3; omega
      by_cases e1 : a % b = 0
      · rw [jeq_t (by omega), hend (Or.inl e1)]
      · rw [jeq_f (by omega) (by omega) (by omega) (by omega) (by omega)]
        by_cases e0 : c % d = 0
        · rw [jeq_t (by omega), hend (Or.inr e0)]
        · rw [jeq_f (by omega) (by omega) (by omega) (by omega) (by omega), nt_neg, bd_eq, n_1, nt_add, bd_eq]
          have := ih n (i + 1) b (a % b) d (c % d) (-s) (by omega) (by omega) ma (by omega) mc (by omega) (by omega) (half_step hb hba h1) (half_step hd hdc h2) (by omega) (by omega)
          refine Eq.trans this ?_
          congr 3
          have : cm3 ((b : Int) * ((c % d : Nat) : Int)) (d * ((a % b : Nat) : Int)) = - cm3 (((a % b : Nat) : Int) * d) (((c % d : Nat) : Int) * b) := by
            rw [Int.mul_comm (b : Int), Int.mul_comm (d : Int)]
            unfold cm3
            generalize ((c % d : Nat) : Int) * b = X
            generalize ((a % b : Nat) : Int) * d = Y
            by_cases w : X < Y
            · rw [if_pos w, if_neg (by omega), if_neg (by omega)]
            · by_cases w2 : X = Y
              · rw [if_neg w, if_pos w2, if_neg (by omega), if_pos w2.symm]; rfl
              · rw [if_neg w, if_neg w2, if_pos (by omega)]; rfl
          rw [this]; grind
    · rw [jeq_f e (by omega) (by omega) (by omega) (by omega)]
      unfold cm3
      by_cases e2 : ((a / b : Nat) : Int) < ((c / d : Nat) : Int)
      · rw [jlt_t e2 (by omega) (by omega), if_pos (s1 e2), nt_neg]; congr 3; omega
      · have := s2 (by omega)
        rw [jlt_f (by omega) (by omega) (by omega), if_neg (by omega), if_neg (by omega)]; congr 3; omega
theorem m_compare (hN : 200 ≤ N) {a b c d : Int} (ha : okJ a) (hb : okJ b) (hc : okJ c) (hd : okJ d) (hbp : 0 < b) (hdp : 0 < d) : f_X6_compare N (jl a) (jl b) (jl c) (jl d) σ = some (nt (cm3 (a * d) (c * b)), σ) := by
  unfold f_X6_compare
  obtain ⟨n, rfl⟩ : ∃ n, N = n + 1 := ⟨N - 1, by omega⟩
  obtain ⟨s1, s2, s3⟩ := cmp_step (a := a) (b := b) (c := c) (d := d) hbp hdp
  obtain ⟨qa1, qa2⟩ := div_ok ha hbp
  obtain ⟨qc1, qc2⟩ := div_ok hc hdp
  have ea := Int.mul_ediv_add_emod a b
  have ec := Int.mul_ediv_add_emod c d
  have ra := Int.emod_nonneg a (show b ≠ 0 by omega)
  have rc := Int.emod_nonneg c (show d ≠ 0 by omega)
  have la := Int.emod_lt_of_pos a hbp
  have lc := Int.emod_lt_of_pos c hdp
  obtain ⟨hb1, hb2⟩ := id hb
  obtain ⟨hd1, hd2⟩ := id hd
  rw [f_X6_compare_h20, n_200, n_0, n_1, le_f (by omega) (by omega) (by omega), m_floor ha hb hbp, obd_some, m_floor hc hd hdp, obd_some]
  by_cases e : a / b = c / d
  · obtain ⟨s4, s5⟩ := s3 e
    rw [jeq_t e, jl_mul, jl_sub, bd_eq, jl_mul, jl_sub, bd_eq]
    have xa : a - a / b * b = a % b := by rw [Int.mul_comm]; omega
    have xc : c - c / d * d = c % d := by rw [Int.mul_comm]; omega
    rw [xa, xc, j_0]
    have hcm : cm3 (a * d) (c * b) = cm3 ((a % b) * d) ((c % d) * b) := by
      unfold cm3
      by_cases e8 : a * d < c * b
      · rw [if_pos e8, if_pos (s4.mp e8)]
      · rw [if_neg e8, if_neg (fun w => e8 (s4.mpr w))]
        by_cases e9 : a * d = c * b
        · rw [if_pos e9, if_pos (s5.mp e9)]
        · rw [if_neg e9, if_neg (fun w => e9 (s5.mpr w))]
    rw [hcm]
    have hend : (a % b = 0 ∨ c % d = 0) → f_X6_compare_b105 (n + 1) (nt 1) (jl (a % b)) (jl (c % d)) σ = some (nt (cm3 ((a % b) * d) ((c % d) * b)), σ) := by
      intro h0
      unfold f_X6_compare_b105 cm3
      by_cases e0 : a % b = 0
      · by_cases e1 : c % d = 0
        · rw [jeq_t (by omega), e0, e1, Int.zero_mul, Int.zero_mul, if_neg (by omega), if_pos rfl]; rfl
        · have p3 := Int.mul_pos (show (0 : Int) < c % d by omega) hbp
          rw [jeq_f (by omega) (by omega) (by omega) (by omega) (by omega), j_0, jeq_t (by omega), e0, Int.zero_mul, if_pos p3, nt_neg]
      · have e1 : c % d = 0 := by omega
        have p3 := Int.mul_pos (show (0 : Int) < a % b by omega) hdp
        rw [jeq_f (by omega) (by omega) (by omega) (by omega) (by omega), j_0, jeq_f (by omega) (by omega) (by omega) (by omega) (by omega), e1, Int.zero_mul, if_neg (by omega), if_neg (by omega)]
    by_cases e1 : a % b = 0
    · rw [jeq_t (by omega), hend (Or.inl e1)]
    · rw [jeq_f (by omega) (by omega) (by omega) (by omega) (by omega)]
      by_cases e0 : c % d = 0
      · rw [jeq_t (by omega), hend (Or.inr e0)]
      · rw [jeq_f (by omega) (by omega) (by omega) (by omega) (by omega), nt_neg, bd_eq, nt_add, bd_eq]
        have hm : ∀ x y : Nat, x < 2 ^ 63 → y < 2 ^ 63 → x * y < 2 ^ 126 := fun x y h1 h2 => by
          have := Nat.mul_lt_mul'' h1 h2
          calc x * y < 2 ^ 63 * 2 ^ 63 := this
            _ = 2 ^ 126 := by decide
        have := m_compare_l (N := n + 1) (σ := σ) 126 n 1 b.toNat (a % b).toNat d.toNat (c % d).toNat (-1) (by omega) (by omega) (by omega) (by omega) (by omega) (by omega) (by omega) (hm _ _ (by omega) (by omega)) (hm _ _ (by omega) (by omega)) (by omega) (by omega)
        rw [Int.toNat_of_nonneg (show 0 ≤ d by omega), Int.toNat_of_nonneg rc, Int.toNat_of_nonneg (show 0 ≤ b by omega), Int.toNat_of_nonneg ra] at this
        refine Eq.trans this ?_
        congr 3
        rw [Int.mul_comm b, Int.mul_comm d]
        unfold cm3
        generalize (c % d) * b = X
        generalize (a % b) * d = Y
        by_cases w : X < Y
        · rw [if_pos w, if_neg (by omega), if_neg (by omega)]; rfl
        · by_cases w2 : X = Y
          · rw [if_neg w, if_pos w2, if_neg (by omega), if_pos w2.symm]; rfl
          · rw [if_neg w, if_neg w2, if_pos (by omega)]; rfl
  · rw [jeq_f e (by omega) (by omega) (by omega) (by omega)]
    unfold cm3
    by_cases e2 : a / b < c / d
    · rw [jlt_t e2 (by omega) (by omega), if_pos (s1 e2), nt_neg]
    · have := s2 (by omega)
      rw [jlt_f (by omega) (by omega) (by omega), if_neg (by omega), if_neg (by omega)]
end
