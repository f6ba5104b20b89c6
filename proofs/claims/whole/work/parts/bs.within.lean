-- ===== what is within; corners as numbers =====
section
variable {N : Nat} {σ : ZS} {φ : FR}
/-- an end's strength in the measure of the values -/
noncomputable def mst (φ : FR) (P : Nat → Nat → Int) (S : Nat → Int) (by_ : Int) (e : Nat) : Int := 12 / lenB φ (e / 2) * by_ * ((dt (dd φ) P).natAbs : Int) * S (e / 2)
/-- all told ends are within their strengths -/
def Win (φ : FR) (Cm : Nat) (P : Nat → Nat → Int) (pi : Nat → Nat) (S T : Nat → Int) (by_ : Int) (g : Nat) : Prop := ∀ e, e < 2 * nb φ → Cm.testBit e = true → ((val φ Cm P pi S T by_ (cn e (bt Cm)) g).natAbs : Int) ≤ mst φ P S by_ e
theorem m_isWithin (hN : 200 ≤ N) (w : WF φ) (h : MFr σ φ) {S T : Nat → Int} (hS : Stg φ σ S) {Cm g : Nat} {P : Nat → Nat → Int} {pi : Nat → Nat} {by_ : Int} (hTD : TD Cm σ) (hV : BV φ Cm P pi S T by_ g σ 15) (hby : gJ σ 1067 33 = jl by_) (hB : gJ σ 1067 29 = jl (dt (dd φ) P)) (hBb : (dt (dd φ) P).natAbs ≤ 4000000000000000000) (hvb : ∀ e, e < 2 * nb φ → Cm.testBit e = true → (val φ Cm P pi S T by_ (cn e (bt Cm)) g).natAbs ≤ 4000000000000000000) (hmb : ∀ e, e < 2 * nb φ → (mst φ P S by_ e).natAbs ≤ 4000000000000000000) : (Win φ Cm P pi S T by_ g ∧ f_X6_isWithin N σ = some (nt 1, σ)) ∨ (¬ Win φ Cm P pi S T by_ g ∧ f_X6_isWithin N σ = some (nt 0, σ)) := by
  have hw2 := w.2.1
  have scan : ∀ (m e n : Nat), e + m = 2 * nb φ → m + 1 ≤ n → (∀ e', e' < e → Cm.testBit e' = true → ((val φ Cm P pi S T by_ (cn e' (bt Cm)) g).natAbs : Int) ≤ mst φ P S by_ e') → (Win φ Cm P pi S T by_ g ∧ f_X6_isWithin_h2 N n (nt (e : Nat)) σ = some (nt 1, σ)) ∨ (¬ Win φ Cm P pi S T by_ g ∧ f_X6_isWithin_h2 N n (nt (e : Nat)) σ = some (nt 0, σ)) := by
    intro m
    induction m with
    | zero =>
      intro e n he hn hz
      obtain ⟨n, rfl⟩ : ∃ m, n = m + 1 := ⟨n - 1, by omega⟩
      left
      refine ⟨fun e' he' hb' => hz e' (by omega) hb', ?_⟩
      rw [f_X6_isWithin_h2, MFr_b h, n_2, nt_mul, le_t (by omega) (by omega) (by omega)]; rfl
    | succ m ih =>
      intro e n he hn hz
      obtain ⟨n, rfl⟩ : ∃ m, n = m + 1 := ⟨n - 1, by omega⟩
      have he2 : e < 2 * nb φ := by omega
      have hb2 : e / 2 < nb φ := by omega
      have hdiv : ((e : Nat) : Int).tdiv 2 = ((e / 2 : Nat) : Int) := by
        rw [Int.tdiv_eq_ediv_of_nonneg (by omega)]; omega
      have hlen := len_rg w hb2
      have hdiv2 : (12 : Int).tdiv (lenB φ (e / 2)) = 12 / lenB φ (e / 2) := Int.tdiv_eq_ediv_of_nonneg (by omega)
      have h12 := (len_12 w hb2).2
      have hmb' := hmb e he2
      have htold := hTD e (by omega)
      have hcc := cn_bd (bt Cm) e
      have b91 : f_X6_isWithin_b91 N (fun x1_ σ_ => f_X6_isWithin_h2 N n x1_ σ_) (nt (e : Nat)) σ = f_X6_isWithin_h2 N n (nt ((e + 1 : Nat) : Int)) σ := by
        rw [f_X6_isWithin_b91, n_1, nt_add, bd_eq]; rfl
      have b49 : ∀ x y : Int, x * y * S (e / 2) = mst φ P S by_ e → (Cm.testBit e = true → (((val φ Cm P pi S T by_ (cn e (bt Cm)) g).natAbs : Int) ≤ mst φ P S by_ e ∧ f_X6_isWithin_b49 N (fun x1_ σ_ => f_X6_isWithin_h2 N n x1_ σ_) (nt (e : Nat)) (jl x) (jl y) σ = f_X6_isWithin_h2 N n (nt ((e + 1 : Nat) : Int)) σ) ∨ (¬ ((val φ Cm P pi S T by_ (cn e (bt Cm)) g).natAbs : Int) ≤ mst φ P S by_ e ∧ f_X6_isWithin_b49 N (fun x1_ σ_ => f_X6_isWithin_h2 N n x1_ σ_) (nt (e : Nat)) (jl x) (jl y) σ = some (nt 0, σ))) ∧ (¬ Cm.testBit e = true → f_X6_isWithin_b49 N (fun x1_ σ_ => f_X6_isWithin_h2 N n x1_ σ_) (nt (e : Nat)) (jl x) (jl y) σ = f_X6_isWithin_h2 N n (nt ((e + 1 : Nat) : Int)) σ) := fun x y hxy => by
        have hpre : f_X6_isWithin_b49 N (fun x1_ σ_ => f_X6_isWithin_h2 N n x1_ σ_) (nt (e : Nat)) (jl x) (jl y) σ = (if gI σ 1089 e < 0 then f_X6_isWithin_b91 N (fun x1_ σ_ => f_X6_isWithin_h2 N n x1_ σ_) (nt (e : Nat)) σ else ck (inb (nt (e : Nat)) 15) ((if jl (mst φ P S by_ e) < (gJ σ 1093 e) then some ((0 : Int32), σ) else ck (inb (nt (e : Nat)) 15) ((if jl (mst φ P S by_ e) < (-(gJ σ 1093 e)) then some ((0 : Int32), σ) else f_X6_isWithin_b91 N (fun x1_ σ_ => f_X6_isWithin_h2 N n x1_ σ_) (nt (e : Nat)) σ))))) := by
          rw [f_X6_isWithin_b49, m_strengthOf h w hS he2, obd_some, jl_mul, jl_mul, hxy, bd_eq, ck_inb (by omega) (by omega) (by omega), nat_k (by omega)]
        rw [hpre, htold, n_0]
        refine ⟨fun hb => ?_, fun hb => by rw [if_neg hb, lt_t (by omega) (by omega) (by omega), b91]⟩
        have hvb' := hvb e he2 hb
        obtain ⟨v, hv⟩ : ∃ v, v = val φ Cm P pi S T by_ (cn e (bt Cm)) g := ⟨_, rfl⟩
        have hve := (hV e (by omega) hb).1
        rw [← hv] at hve hvb' ⊢
        rw [if_pos hb, lt_f (by omega) (by omega) (by omega), ck_inb (by omega) (by omega) (by omega), hve]
        by_cases q : mst φ P S by_ e < v
        · right
          rw [jlt_t q (by omega) (by omega)]
          exact ⟨by omega, rfl⟩
        · rw [jlt_f (by omega) (by omega) (by omega), ck_inb (by omega) (by omega) (by omega), jl_neg]
          by_cases q2 : mst φ P S by_ e < -v
          · right
            rw [jlt_t q2 (by omega) (by omega)]
            exact ⟨by omega, rfl⟩
          · left
            rw [jlt_f (by omega) (by omega) (by omega), b91]
            exact ⟨by omega, rfl⟩
      have hgo : ∃ x y : Int, x * y * S (e / 2) = mst φ P S by_ e ∧ f_X6_isWithin_h2 N (n + 1) (nt (e : Nat)) σ = f_X6_isWithin_b49 N (fun x1_ σ_ => f_X6_isWithin_h2 N n x1_ σ_) (nt (e : Nat)) (jl x) (jl y) σ := by
        have hpre : f_X6_isWithin_h2 N (n + 1) (nt (e : Nat)) σ = (if jl (dt (dd φ) P) < (0 : Int64) then f_X6_isWithin_b49 N (fun x1_ σ_ => f_X6_isWithin_h2 N n x1_ σ_) (nt (e : Nat)) (jl (12 / lenB φ (e / 2) * by_)) (jl (-(dt (dd φ) P))) σ else f_X6_isWithin_b49 N (fun x1_ σ_ => f_X6_isWithin_h2 N n x1_ σ_) (nt (e : Nat)) (jl (12 / lenB φ (e / 2) * by_)) (jl (dt (dd φ) P)) σ) := by
          rw [f_X6_isWithin_h2, MFr_b h, n_2, nt_mul, le_f (by omega) (by omega) (by omega), nt_div ⟨by omega, by omega⟩ ⟨by omega, by omega⟩, hdiv, m_length h w hb2, obd_some, ck_n0 (by omega) (by omega) (by omega), hB, hby, n_12, nt_div ⟨by omega, by omega⟩ ⟨by omega, by omega⟩, hdiv2, long_nt (by omega) (by omega), jl_mul, jl_neg]
        rw [hpre, j_0]
        by_cases q : dt (dd φ) P < 0
        · refine ⟨12 / lenB φ (e / 2) * by_, -(dt (dd φ) P), ?_, by rw [jlt_t q (by omega) (by omega)]⟩
          unfold mst
          rw [show ((dt (dd φ) P).natAbs : Int) = -(dt (dd φ) P) by omega]
        · refine ⟨12 / lenB φ (e / 2) * by_, dt (dd φ) P, ?_, by rw [jlt_f (by omega) (by omega) (by omega)]⟩
          unfold mst
          rw [show ((dt (dd φ) P).natAbs : Int) = dt (dd φ) P by omega]
      obtain ⟨x, y, hxy, hgo⟩ := hgo
      obtain ⟨c1, c2⟩ := b49 x y hxy
      rw [hgo]
      by_cases hb : Cm.testBit e = true
      · rcases c1 hb with ⟨d1, d2⟩ | ⟨d1, d2⟩
        · rw [d2]
          exact ih (e + 1) n (by omega) (by omega) (fun e' he' hb' => by
            by_cases q : e' = e
            · rw [q]; exact d1
            · exact hz e' (by omega) hb')
        · right
          rw [d2]
          exact ⟨fun hW => d1 (hW e he2 hb), rfl⟩
      · rw [c2 hb]
        exact ih (e + 1) n (by omega) (by omega) (fun e' he' hb' => by
          by_cases q : e' = e
          · rw [q] at hb'; exact absurd hb' hb
          · exact hz e' (by omega) hb')
  exact scan (2 * nb φ) 0 N (by omega) (by omega) (fun e' he' => by omega)
/-- a sign -/
def sgn (g k : Nat) : Int := if g.testBit k = true then -1 else 1
/-- what the told columns bear -/
noncomputable def bgv (φ : FR) (Cm : Nat) (S T : Nat → Int) (by_ : Int) (g : Nat) : Nat → Int := fun j => 12 * (T 0 * rcl φ 12 j + T 1 * rcl φ 13 j + T 2 * rcl φ 14 j) - sZ (cn (2 * nb φ) (ff Cm)) (fun k => sgn g k * tco φ S by_ (fre φ Cm k) * rcl φ (fre φ Cm k) j)
theorem val_dt {Cm : Nat} {P : Nat → Nat → Int} {pi : Nat → Nat} {S T : Nat → Int} {by_ : Int} {i : Nat} (g : Nat) (hi : pi i < dd φ) : val φ Cm P pi S T by_ i g = dt (dd φ) (up P (pi i) (bgv φ Cm S T by_ g)) := by
  obtain ⟨l, hl⟩ : ∃ l, l = pi i := ⟨_, rfl⟩
  have e1 : (bgv φ Cm S T by_ g) = fun j => 12 * (T 0 * rcl φ 12 j + T 1 * rcl φ 13 j + T 2 * rcl φ 14 j) + (-1) * sZ (cn (2 * nb φ) (ff Cm)) (fun k => sgn g k * tco φ S by_ (fre φ Cm k) * rcl φ (fre φ Cm k) j) := by
    funext j; unfold bgv; omega
  unfold val v0
  rw [← hl] at hi ⊢
  rw [e1, dt_lin (dd φ) l hi P 12 (-1) (fun j => T 0 * rcl φ 12 j + T 1 * rcl φ 13 j + T 2 * rcl φ 14 j) (fun j => sZ (cn (2 * nb φ) (ff Cm)) (fun k => sgn g k * tco φ S by_ (fre φ Cm k) * rcl φ (fre φ Cm k) j))]
  rw [dt_sum (dd φ) l hi P (fun k => sgn g k * tco φ S by_ (fre φ Cm k)) (fun k => rcl φ (fre φ Cm k))]
  have e2 : dt (dd φ) (up P l (fun j => T 0 * rcl φ 12 j + T 1 * rcl φ 13 j + T 2 * rcl φ 14 j)) = T 0 * dt (dd φ) (up P l (rcl φ 12)) + T 1 * dt (dd φ) (up P l (rcl φ 13)) + T 2 * dt (dd φ) (up P l (rcl φ 14)) := by
    rw [dt_add (dd φ) l hi P (fun j => T 0 * rcl φ 12 j + T 1 * rcl φ 13 j) (fun j => T 2 * rcl φ 14 j), dt_lin (dd φ) l hi P (T 0) (T 1) (rcl φ 12) (rcl φ 13), dt_mul (dd φ) l hi P (T 2) (rcl φ 14)]
  rw [e2]
  have e3 : sZ (cn (2 * nb φ) (ff Cm)) (fun k => (if g.testBit k = true then -1 else 1) * tn φ Cm P pi S by_ i k) = sZ (cn (2 * nb φ) (ff Cm)) (fun k => sgn g k * tco φ S by_ (fre φ Cm k) * dt (dd φ) (up P l (rcl φ (fre φ Cm k)))) := sZ_congr (fun k _ => by
    try dsimp only
    unfold tn sgn
    rw [← hl, Int.mul_assoc])
  rw [e3]
  omega
theorem rcl_ld (c j : Nat) : rcl φ (12 + c) j = pz φ c j := by
  unfold rcl
  rw [if_neg (by omega), show 12 + c - 12 = c by omega]
/-- at most one case's loads are a column -/
def OneL (Cm c : Nat) : Prop := ∀ k, 12 ≤ k → k < 15 → Cm.testBit k = true → k = 12 + c
theorem sum15 (w : WF φ) {Cm c : Nat} (hc : c < 3) (hends : ∀ k, k < 12 → Cm.testBit k = true → k < 2 * nb φ) (hL : OneL Cm c) {y : Nat → Int} (hy : ∀ k, Cm.testBit k = false → y k = 0) (j : Nat) : sZ 15 (fun k => y k * rcl φ k j) = sZ (2 * nb φ) (fun e => y e * Rz φ e j) + y (12 + c) * pz φ c j := by
  have hw2 := w.2.1
  have hf : ∀ k, 12 ≤ k → k < 15 → k ≠ 12 + c → y k = 0 := fun k h1 h2 h3 => hy k (by
    cases hq : Cm.testBit k with
    | false => rfl
    | true => exact absurd (hL k h1 h2 hq) h3)
  have h1 : sZ 12 (fun k => y k * rcl φ k j) = sZ (2 * nb φ) (fun e => y e * Rz φ e j) := by
    rw [sZ_trunc (n := 2 * nb φ) 12 (by omega) (fun i h1 h2 => by
      have : y i = 0 := hy i (by
        cases hq : Cm.testBit i with
        | false => rfl
        | true => have := hends i h2 hq; omega)
      rw [this, Int.zero_mul])]
    exact sZ_congr (fun e he => by
      try dsimp only
      rw [rcl_end w he])
  have h2 : sZ 15 (fun k => y k * rcl φ k j) = sZ 12 (fun k => y k * rcl φ k j) + y 12 * rcl φ (12 + 0) j + y 13 * rcl φ (12 + 1) j + y 14 * rcl φ (12 + 2) j := by
    rw [sZ_s, sZ_s, sZ_s]
  rw [h2, h1, rcl_ld, rcl_ld, rcl_ld]
  rcases (show c = 0 ∨ c = 1 ∨ c = 2 by omega) with rfl | rfl | rfl
  · rw [hf 13 (by omega) (by omega) (by omega), hf 14 (by omega) (by omega) (by omega), Int.zero_mul, Int.zero_mul, Int.add_zero, Int.add_zero]
  · rw [hf 12 (by omega) (by omega) (by omega), hf 14 (by omega) (by omega) (by omega), Int.zero_mul, Int.zero_mul, Int.add_zero, Int.add_zero]
  · rw [hf 12 (by omega) (by omega) (by omega), hf 13 (by omega) (by omega) (by omega), Int.zero_mul, Int.zero_mul, Int.add_zero, Int.add_zero]
/-- an end's moment at a corner, in whole numbers -/
noncomputable def zIn (φ : FR) (Cm : Nat) (P : Nat → Nat → Int) (pi : Nat → Nat) (S T : Nat → Int) (by_ : Int) (g e : Nat) : Int := if Cm.testBit e = true then val φ Cm P pi S T by_ (cn e (bt Cm)) g else dt (dd φ) P * (sgn g (cn e (ff Cm)) * tco φ S by_ e)
noncomputable def yIn (φ : FR) (Cm : Nat) (P : Nat → Nat → Int) (pi : Nat → Nat) (S T : Nat → Int) (by_ : Int) (c g : Nat) : Int := if Cm.testBit (12 + c) = true then val φ Cm P pi S T by_ (cn (12 + c) (bt Cm)) g else 0
theorem crn_int (w : WF φ) {s : ZS} {Cm c : Nat} (hc : c < 3) (hends : ∀ k, k < 12 → Cm.testBit k = true → k < 2 * nb φ) (hL : OneL Cm c) {P : Nat → Nat → Int} {pi : Nat → Nat} {B1 B2 : Nat} (hV : SLV φ s Cm P pi B1 B2) (S T : Nat → Int) (by_ : Int) (g : Nat) {j : Nat} (hj : j < dd φ) : sZ (2 * nb φ) (fun e => zIn φ Cm P pi S T by_ g e * Rz φ e j) + yIn φ Cm P pi S T by_ c g * pz φ c j = dt (dd φ) P * (12 * (T 0 * pz φ 0 j + T 1 * pz φ 1 j + T 2 * pz φ 2 j)) := by
  have hw2 := w.2.1
  obtain ⟨⟨_, _, _, hinj, hpb⟩, _, hcnt, hcols, _⟩ := hV
  have h1 := dt_cramer (dd φ) P (bgv φ Cm S T by_ g) j hj
  have h2 := sZ_perm (dd φ) pi (fun l => dt (dd φ) (up P l (bgv φ Cm S T by_ g)) * P l j) hinj hpb
  rw [← h2] at h1
  have h3 : sZ (dd φ) (fun i => dt (dd φ) (up P (pi i) (bgv φ Cm S T by_ g)) * P (pi i) j) = sZ (cn 15 (bt Cm)) (fun i => val φ Cm P pi S T by_ i g * P (pi i) j) := by
    rw [hcnt]
    exact sZ_congr (fun i hi => by
      try dsimp only
      rw [val_dt g (hpb i hi)])
  have h4 := sZ_bits (bt Cm) (fun i => val φ Cm P pi S T by_ i g * P (pi i) j) 15
  have h5 : sZ 15 (fun k => if bt Cm k = true then (fun i => val φ Cm P pi S T by_ i g * P (pi i) j) (cn k (bt Cm)) else 0) = sZ 15 (fun k => (if Cm.testBit k = true then val φ Cm P pi S T by_ (cn k (bt Cm)) g else 0) * rcl φ k j) := sZ_congr (fun k hk => by
    try dsimp only
    by_cases q : Cm.testBit k = true
    · rw [if_pos (show bt Cm k = true from q), if_pos q, hcols k hk q j hj]
    · rw [if_neg (show ¬ bt Cm k = true from q), if_neg q, Int.zero_mul])
  have h6 := sum15 w hc hends hL (y := fun k => if Cm.testBit k = true then val φ Cm P pi S T by_ (cn k (bt Cm)) g else 0) (fun k hk => by
    try dsimp only
    rw [hk]; rfl) j
  have h1 : dt (dd φ) P * bgv φ Cm S T by_ g j = sZ (2 * nb φ) (fun e => (if Cm.testBit e = true then val φ Cm P pi S T by_ (cn e (bt Cm)) g else 0) * Rz φ e j) + yIn φ Cm P pi S T by_ c g * pz φ c j := by
    have := (((h1.trans h3).trans h4.symm).trans h5).trans h6
    exact this
  -- the free ends
  have h7 := sZ_bits (ff Cm) (fun k => sgn g k * tco φ S by_ (fre φ Cm k) * rcl φ (fre φ Cm k) j) (2 * nb φ)
  have h8 : sZ (2 * nb φ) (fun e => if ff Cm e = true then (fun k => sgn g k * tco φ S by_ (fre φ Cm k) * rcl φ (fre φ Cm k) j) (cn e (ff Cm)) else 0) = sZ (2 * nb φ) (fun e => (if Cm.testBit e = true then 0 else sgn g (cn e (ff Cm)) * tco φ S by_ e) * Rz φ e j) := sZ_congr (fun e he => by
    try dsimp only
    by_cases q : Cm.testBit e = true
    · have hf : ¬ ff Cm e = true := by unfold ff; rw [q]; decide
      rw [if_neg hf, if_pos q, Int.zero_mul]
    · have hf : ff Cm e = true := by
        unfold ff
        cases hq : Cm.testBit e with
        | false => rfl
        | true => exact absurd hq q
      rw [if_pos hf, if_neg q, (fre_at he hf).2, rcl_end w he])
  have h9 : bgv φ Cm S T by_ g j = 12 * (T 0 * pz φ 0 j + T 1 * pz φ 1 j + T 2 * pz φ 2 j) - sZ (2 * nb φ) (fun e => (if Cm.testBit e = true then 0 else sgn g (cn e (ff Cm)) * tco φ S by_ e) * Rz φ e j) := by
    have r0 := rcl_ld (φ := φ) 0 j
    have r1 := rcl_ld (φ := φ) 1 j
    have r2 := rcl_ld (φ := φ) 2 j
    have r0 : rcl φ 12 j = pz φ 0 j := r0
    have r1 : rcl φ 13 j = pz φ 1 j := r1
    have r2 : rcl φ 14 j = pz φ 2 j := r2
    unfold bgv
    rw [← h7, h8, r0, r1, r2]
  have h10 : sZ (2 * nb φ) (fun e => zIn φ Cm P pi S T by_ g e * Rz φ e j) = sZ (2 * nb φ) (fun e => (if Cm.testBit e = true then val φ Cm P pi S T by_ (cn e (bt Cm)) g else 0) * Rz φ e j) + dt (dd φ) P * sZ (2 * nb φ) (fun e => (if Cm.testBit e = true then 0 else sgn g (cn e (ff Cm)) * tco φ S by_ e) * Rz φ e j) := by
    rw [← sZ_mul, ← sZ_add]
    refine sZ_congr (fun e _ => ?_)
    try dsimp only
    unfold zIn
    by_cases q : Cm.testBit e = true
    · rw [if_pos q, if_pos q, if_pos q, Int.zero_mul, Int.mul_zero, Int.add_zero]
    · rw [if_neg q, if_neg q, if_neg q, Int.zero_mul, Int.zero_add, Int.mul_assoc]
  rw [h9, Int.mul_sub] at h1
  rw [h10]
  omega
end
