-- ===== the class: spare strength, weakest bar =====
noncomputable def GV (φ : FR) (c : Nat) (S : Nat → Int) : Rat := @dite _ (∃ x, IsG φ c S x) (Classical.propDecidable _) (fun h => Classical.choose h) (fun _ => 0)
theorem GV_of {φ : FR} {c : Nat} {S : Nat → Int} {x : Rat} (h : IsG φ c S x) : GV φ c S = x := by
  unfold GV
  have h2 : ∃ x, IsG φ c S x := ⟨x, h⟩
  rw [dif_pos h2]
  exact IsG_u (Classical.choose_spec h2) h
/-- the first bar that makes most of it, in order -/
def wkf (G : Nat → Rat) : Nat → Nat → Rat → Int → Int
  | 0, _, _, r => r
  | n + 1, b, x, r => if x < G b then wkf G n (b + 1) (G b) (b : Int) else wkf G n (b + 1) x r
theorem q_same {a b c d : Int} (hb : 0 < b) (hd : 0 < d) : a * d = c * b ↔ (a : Rat) * (b : Rat)⁻¹ = (c : Rat) * (d : Rat)⁻¹ := by
  have h1 := q_mul_lt (a := a) (b := b) (c := c) (d := d) hb hd
  have h2 := q_mul_lt (a := c) (b := d) (c := a) (d := b) hd hb
  constructor
  · intro h
    have a1 : ¬ a * d < c * b := by omega
    have a2 : ¬ c * b < a * d := by omega
    rw [h1] at a1; rw [h2] at a2
    grind
  · intro h
    have a1 : ¬ (a : Rat) * (b : Rat)⁻¹ < (c : Rat) * (d : Rat)⁻¹ := by grind
    have a2 : ¬ (c : Rat) * (d : Rat)⁻¹ < (a : Rat) * (b : Rat)⁻¹ := by grind
    rw [← h1] at a1; rw [← h2] at a2
    omega
/-- unbounded factors do not come from strengths -/
theorem FS_all {φ : FR} {c : Nat} {S T : Nat → Int} (h : ∀ f, FS φ c S f) {x : Rat} (hx : FS φ c T x) : ∀ f, FS φ c T f := fun f q hq => by
  have hW : dq (dd φ) (pq φ c) q = 0 := by
    apply Classical.byContradiction
    intro hne
    have h1 := h ((stn (dd φ) (Rq φ) (cS φ S) (2 * nb φ) q + 1 - dq (dd φ) (pq φ 0) q) * (dq (dd φ) (pq φ c) q)⁻¹) q hq
    have hi := Rat.mul_inv_cancel _ hne
    have h2 := (ab_iff.mp h1).1
    generalize stn (dd φ) (Rq φ) (cS φ S) (2 * nb φ) q = st at *
    generalize dq (dd φ) (pq φ 0) q = p0 at *
    generalize dq (dd φ) (pq φ c) q = W at *
    rw [Rat.mul_assoc, Rat.mul_comm _ W, hi, Rat.mul_one] at h2
    grind
  have h1 := hx q hq
  rw [hW, Rat.mul_zero] at h1 ⊢
  exact h1
section
variable {N : Nat} {φ : FR} {pi : Nat → Nat}
theorem L_nb {σ : ZS} {L : List Nat} (hM : CMe φ pi σ L) (h : L ≠ []) : 0 < nb φ := by
  obtain ⟨s, hs⟩ := List.exists_mem_of_ne_nil L h
  obtain ⟨q, ⟨⟨e, he, _⟩, _⟩, _⟩ := (hM.2.1 s).mp hs
  omega
theorem s_spare (w : WF φ) (hN : 1200 ≤ N) {σ : ZS} {L : List Nat} (hM : CMe φ pi σ L) (hB : CBl φ pi σ L) {c b : Nat} (hc : 1 ≤ c ∧ c ≤ 2) (hb : b < nb φ) {g h l k : Int} (h9 : Fq σ 9 g h) (hLim : Lim φ c (φ.1 5) g h l k) (hg : g.natAbs ≤ 1358954496) (hh : h ≤ 440401920) : ∃ τ r, f_X0_spareStrength N (nt (c : Nat)) (nt (b : Nat)) σ = some (nt (r : Nat), τ) ∧ fr7 σ τ ∧ mxn (fun n => Spr φ c b (n : Nat)) (φ.1 5 b - 1).toNat r := by
  have hw2 := w.2.1
  have hst := (w.2.2.2.1 b hb).2.2.2.2
  have hh0 := hLim.1
  obtain ⟨hG0, _, _⟩ := Lim_G hLim
  obtain ⟨s0, e1, e2, e3, e4⟩ := s_fcopy (N := N) (σ := σ) (c := 12) (d := 9) (isc_f ⟨by omega, by omega⟩) (isc_f ⟨by omega, by omega⟩) h9
  obtain ⟨S, hS⟩ : ∃ S, S = φ.1 5 b := ⟨_, rfl⟩
  have f0 : fr7 σ s0 := ⟨fun d _ => by rw [e3], fun k _ => by unfold gI; rw [e3], fun d _ d2 => e4 d (by omega)⟩
  have key : ∀ (j : Nat) (m : Nat) (s : ZS), j ≤ 11 → (j : Int) ≤ S - 1 → j + 1 ≤ m → fr7 σ s → Fq s 12 g h → (∀ k : Nat, j < k → k ≤ (S - 1).toNat → ¬ Spr φ c b (k : Nat)) → ∃ τ r, f_X0_spareStrength_h20 N (nt (c : Nat)) (nt (b : Nat)) m (nt (j : Nat)) s = some (nt (r : Nat), τ) ∧ fr7 σ τ ∧ mxn (fun n => Spr φ c b (n : Nat)) (S - 1).toNat r := by
    intro j
    induction j with
    | zero =>
      intro m s hj hjS hm hf h12 hno
      obtain ⟨m, rfl⟩ : ∃ n, m = n + 1 := ⟨m - 1, by omega⟩
      refine ⟨s, 0, ?_, hf, Or.inl rfl, by omega, hno⟩
      rw [f_X0_spareStrength_h20, n_0, le_t (by omega) (by omega) (by omega)]
      rfl
    | succ j ih =>
      intro m s hj hjS hm hf h12 hno
      obtain ⟨m, rfl⟩ : ∃ n, m = n + 1 := ⟨m - 1, by omega⟩
      have hM2 := CMe_fr7 hM hf
      have hB2 := CBl_fr7 hB hf
      obtain ⟨τ, rc, r1, r2, r3⟩ := s_range w hN hM2 hB2 hc (b := b) (fun _ => hb) (x := -((j + 1 : Nat) : Int)) ⟨by omega, by omega⟩ (fun _ => by omega)
      have h12' : Fq τ 12 g h := Fq_o h12 (r2.2 12 (by omega) (by omega) (by omega))
      have hf2 := fr7_tr hf (fr9_7 r2)
      have hb51 : ∀ s', f_X0_spareStrength_b51 N (fun x3_ σ_ => f_X0_spareStrength_h20 N (nt (c : Nat)) (nt (b : Nat)) m x3_ σ_) (nt (c : Nat)) (nt (b : Nat)) (nt ((j + 1 : Nat) : Int)) s' = f_X0_spareStrength_h20 N (nt (c : Nat)) (nt (b : Nat)) m (nt (j : Nat)) s' := fun s' => by
        rw [f_X0_spareStrength_b51, n_m1, nt_add, bd_eq]
        have : ((j + 1 : Nat) : Int) + -1 = (j : Nat) := by omega
        rw [this]
      have hgo : ¬ Spr φ c b ((j + 1 : Nat) : Int) → ∃ τ' r, f_X0_spareStrength_h20 N (nt (c : Nat)) (nt (b : Nat)) m (nt (j : Nat)) τ = some (nt (r : Nat), τ') ∧ fr7 σ τ' ∧ mxn (fun n => Spr φ c b (n : Nat)) (S - 1).toNat r := fun hn => by
        refine ih m τ (by omega) (by omega) (by omega) hf2 h12' (fun k hk hk2 => ?_)
        by_cases a : k = j + 1
        · subst a; exact hn
        · exact hno k (by omega) hk2
      have hsub : ∀ f, FS φ c (Sx φ b (-((j + 1 : Nat) : Int))) f → FS φ c (φ.1 5) f := fun f hf => FS_mono w (fun b' _ => by unfold Sx; split <;> omega) hf
      rw [f_X0_spareStrength_h20, n_0, le_f (by omega) (by omega) (by omega), nt_neg, r1, obd_some]
      rcases r3 with ⟨rfl, r4⟩ | ⟨rfl, r4⟩ | ⟨rfl, g', h', l', k', q1, q2, q3, q4, q5, q6, q7⟩
      · rw [eq_f (by omega) (by omega) (by omega) (by omega) (by omega), hb51]
        exact hgo (fun ⟨x, hx, _⟩ => r4 x hx)
      · exfalso
        have := hG0.2 _ (hsub _ (r4 ((g : Rat) * (h : Rat)⁻¹ + 1)))
        grind
      · obtain ⟨hG1, _, _⟩ := Lim_G q3
        have hsame : g' * h = g * h' ↔ Spr φ c b ((j + 1 : Nat) : Int) := by
          rw [q_same q3.1 hh0]
          constructor
          · intro hq
            exact ⟨_, hG1.1, fun f hf => by rw [hq]; exact hG0.2 f hf⟩
          · rintro ⟨x, x1, x2⟩
            have a1 := hG1.2 x x1
            have a2 := x2 _ hG0.1
            have a3 := hG0.2 _ (hsub _ hG1.1)
            grind
        have q31 := q3.1
        rw [eq_t rfl, s_isSame (by omega) (isc_f ⟨by omega, by omega⟩) (isc_f ⟨by omega, by omega⟩) q1 h12' ⟨by omega, by omega⟩ ⟨by omega, by omega⟩ ⟨by omega, by omega⟩ ⟨by omega, by omega⟩ q31 hh0, obd_some, n_0.symm, br_p]
        by_cases a : g' * h = g * h'
        · rw [if_pos a]
          refine ⟨τ, j + 1, rfl, hf2, Or.inr (hsame.mp a), by omega, hno⟩
        · rw [if_neg a, hb51]
          exact hgo (fun w => a (hsame.mpr w))
  unfold f_X0_spareStrength
  have g60 : gI s0 60 b = nt S := by unfold gI; rw [e3, hS]; exact hB.2.1 b hb
  rw [e1, obd_some, ck_inb (by omega) (by omega) (by omega), nat_k (by omega), g60, n_1, nt_sub, bd_eq]
  rw [← hS] at hst ⊢
  have hj : ((S - 1).toNat : Int) = S - 1 := by omega
  have := key (S - 1).toNat N s0 (by omega) (by omega) (by omega) f0 e2 (fun k a b => by omega)
  rw [hj] at this
  exact this
theorem s_weakest (w : WF φ) (hN : 1200 ≤ N) {σ : ZS} {L : List Nat} (hM : CMe φ pi σ L) (hB : CBl φ pi σ L) {c : Nat} (hc : 1 ≤ c ∧ c ≤ 2) {g h l k : Int} (h9 : Fq σ 9 g h) (hLim : Lim φ c (φ.1 5) g h l k) (hg : g.natAbs ≤ 1358954496) (hh : h ≤ 440401920) : ∃ τ, f_X0_weakestBar N (nt (c : Nat)) σ = some (nt (wkf (fun b => GV φ c (Sx φ b 1)) (nb φ) 0 (GV φ c (φ.1 5)) (-6)), τ) ∧ fr7 σ τ := by
  have hw2 := w.2.1
  have hh0 := hLim.1
  obtain ⟨hG0, _, _⟩ := Lim_G hLim
  obtain ⟨s0, e1, e2, e3, e4⟩ := s_fcopy (N := N) (σ := σ) (c := 12) (d := 9) (isc_f ⟨by omega, by omega⟩) (isc_f ⟨by omega, by omega⟩) h9
  have f0 : fr7 σ s0 := ⟨fun d _ => by rw [e3], fun k _ => by unfold gI; rw [e3], fun d _ d2 => e4 d (by omega)⟩
  have key : ∀ (j b m : Nat) (s : ZS) (x y r : Int), b + j = nb φ → j + 1 ≤ m → fr7 σ s → Fq s 12 x y → x.natAbs ≤ 1358954496 → 0 < y ∧ y ≤ 440401920 → ∃ τ, f_X0_weakestBar_h16 N (nt (c : Nat)) m (nt r) (nt (b : Nat)) s = some (nt (wkf (fun b => GV φ c (Sx φ b 1)) j b ((x : Rat) * (y : Rat)⁻¹) r), τ) ∧ fr7 σ τ := by
    intro j
    induction j with
    | zero =>
      intro b m s x y r hj hm hf h12 hx hy
      obtain ⟨m, rfl⟩ : ∃ n, m = n + 1 := ⟨m - 1, by omega⟩
      refine ⟨s, ?_, hf⟩
      rw [f_X0_weakestBar_h16, hf.2.1 2 (by omega), hB.1, le_t (by omega) (by omega) (by omega)]
      rfl
    | succ j ih =>
      intro b m s x y r hj hm hf h12 hx hy
      obtain ⟨m, rfl⟩ : ∃ n, m = n + 1 := ⟨m - 1, by omega⟩
      have hM2 := CMe_fr7 hM hf
      have hB2 := CBl_fr7 hB hf
      have hst := (w.2.2.2.1 b (by omega)).2.2.2.2
      obtain ⟨τ, rc, r1, r2, r3⟩ := s_range w hN hM2 hB2 hc (b := b) (fun _ => by omega) (x := 1) ⟨by omega, by omega⟩ (fun _ => by omega)
      have h12' : Fq τ 12 x y := Fq_o h12 (r2.2 12 (by omega) (by omega) (by omega))
      have hf2 := fr7_tr hf (fr9_7 r2)
      have hb61 : ∀ (r : Int) s', f_X0_weakestBar_b61 N (fun x2_ x3_ σ_ => f_X0_weakestBar_h16 N (nt (c : Nat)) m x2_ x3_ σ_) (nt (c : Nat)) (nt r) (nt (b : Nat)) s' = f_X0_weakestBar_h16 N (nt (c : Nat)) m (nt r) (nt ((b + 1 : Nat) : Int)) s' := fun r s' => by
        rw [f_X0_weakestBar_b61, n_1, nt_add, bd_eq]; rfl
      have hsub : ∀ f, FS φ c (φ.1 5) f → FS φ c (Sx φ b 1) f := fun f hf => FS_mono w (fun b' _ => by unfold Sx; split <;> omega) hf
      have r1' : f_X0_range N (nt (c : Nat)) (nt (b : Nat)) (1 : Int32) s = some (nt rc, τ) := r1
      rw [f_X0_weakestBar_h16, hf.2.1 2 (by omega), hB.1, le_f (by omega) (by omega) (by omega), r1', obd_some]
      rcases r3 with ⟨rfl, r4⟩ | ⟨rfl, r4⟩ | ⟨rfl, g', h', l', k', q1, q2, q3, q4, q5, q6, q7⟩
      · exact absurd (hsub _ hG0.1) (r4 _)
      · exfalso
        have := hG0.2 _ (FS_all r4 hG0.1 ((g : Rat) * (h : Rat)⁻¹ + 1))
        grind
      · obtain ⟨hG1, _, _⟩ := Lim_G q3
        have q31 := q3.1
        have hGb : GV φ c (Sx φ b 1) = (g' : Rat) * (h' : Rat)⁻¹ := GV_of hG1
        rw [n_0, eq_t rfl, s_isBelow (by omega) (isc_f ⟨by omega, by omega⟩) (isc_f ⟨by omega, by omega⟩) h12' q1 ⟨by omega, by omega⟩ ⟨by omega, by omega⟩ ⟨by omega, by omega⟩ ⟨by omega, by omega⟩ hy.1 q31, obd_some, n_0.symm, br_p]
        have hlt := q_mul_lt (a := x) (b := y) (c := g') (d := h') hy.1 q31
        rw [wkf, hGb]
        by_cases a : x * h' < g' * y
        · rw [if_pos a, if_pos (hlt.mp a)]
          obtain ⟨s1, u1, u2, u3, u4⟩ := s_fcopy (N := N) (σ := τ) (c := 12) (d := 9) (isc_f ⟨by omega, by omega⟩) (isc_f ⟨by omega, by omega⟩) q1
          rw [u1, obd_some, hb61]
          exact ih (b + 1) m s1 g' h' (b : Nat) (by omega) (by omega) (fr7_tr hf2 ⟨fun d _ => by rw [u3], fun k _ => by unfold gI; rw [u3], fun d _ d2 => u4 d (by omega)⟩) u2 q4 ⟨q31, q6⟩
        · rw [if_neg a, if_neg (fun w => a (hlt.mpr w)), hb61]
          exact ih (b + 1) m τ x y r (by omega) (by omega) hf2 h12' hx hy
  unfold f_X0_weakestBar
  rw [e1, obd_some, GV_of hG0]
  exact key (nb φ) 0 N s0 g h (-6) (by omega) (by omega) f0 e2 hg ⟨hh0, hh⟩
end
