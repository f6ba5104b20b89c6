-- ===== the class: limit loads, moments =====
/-- the loads of a case at a factor -/
noncomputable def PF (φ : FR) (c : Nat) (f : Rat) : Nat → Rat := fun j => pq φ 0 j + f * pq φ c j
/-- the limit loads stand ready -/
def LmL (σ : ZS) (c : Nat) (u v : Int) : Prop := gI σ 7 9 = nt (c : Nat) ∧ gJ σ 7 10 = jl u ∧ gJ σ 7 11 = jl v ∧ 0 < v ∧ v ≤ 440401920 ∧ u.natAbs ≤ 1358954496
/-- only what weighing leaves free changes -/
def fr7 (σ τ : ZS) : Prop := (∀ c, c ≠ 7 → τ.1 c = σ.1 c) ∧ (∀ k, k ≠ 9 → gI τ 7 k = gI σ 7 k) ∧ ∀ d, d ≠ 7 → (d < 9 ∨ 12 < d) → τ.2 d = σ.2 d
theorem fr7_rf (σ : ZS) : fr7 σ σ := ⟨fun _ _ => rfl, fun _ _ => rfl, fun _ _ _ => rfl⟩
theorem fr7_tr {a b c : ZS} (h : fr7 a b) (h2 : fr7 b c) : fr7 a c := ⟨fun d e => (h2.1 d e).trans (h.1 d e), fun d e => (h2.2.1 d e).trans (h.2.1 d e), fun d e f => (h2.2.2 d e f).trans (h.2.2 d e f)⟩
theorem fr9_7 {σ τ : ZS} (h : fr9 σ τ) : fr7 σ τ := ⟨fun c _ => by rw [h.1], fun k _ => by unfold gI; rw [h.1], fun d _ d2 => h.2 d (by omega) (by omega) (by omega)⟩
theorem LmL_9 {σ τ : ZS} {c : Nat} {u v : Int} (h : LmL σ c u v) (f : fr9 σ τ) : LmL τ c u v := by
  obtain ⟨h1, h2, h3, h4⟩ := h
  refine ⟨by unfold gI; rw [f.1]; exact h1, ?_, ?_, h4⟩
  · unfold gJ; rw [f.2 7 (by omega) (by omega) (by omega)]; exact h2
  · unfold gJ; rw [f.2 7 (by omega) (by omega) (by omega)]; exact h3
section
variable {N : Nat} {φ : FR} {pi : Nat → Nat}
theorem CW_fr7 {σ τ : ZS} {k s : Nat} {q : Nat → Rat} {r : Nat → Int} {St : Int} {W : Nat → Int} (h : CW φ pi σ k s q r St W) (f : fr7 σ τ) : CW φ pi τ k s q r St W :=
  CW_o h (f.2.2 _ (by omega) (by omega)) (fun c _ => by unfold gJ; rw [f.2.2 _ (by omega) (by omega)])
theorem CMe_fr7 {σ τ : ZS} {L : List Nat} (h : CMe φ pi σ L) (f : fr7 σ τ) : CMe φ pi τ L := by
  obtain ⟨h1, h2, h3, h4, h5⟩ := h
  refine ⟨h1, h2, h3, by unfold gI; rw [f.1 6 (by omega)]; exact h4, fun k s hk => ?_⟩
  obtain ⟨a1, r, a2, a3⟩ := h5 k s hk
  exact ⟨by unfold gI; rw [f.1 59 (by omega)]; exact a1, r, Row_o a2 (f.2.2 _ (by omega) (by omega)), a3⟩
theorem CBl_fr7 {σ τ : ZS} {L : List Nat} (h : CBl φ pi σ L) (f : fr7 σ τ) : CBl φ pi τ L := by
  obtain ⟨h1, h2, h3⟩ := h
  refine ⟨by rw [f.2.1 2 (by omega)]; exact h1, fun b hb => by unfold gI; rw [f.1 60 (by omega)]; exact h2 b hb, fun k s hk => ?_⟩
  obtain ⟨q, r, St, W, hw⟩ := h3 k s hk
  exact ⟨q, r, St, W, CW_fr7 hw f⟩
theorem CA_fr7 {σ τ : ZS} {n : Nat} {Q : Nat → Nat → Rat} {R : Nat → Nat → Int} {ST : Nat → Int} {WW : Nat → Nat → Int} (h : CA φ pi σ n Q R ST WW) (f : fr7 σ τ) : CA φ pi τ n Q R ST WW := fun k hk => by
  obtain ⟨s, hw⟩ := h k hk
  exact ⟨s, CW_fr7 hw f⟩
theorem s_take (hN : 200 ≤ N) {σ : ZS} {g h l k : Int} (h9 : Fq σ 9 g h) (h10 : Fq σ 10 l k) (hg : g.natAbs ≤ 1358954496) (hh : 0 < h ∧ h ≤ 440401920) (hl : l.natAbs ≤ 1358954496) (hk : 0 < k ∧ k ≤ 440401920) {c : Nat} {sd : Int} (hs : sd = 0 ∨ sd = 1) : ∃ τ, f_X0_takeLimitLoads N (nt (c : Nat)) (nt sd) σ = some ((), τ) ∧ fr7 σ τ ∧ LmL τ c (if sd = 0 then rn g h else rn l k) (if sd = 0 then rd g h else rd l k) := by
  have gen : ∀ (d : Nat) (u v : Int), d = 9 ∨ d = 10 → Fq σ d u v → u.natAbs ≤ 1358954496 → 0 < v ∧ v ≤ 440401920 → (∀ σ', f_X0_limit N (nt sd) σ' = some (d, σ')) → ∃ τ, f_X0_takeLimitLoads N (nt (c : Nat)) (nt sd) σ = some ((), τ) ∧ fr7 σ τ ∧ LmL τ c (rn u v) (rd u v) := by
    intro d u v hd hf hu hv hlim
    have hic : isc d 1 = true := isc_f ⟨by omega, by omega⟩
    have f0 : Fq (sI σ 7 9 (nt (c : Nat))) d u v := hf
    obtain ⟨s1, e1, e2, e3, e4⟩ := s_lowest (σ := sI σ 7 9 (nt (c : Nat))) hN hic f0 ⟨by omega, by omega⟩ ⟨by omega, by omega⟩ hv.1 (q := 0) (Or.inl rfl)
    have ha := rn_abs (u := u) hv.1
    have hb := rd_le (u := u) hv.1
    have hb0 := @rd_pos u v
    have f1 : Fq (sJ s1 7 10 (jl (rn u v))) d (rn u v) (rd u v) := by
      unfold Fq; rw [gJ_sJ_c (by omega), gJ_sJ_c (by omega)]; exact e2
    obtain ⟨s2, g1, g2, g3, g4⟩ := s_lowest (σ := sJ s1 7 10 (jl (rn u v))) hN hic f1 ⟨by omega, by omega⟩ ⟨by omega, by omega⟩ hb0 (q := 1) (Or.inr rfl)
    refine ⟨sJ s2 7 11 (jl (rd u v)), ?_, ⟨fun d hd => ?_, fun k hk => ?_, fun d' d1 d2 => ?_⟩, ?_, ?_, ?_, hb0, by omega, by omega⟩
    · unfold f_X0_takeLimitLoads
      rw [bd_eq, hlim, obd_some, ck_of hic, n_0, e1, obd_some, if_pos rfl, bd_eq, hlim, obd_some, ck_of hic, n_1, g1, obd_some, if_neg (by omega), rd_idem hv.1, bd_eq]
    · show s2.1 d = σ.1 d
      rw [g3]
      show s1.1 d = σ.1 d
      rw [e3, sI_o hd]
    · show gI s2 7 k = gI σ 7 k
      unfold gI
      rw [g3]
      show s1.1 7 k = σ.1 7 k
      rw [e3]
      exact gI_sI_k hk σ 7 7 (nt (c : Nat))
    · rw [sJ_o d1, g4 d' (by omega), sJ_o d1, e4 d' (by omega)]
      rfl
    · show gI s2 7 9 = _
      unfold gI
      rw [g3]
      show s1.1 7 9 = _
      rw [e3]
      exact gI_sI_at σ 7 9 (nt (c : Nat))
    · rw [gJ_sJ_k (by omega)]
      unfold gJ
      rw [g4 7 (by omega)]
      exact gJ_sJ_at s1 7 10 _
    · rw [gJ_sJ_at]
  rcases hs with rfl | rfl
  · rw [if_pos rfl, if_pos rfl]
    exact gen 9 g h (Or.inl rfl) h9 hg hh (fun σ' => by rw [f_X0_limit, n_0, eq_t rfl])
  · rw [if_neg (by omega), if_neg (by omega)]
    exact gen 10 l k (Or.inr rfl) h10 hl hk (fun σ' => by rw [f_X0_limit, n_0, eq_f (by omega) (by omega) (by omega) (by omega) (by omega)])
theorem s_limitWork {σ : ZS} {k s c : Nat} (hk : k < 924) (hc : c < 3) {q : Nat → Rat} {r : Nat → Int} {St : Int} {W : Nat → Int} (h : CW φ pi σ k s q r St W) {u v : Int} (hl : LmL σ c u v) : f_X0_limitWork N (nt (k : Nat)) σ = some (jl (W 0 * v + W c * u), σ) := by
  obtain ⟨_, _, _, _, _, ⟨a1, _, a3, a4⟩, a5⟩ := h
  obtain ⟨b1, _, b3⟩ := a5 c hc
  obtain ⟨c1, _, c3⟩ := a5 0 (by omega)
  have w0 : gJ σ (62 + (0 : Int32).toNatClampNeg) k = jl (W 0) := c1
  unfold f_X0_limitWork
  rw [i62 _ hk, hl.1, i6c _ hk hc, nat_k (by omega), nat_k (by omega), w0, b1, hl.2.1, hl.2.2.1, jl_mul, jl_mul, jl_add]
theorem lw_bd {u v W0 W1 : Int} (h0 : W0.natAbs ≤ 440401920) (h1 : W1.natAbs ≤ 440401920) (hv : 0 < v ∧ v ≤ 440401920) (hu : u.natAbs ≤ 1358954496) : (W0 * v + W1 * u).natAbs ≤ 792446074781564928 := by
  have m0 := mul_bd h0 (b := v) (B := 440401920) (by omega)
  have m1 := mul_bd h1 hu
  omega
theorem lw_q {φ : FR} {c : Nat} {q : Nat → Rat} {u v W0 W1 : Int} (hv : 0 < v) (h0 : (W0 : Rat) = dq (dd φ) (pq φ 0) q) (h1 : (W1 : Rat) = dq (dd φ) (pq φ c) q) : ((W0 * v + W1 * u : Int) : Rat) = dq (dd φ) (PF φ c ((u : Rat) * (v : Rat)⁻¹)) q * (v : Rat) := by
  have hi : (v : Rat) * (v : Rat)⁻¹ = 1 := Rat.mul_inv_cancel _ (fun w => by have := q_0.mp w; omega)
  have e : dq (dd φ) (PF φ c ((u : Rat) * (v : Rat)⁻¹)) q = dq (dd φ) (pq φ 0) q + (u : Rat) * (v : Rat)⁻¹ * dq (dd φ) (pq φ c) q := by
    have := dq_lin_l (dd φ) q (pq φ 0) (pq φ c) 1 ((u : Rat) * (v : Rat)⁻¹)
    rw [Rat.one_mul] at this
    rw [← this]
    exact dq_congr (fun j _ => by unfold PF; rw [Rat.one_mul]) (fun _ _ => rfl)
  rw [e, ← h0, ← h1, Rat.intCast_add, Rat.intCast_mul, Rat.intCast_mul]
  generalize (v : Rat)⁻¹ = i at *
  generalize (v : Rat) = V at *
  have : (u : Rat) * i * (W1 : Rat) * V = (W1 : Rat) * (u : Rat) * (V * i) := by grind
  rw [Rat.add_mul, this, hi, Rat.mul_one]
/-- a mechanism is just overcome -/
theorem s_isCritical {σ : ZS} {k s c : Nat} (hk : k < 924) (hc : c < 3) {q : Nat → Rat} {r : Nat → Int} {St : Int} {W : Nat → Int} (h : CW φ pi σ k s q r St W) {u v : Int} (hl : LmL σ c u v) : f_X0_isCritical N (nt (k : Nat)) σ = some (nt (if (W 0 * v + W c * u).natAbs = St * v then 1 else 0), σ) := by
  have hw := s_limitWork (N := N) hk hc h hl
  obtain ⟨_, _, _, _, _, ⟨a1, _, a3, a4⟩, a5⟩ := h
  obtain ⟨b1, _, b3⟩ := a5 c hc
  obtain ⟨c1, _, c3⟩ := a5 0 (by omega)
  have hb := lw_bd c3 b3 ⟨hl.2.2.2.1, hl.2.2.2.2.1⟩ hl.2.2.2.2.2
  have m1 := mul_bd (a := St) (A := 905969664) (b := v) (B := 440401920) (by omega) (by have := hl.2.2.2; omega)
  generalize W 0 * v + W c * u = T at *
  have hta : (if T < 0 then -T else T) = (T.natAbs : Int) := by split <;> omega
  unfold f_X0_isCritical
  rw [hw, obd_some, s_ABS N T ⟨by omega, by omega⟩, obd_some, hta, ck_inb (by omega) (by omega) (by omega), nat_k (by omega), a1, hl.2.2.1, jl_mul]
  by_cases e : (T.natAbs : Int) = St * v
  · rw [jeq_t e, if_pos e]; rfl
  · rw [jeq_f e (by omega) (by omega) (by omega) (by omega), if_neg e]; rfl
end
