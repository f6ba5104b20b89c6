-- ===== the class answers: mechanisms, twists, bounds, limits =====
section
variable {N : Nat} {φ : FR} {pi : Nat → Nat}
/-- asking leaves the class so -/
def Ask (φ : FR) (σ τ : ZS) : Prop := CK φ τ ∧ frC σ τ
theorem Ask_7 {σ s τ : ZS} (h : CK1 φ s) (f : frC σ s) (g : fr7 s τ) : Ask φ σ τ := ⟨CK1_K (CK1_fr7 h g), frC_tr f (fr7_C g)⟩
theorem Ask_rf {σ : ZS} (h : CK φ σ) : Ask φ σ σ := ⟨h, frC_rf σ⟩
theorem s_isLoose (w : WF φ) {σ : ZS} (h : CK1 φ σ) : f_X5_isLoose N σ = some (nt (if rk φ < dd φ then 1 else 0), σ) := by
  obtain ⟨_, _, pi, L, h1, _, h3, _⟩ := h
  have hdd := dd_le (φ := φ)
  have hw2 := w.2.1
  have hrk := rk_le (φ := φ)
  unfold f_X5_isLoose f_X4_looseness
  rw [h1.1, h1.2.1, nt_sub, obd_some, n_0]
  by_cases e : rk φ < dd φ
  · rw [le_f (by omega) (by omega) (by omega), if_pos e]; rfl
  · rw [le_t (by omega) (by omega) (by omega), if_neg e]
theorem s_isMechanism {σ : ZS} {L : List Nat} (hM : CMe φ pi σ L) {i : Int} (hi : iR i) : f_X5_isMechanism N (nt i) σ = some (nt (if 0 ≤ i ∧ i ≤ (L.length : Int) - 1 then 1 else 0), σ) := by
  have hL := hM.2.2.1
  unfold f_X5_isMechanism
  rw [hM.2.2.2.1, n_1, nt_sub, n_0, s_within N i 0 _ hi ⟨by omega, by omega⟩ ⟨by omega, by omega⟩, obd_some, bb_p]
theorem CMe_ML {σ : ZS} {L : List Nat} (hM : CMe φ pi σ L) : ML φ = L := ML_of ⟨hM.1, hM.2.1⟩
noncomputable def aMech (φ : FR) (i : Int) : Int := if rk φ < dd φ then -3 else if 0 ≤ i ∧ i ≤ ((ML φ).length : Int) - 1 then (nth (ML φ) i.toNat : Int) else -1
theorem c_mechanism (w : WF φ) (hN : 1200 ≤ N) {σ : ZS} (hc : CFr σ 0 φ) (hk : CK φ σ) {i : Int} (hi : iR i) : ∃ τ, f_X5_mechanism N (nt i) σ = some (nt (aMech φ i), τ) ∧ Ask φ σ τ := by
  obtain ⟨s, e1, e2, e3⟩ := s_refresh w hN hc hk
  refine ⟨s, ?_, Ask_7 e2 e3 (fr7_rf s)⟩
  have hl := s_isLoose (N := N) w e2
  obtain ⟨_, _, pi, L, h1, h2, h3, h4, h5, h6⟩ := id e2
  have hL := h5.2.2.1
  unfold f_X5_mechanism aMech
  rw [e1, obd_some, hl, obd_some, br_p, CMe_ML h5]
  by_cases a : rk φ < dd φ
  · rw [if_pos a, if_pos a]; rfl
  · rw [if_neg a, if_neg a, s_isMechanism h5 hi, obd_some, br_p]
    by_cases b : 0 ≤ i ∧ i ≤ (L.length : Int) - 1
    · have hk : i.toNat < L.length := by omega
      have hg := (h5.2.2.2.2 i.toNat _ (List.getElem?_eq_getElem hk)).1
      rw [if_pos b, if_pos b, ck_inb (by omega) (by omega) (by omega), nat_nt (by omega) (by omega), hg, nth_of (List.getElem?_eq_getElem hk)]
    · rw [if_neg b, if_neg b]; rfl
noncomputable def aTwist (φ : FR) (i e y : Int) : Int := if 0 ≤ y ∧ y ≤ 1 then (if rk φ < dd φ then -4000000000000000003 else if (0 ≤ i ∧ i ≤ ((ML φ).length : Int) - 1) ∧ 0 ≤ e ∧ e ≤ 2 * nb φ - 1 then ptR (twR φ (nth (ML φ) i.toNat) e.toNat) y else -4000000000000000001) else -4000000000000000002
theorem c_twist (w : WF φ) (hN : 1200 ≤ N) {σ : ZS} (hc : CFr σ 0 φ) (hk : CK φ σ) {i e y : Int} (hi : iR i) (he : iR e) (hy : iR y) : ∃ τ, f_X5_twist N (nt i) (nt e) (nt y) σ = some (jl (aTwist φ i e y), τ) ∧ Ask φ σ τ := by
  have hw2 := w.2.1
  unfold f_X5_twist aTwist
  rw [n_0, n_1, s_within N y 0 1 hy ⟨by omega, by omega⟩ ⟨by omega, by omega⟩, obd_some, n_0.symm, br_p]
  by_cases y1 : 0 ≤ y ∧ y ≤ 1
  rotate_left
  · rw [if_neg y1, if_neg y1]; exact ⟨σ, rfl, Ask_rf hk⟩
  rw [if_pos y1, if_pos y1]
  obtain ⟨s, e1, e2, e3⟩ := s_refresh w hN hc hk
  have hcs := frC_fr e3 hc
  have hl := s_isLoose (N := N) w e2
  obtain ⟨_, _, pi, L, h1, h2, h3, h4, h5, h6⟩ := id e2
  have hL := h5.2.2.1
  rw [e1, obd_some, hl, obd_some, br_p, CMe_ML h5]
  by_cases a : rk φ < dd φ
  · rw [if_pos a, if_pos a]; exact ⟨s, rfl, Ask_7 e2 e3 (fr7_rf s)⟩
  rw [if_neg a, if_neg a, s_isMechanism h5 hi, obd_some, br_p]
  by_cases b : 0 ≤ i ∧ i ≤ (L.length : Int) - 1
  rotate_left
  · rw [if_neg b, if_neg (fun w => b w.1)]; exact ⟨s, rfl, Ask_7 e2 e3 (fr7_rf s)⟩
  rw [if_pos b, s_isEnd hcs w he, obd_some, br_p]
  by_cases d : 0 ≤ e ∧ e ≤ 2 * nb φ - 1
  rotate_left
  · rw [if_neg d, if_neg (fun w => d w.2)]; exact ⟨s, rfl, Ask_7 e2 e3 (fr7_rf s)⟩
  rw [if_pos d, if_pos ⟨b, d⟩]
  have hk2 : i.toNat < L.length := by omega
  obtain ⟨q, r, St, W, hw⟩ := h6.2.2 i.toNat _ (List.getElem?_eq_getElem hk2)
  have hn : nth L i.toNat = mq φ q := (nth_of (List.getElem?_eq_getElem hk2)).trans hw.2.2.2.1
  have hg := (h5.2.2.2.2 i.toNat _ (List.getElem?_eq_getElem hk2)).1
  have hlt : mq φ q < 4096 := by
    have h1 : mq φ q < 2 ^ (2 * nb φ) := mkd_lt _ _ _
    have h2 : 2 ^ (2 * nb φ) ≤ 2 ^ 12 := Nat.pow_le_pow_right (by omega) (by omega)
    omega
  obtain ⟨z1, z2, z3, z4, z5, _, _⟩ := id hw
  have hrb := z2.2.2.2.1
  have hlow := z2.2.2.1
  have hL2 : L[i.toNat] = mq φ q := z4
  rw [hL2] at hg hlow
  obtain ⟨lo, hlo⟩ : ∃ lo, lo = lwb (mq φ q) := ⟨_, rfl⟩
  have i1 : (nt i).toNatClampNeg = i.toNat := nat_nt (by omega) (by omega)
  have i2 : (nt e).toNatClampNeg = e.toNat := nat_nt (by omega) (by omega)
  have htw : f_X3_twistOf N (nt i) (nt e) s = some (jl (r e.toNat), s) := by
    unfold f_X3_twistOf
    rw [ck_inb (by omega) (by omega) (by omega), i1, i2, ck_tg (tg_mot (by omega)), ln_mot (by omega), ck_inb (by omega) (by omega) (by omega), z1 _ (by unfold wd; omega)]
  rw [← hlo] at hlow
  have hlt2 : f_X3_lowestTwist N (nt i) s = some (jl (r lo), s) := by
    unfold f_X3_lowestTwist
    rw [ck_inb (by omega) (by omega) (by omega), i1, hg, s_ntz N hlt, obd_some, ← hlo, h1.2.2.1, le_f (by omega) (by omega) (by omega), ck_inb (by omega) (by omega) (by omega), ck_tg (tg_mot (by omega)), ln_mot (by omega), ck_inb (by omega) (by omega) (by omega), nat_k (by omega), z1 _ (by unfold wd; omega)]
  have hb1 := hrb e.toNat (by unfold wd; omega)
  have hb2 := hrb lo (by unfold wd; omega)
  obtain ⟨t1, f1, f2, f3, f4⟩ := s_put (N := N) (σ := s) (c := 8) (isc_f ⟨by omega, by omega⟩) (a := r e.toNat) (b := r lo) (by omega) ⟨by omega, by omega⟩
  obtain ⟨t2, g1, g2, g3, g4⟩ := s_lowest (N := N) (σ := t1) (by omega) (isc_f (c := 8) ⟨by omega, by omega⟩) f2 ⟨by omega, by omega⟩ ⟨by omega, by omega⟩ hlow.2 (q := y) (by omega)
  rw [htw, obd_some, hlt2, obd_some, f1, obd_some, g1, obd_some]
  refine ⟨t2, ?_, ?_⟩
  · congr 3
    rw [hn, twR_of hw.2.2.1 rfl, ← hlo, ← z5.1 e.toNat (by omega), ← z5.1 lo hlow.1]
    have hi : ∀ (b : Nat) (x : Rat), b < nb φ → x * ((lenB φ b : Int) : Rat) * ((lenB φ b : Int) : Rat)⁻¹ = x := fun b x hb => by
      rw [Rat.mul_assoc, Rat.mul_inv_cancel _ (len_q w hb), Rat.mul_one]
    have d2 : e.toNat / 2 < nb φ := by omega
    have d3 : lo / 2 < nb φ := by omega
    rw [hi _ _ d2, hi _ _ d3]
    unfold ptR
    rw [← rn_q, ← rd_q]
  · have hint : t2.1 = s.1 := by rw [g3, f3]
    have hlong : ∀ d, d ≠ 8 → t2.2 d = s.2 d := fun d hd => by rw [g4 d hd, f4 d hd]
    refine ⟨?_, frC_tr e3 ⟨fun c _ => by rw [hint], by unfold gI; rw [hint], fun c hc => hlong c (by omega)⟩⟩
    refine CK1_K ⟨by unfold gI; rw [hint]; exact e2.1, by unfold gI; rw [hint]; exact e2.2.1, pi, L, Sz_o h1 (by rw [hint]), CSh_o h2 (fun v _ => by rw [hint]), h3, h4, CMe_o h5 (by unfold gI; rw [hint]) (by rw [hint]) (fun c c1 c2 => hlong c (by omega)), ?_⟩
    refine ⟨by unfold gI; rw [hint]; exact h6.1, fun b hb => by unfold gI; rw [hint]; exact h6.2.1 b hb, fun k s' hk => ?_⟩
    obtain ⟨q', r', St', W', hw'⟩ := h6.2.2 k s' hk
    exact ⟨q', r', St', W', CW_o hw' (hlong _ (by omega)) (fun c hc => by unfold gJ; rw [hlong _ (by omega)])⟩
end
