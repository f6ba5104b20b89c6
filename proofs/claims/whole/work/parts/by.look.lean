-- ===== the reference looks for the factors of a case =====
section
variable {N : Nat} {σ : ZS} {φ : FR}
/-- the loads of a single case, at no factor -/
def T1c : Nat → Int := fun c => if c = 0 then 1 else if c = 1 then 0 else 0
theorem pT_1 (j : Nat) : pT φ T1c 1 j = pq φ 0 j := by
  unfold pT T1c
  have h1 : ((((1 : Int)) : Rat))⁻¹ = 1 := by
    have h := Rat.mul_inv_cancel (1 : Rat) (by decide)
    rw [Rat.one_mul] at h
    exact h
  have h2 : (((1 : Int)) : Rat) = 1 := rfl
  have h3 : (((0 : Int)) : Rat) = 0 := rfl
  rw [if_pos rfl, if_neg (by decide), if_pos rfl, if_neg (by decide), if_neg (by decide), h1, h2, h3]
  grind
theorem crn_Fz (w : WF φ) {s : ZS} {Cm c : Nat} (hc : c < 3) (hends : ∀ k, k < 12 → Cm.testBit k = true → k < 2 * nb φ) (hL : OneL Cm c) {P : Nat → Nat → Int} {pi : Nat → Nat} {B1 B2 : Nat} (hV : SLV φ s Cm P pi B1 B2) {S : Nat → Int} (hS : ∀ b, b < nb φ → 0 ≤ S b) {g : Nat} (hW : Win φ Cm P pi S T1c 1 g) : Fz φ c S (-(yq φ Cm P pi S T1c 1 c g)) (zq φ Cm P pi S T1c 1 g) := by
  refine ⟨(crn_win w hV hS T1c (by decide) g).mp hW, fun j hj => ?_⟩
  have h1 := crn_q w hc hends hL hV S T1c (by_ := 1) (by decide) g hj
  have h2 : ((T1c 0 : Rat) * pq φ 0 j + (T1c 1 : Rat) * pq φ 1 j + (T1c 2 : Rat) * pq φ 2 j) * (((1 : Int)) : Rat)⁻¹ = pq φ 0 j := pT_1 j
  rw [h2] at h1
  unfold PF
  grind
/-- one step of the signs -/
theorem m_lookOne (w : WF φ) (hN : 200 ≤ N) (hd12 : dd φ ≤ 12) {Cm c : Nat} (hc : c < 3) (hends : ∀ k, k < 12 → Cm.testBit k = true → k < 2 * nb φ) (hL : OneL Cm c) (hbL : Cm.testBit (12 + c) = true) {P : Nat → Nat → Int} {pi : Nat → Nat} {S : Nat → Int} {s0 : ZS} (hV : SLV φ s0 Cm P pi 36700160 2569011200) (kb : Int32 → Int32 → ZS → Option (Int32 × ZS)) (x : Nat) (hx : x < 4096) {t : Nat} (n : Nat) {s : ZS} (hs : SES φ Cm P pi S T1c 1 t s) {a : Int} {V : Rat → Prop} (hA : AN φ c S a s V) : ∃ a' s', f_X6_lookFor_h144 N kb (nt (c : Nat)) (nt (x : Nat)) (n + 1) (nt a) (nt 1) s = obd (f_X6_isNext N s') (fun v22 σ23 => f_X6_lookFor_h144 N kb (nt (c : Nat)) (nt (x : Nat)) n (nt a') v22 σ23) ∧ AN φ c S a' s' (fun f => V f ∨ (Win φ Cm P pi S T1c 1 (gr2 t) ∧ f = -(yq φ Cm P pi S T1c 1 c (gr2 t)))) ∧ frT s s' := by
  have hSn : ∀ b, b < nb φ → 0 ≤ S b := fun b hb => (Stg_S hs.1.2.2.2.1 b hb).1
  rcases m_within (N := N) w hN hd12 hs hV (by decide) (by decide) with ⟨h1, h2⟩ | ⟨h1, h2⟩
  · have hF := crn_Fz w hc hends hL hV hSn h1
    have hBb := hV.2.2.2.2.1
    have hB0 := hV.1.2.2.1
    have hBs := hs.2.2.2.2
    have hi : cn (12 + c) (bt Cm) < dd φ := by
      have := cn_up (s := bt Cm) (show 12 + c < 15 by omega) hbL
      rw [hV.2.2.1] at this
      exact this
    have hvb : (val φ Cm P pi S T1c 1 (cn (12 + c) (bt Cm)) (gr2 t)).natAbs ≤ 99530833920 := Nat.le_trans (val_bd w hV (Stg_S hs.1.2.2.2.1) T1c (by_ := 1) hi (gr2 t)) (by decide)
    have hval := (hs.2.1 (12 + c) (by omega) hbL).1
    obtain ⟨v, hv⟩ : ∃ v, v = val φ Cm P pi S T1c 1 (cn (12 + c) (bt Cm)) (gr2 t) := ⟨_, rfl⟩
    obtain ⟨B, hB⟩ : ∃ B, B = dt (dd φ) P := ⟨_, rfl⟩
    rw [← hv] at hval hvb
    rw [← hB] at hBb hB0 hBs
    obtain ⟨u, hu⟩ : ∃ u : Int, u = if B < 0 then v else -v := ⟨_, rfl⟩
    obtain ⟨l, hl⟩ : ∃ l : Int, l = if B < 0 then -12 * B else 12 * B := ⟨_, rfl⟩
    have hub : u.natAbs ≤ 4000000000000000000 := by rw [hu]; split <;> omega
    have hlb : 0 < l ∧ l ≤ 4000000000000000000 := by rw [hl]; split <;> omega
    have hq : (u : Rat) * (l : Rat)⁻¹ = -(yq φ Cm P pi S T1c 1 c (gr2 t)) := by
      unfold yq yIn DnI
      rw [if_pos hbL, ← hv, ← hB]
      have hB0' : ((12 * 1 * B : Int) : Rat) ≠ 0 := fun q => by have := q_0.mp q; omega
      by_cases q : B < 0
      · rw [hu, hl, if_pos q, if_pos q]
        have e1 : ((-12 * B : Int) : Rat) = -((12 * 1 * B : Int) : Rat) := by rw [← Rat.intCast_neg]; exact congrArg _ (by omega)
        rw [e1]
        have h2 := Rat.mul_inv_cancel _ hB0'
        have h3 : -((12 * 1 * B : Int) : Rat) ≠ 0 := fun z => hB0' (by grind)
        have h4 := Rat.mul_inv_cancel _ h3
        generalize ((12 * 1 * B : Int) : Rat)⁻¹ = i at *
        generalize (-((12 * 1 * B : Int) : Rat))⁻¹ = i2 at *
        generalize ((12 * 1 * B : Int) : Rat) = D at *
        have h5 : i2 = -i := by
          have : i2 * (D * i) = -(i * (-D * i2)) := by grind
          rw [h2, h4] at this
          grind
        rw [h5]; grind
      · rw [hu, hl, if_neg q, if_neg q, Rat.intCast_neg, show (12 : Int) * 1 * B = 12 * B by omega]
        grind
    have hz : ∃ z, Fz φ c S ((u : Rat) * (l : Rat)⁻¹) z := ⟨_, by rw [hq]; exact hF⟩
    obtain ⟨s1, s2, e1, e2, e3, e4, e5⟩ := m_sides (N := N) hN hA hub hlb hz
    have hB1 : gJ s1 1067 29 = jl B := by unfold gJ; rw [e4.2 1067 (by decide)]; exact hBs
    have b279 : ∀ y σ', f_X6_lookFor_b279 N (fun x3_ x5_ σ_ => f_X6_lookFor_h144 N kb (nt (c : Nat)) (nt (x : Nat)) n x3_ x5_ σ_) (nt (c : Nat)) y (nt (x : Nat)) σ' = obd (f_X6_isNext N σ') (fun v22 σ23 => f_X6_lookFor_h144 N kb (nt (c : Nat)) (nt (x : Nat)) n y v22 σ23) := fun y σ' => rfl
    have n0 : (0 : Int32) = nt 0 := rfl
    have n1 : (1 : Int32) = nt 1 := rfl
    have b244 : ∀ fi : Int, fi = (if a = 0 then 1 else 0) → f_X6_lookFor_b244 N (fun x3_ x5_ σ_ => f_X6_lookFor_h144 N kb (nt (c : Nat)) (nt (x : Nat)) n x3_ x5_ σ_) (nt (c : Nat)) (nt (x : Nat)) (jl u) (nt 1) (nt fi) s1 = obd (f_X6_isNext N s2) (fun v22 σ23 => f_X6_lookFor_h144 N kb (nt (c : Nat)) (nt (x : Nat)) n (nt 1) v22 σ23) := fun fi hfi => by
      rw [← hfi] at e2
      unfold f_X6_lookFor_b244 f_X6_lookFor_b274
      rw [hB1, j_0]
      by_cases q : B < 0
      · rw [if_pos q] at hl
        rw [jlt_t q (by omega) (by omega), j_m12, jl_mul, ← hl, e2, obd_some, n1, b279]
      · rw [if_neg q] at hl
        rw [jlt_f (by omega) (by omega) (by omega), j_12, jl_mul, ← hl, e2, obd_some, n1, b279]
    have b230 : ∀ fi : Int, fi = (if a = 0 then 1 else 0) → f_X6_lookFor_b230 N (fun x3_ x5_ σ_ => f_X6_lookFor_h144 N kb (nt (c : Nat)) (nt (x : Nat)) n x3_ x5_ σ_) (nt (c : Nat)) (nt a) (nt (x : Nat)) (jl u) (nt 0) (nt fi) (jl u) (jl l) s = obd (f_X6_isNext N s2) (fun v22 σ23 => f_X6_lookFor_h144 N kb (nt (c : Nat)) (nt (x : Nat)) n (nt 1) v22 σ23) := fun fi hfi => by
      have e1 := e1
      rw [← hfi] at e1
      unfold f_X6_lookFor_b230
      rw [e1, obd_some, n1, n0]
      rcases AN_01 hA with rfl | rfl
      · rw [if_pos rfl, b244 1 rfl]
      · rw [if_neg (by decide), b244 0 rfl]
    have b200 : ∀ fi : Int, fi = (if a = 0 then 1 else 0) → f_X6_lookFor_b200 N (fun x3_ x5_ σ_ => f_X6_lookFor_h144 N kb (nt (c : Nat)) (nt (x : Nat)) n x3_ x5_ σ_) (nt (c : Nat)) (nt a) (nt (x : Nat)) (jl u) (nt 0) (nt fi) s = obd (f_X6_isNext N s2) (fun v22 σ23 => f_X6_lookFor_h144 N kb (nt (c : Nat)) (nt (x : Nat)) n (nt 1) v22 σ23) := fun fi hfi => by
      unfold f_X6_lookFor_b200
      rw [hBs, j_0]
      by_cases q : B < 0
      · rw [if_pos q] at hl
        rw [jlt_t q (by omega) (by omega), j_m12, jl_mul, ← hl, b230 fi hfi]
      · rw [if_neg q] at hl
        rw [jlt_f (by omega) (by omega) (by omega), j_12, jl_mul, ← hl, b230 fi hfi]
    have b187 : f_X6_lookFor_b187 N (fun x3_ x5_ σ_ => f_X6_lookFor_h144 N kb (nt (c : Nat)) (nt (x : Nat)) n x3_ x5_ σ_) (nt (c : Nat)) (nt a) (nt (x : Nat)) (jl u) s = obd (f_X6_isNext N s2) (fun v22 σ23 => f_X6_lookFor_h144 N kb (nt (c : Nat)) (nt (x : Nat)) n (nt 1) v22 σ23) := by
      unfold f_X6_lookFor_b187
      rw [n0, n1]
      rcases AN_01 hA with rfl | rfl
      · rw [if_pos rfl, b200 1 rfl]
      · rw [if_neg (by decide), b200 0 rfl]
    refine ⟨1, s2, ?_, ?_, e5⟩
    · rw [f_X6_lookFor_h144, if_neg (by decide), h2, obd_some, if_neg (by decide), hBs, j_0, n_12, nt_add, nat_nt (by omega) (by omega), show ((12 : Int) + (c : Nat)).toNat = 12 + c by omega, hval, jl_neg]
      by_cases q : B < 0
      · rw [if_pos q] at hu
        rw [jlt_t q (by omega) (by omega), ck_inb (by omega) (by omega) (by omega), ← hu, b187]
      · rw [if_neg q] at hu
        rw [jlt_f (by omega) (by omega) (by omega), ck_inb (by omega) (by omega) (by omega), ← hu, b187]
    · refine AN_o e3 rfl rfl (fun f hf => ?_)
      rcases hf with hf | ⟨_, hf⟩
      · exact Or.inl hf
      · exact Or.inr (by rw [hf, hq])
  · refine ⟨a, s, ?_, AN_o hA rfl rfl (fun f hf => ?_), frT_rf s⟩
    · rw [f_X6_lookFor_h144, if_neg (by decide), h2, obd_some, if_pos (by decide)]
      rfl
    · rcases hf with hf | ⟨hw, _⟩
      · exact hf
      · exact absurd hw h1
theorem m_lookIn (w : WF φ) (hN : 200 ≤ N) (hd12 : dd φ ≤ 12) {Cm c : Nat} (hc : c < 3) (hends : ∀ k, k < 12 → Cm.testBit k = true → k < 2 * nb φ) (hL : OneL Cm c) (hbL : Cm.testBit (12 + c) = true) {P : Nat → Nat → Int} {pi : Nat → Nat} {S : Nat → Int} {s0 : ZS} (hV : SLV φ s0 Cm P pi 36700160 2569011200) (kb : Int32 → Int32 → ZS → Option (Int32 × ZS)) (x : Nat) (hx : x < 4096) : ∀ (r t n : Nat) (s : ZS) (a : Int) (V : Rat → Prop), t + r + 1 = 2 ^ cn (2 * nb φ) (ff Cm) → r + 2 ≤ n → SES φ Cm P pi S T1c 1 t s → AN φ c S a s V → ∃ a' τ, f_X6_lookFor_h144 N kb (nt (c : Nat)) (nt (x : Nat)) n (nt a) (nt 1) s = f_X6_lookFor_b288 N kb (nt (c : Nat)) (nt a') (nt (x : Nat)) τ ∧ PRE φ S T1c 1 τ ∧ AN φ c S a' τ (fun f => V f ∨ ∃ t', t ≤ t' ∧ t' < 2 ^ cn (2 * nb φ) (ff Cm) ∧ Win φ Cm P pi S T1c 1 (gr2 t') ∧ f = -(yq φ Cm P pi S T1c 1 c (gr2 t'))) ∧ frQ s τ := by
  intro r
  induction r with
  | zero =>
    intro t n s a V ht hn hs hA
    obtain ⟨n, rfl⟩ : ∃ m, n = m + 2 := ⟨n - 2, by omega⟩
    obtain ⟨a', s', e1, e2, e3⟩ := m_lookOne (N := N) w hN hd12 hc hends hL hbL hV kb x hx (n + 1) hs hA
    rcases m_next (N := N) w hN (SES_T e3 hs) (by omega) with ⟨a1, τ, a2, a3, a4⟩ | ⟨a1, _⟩
    · refine ⟨a', τ, ?_, a3, AN_o e2 (a4.2.2 _ (by decide) (by decide)) (a4.2.2 _ (by decide) (by decide)) (fun f hf => ?_), frQ_tr (frT_Q e3) (frB_Q a4)⟩
      · rw [e1, a2, obd_some, f_X6_lookFor_h144, if_pos (by decide)]
      · rcases hf with hf | ⟨t', b1, b2, b3, b4⟩
        · exact Or.inl hf
        · obtain rfl : t' = t := by omega
          exact Or.inr ⟨b3, b4⟩
    · omega
  | succ r ih =>
    intro t n s a V ht hn hs hA
    obtain ⟨n, rfl⟩ : ∃ m, n = m + 1 := ⟨n - 1, by omega⟩
    obtain ⟨a', s', e1, e2, e3⟩ := m_lookOne (N := N) w hN hd12 hc hends hL hbL hV kb x hx n hs hA
    rcases m_next (N := N) w hN (SES_T e3 hs) (by omega) with ⟨a1, _⟩ | ⟨a1, τ, a2, a3, a4⟩
    · omega
    · have e2' : AN φ c S a' τ _ := AN_o e2 (a4.2.2 _ (by decide) (by decide)) (a4.2.2 _ (by decide) (by decide)) (fun f hf => hf)
      obtain ⟨a2', τ2, b1, b2, b3, b4⟩ := ih (t + 1) n τ a' _ (by omega) (by omega) a3 e2'
      refine ⟨a2', τ2, ?_, b2, AN_o b3 rfl rfl (fun f hf => ?_), frQ_tr (frT_Q e3) (frQ_tr (frB_Q a4) b4)⟩
      · rw [e1, a2, obd_some, b1]
      · rcases hf with hf | ⟨t', c1, c2, c3, c4⟩
        · exact Or.inl (Or.inl hf)
        · by_cases q : t' = t
          · subst q; exact Or.inl (Or.inr ⟨c3, c4⟩)
          · exact Or.inr ⟨t', by omega, c2, c3, c4⟩
end
