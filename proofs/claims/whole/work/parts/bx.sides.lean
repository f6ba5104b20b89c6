-- ===== the reference takes sides =====
/-- a side's number in its cells -/
def SD (s : ZS) (sd : Nat) (x : Rat) : Prop := gJ s 1094 sd = jl x.num ∧ gJ s 1095 sd = jl (x.den : Int) ∧ x.num.natAbs ≤ 4000000000000000000 ∧ x.den ≤ 4000000000000000000
theorem rat_q (x : Rat) : (x.num : Rat) * (((x.den : Nat) : Int) : Rat)⁻¹ = x := by
  rw [q_div, Rat.num_divInt_den]
theorem SD_B {s τ : ZS} {sd : Nat} {x : Rat} (h : SD s sd x) (h1 : τ.2 1094 = s.2 1094) (h2 : τ.2 1095 = s.2 1095) : SD τ sd x := ⟨by unfold gJ; rw [h1]; exact h.1, by unfold gJ; rw [h2]; exact h.2.1, h.2.2⟩
section
variable {N : Nat} {σ : ZS} {φ : FR}
theorem m_takeSide (hN : 200 ≤ N) {sd : Nat} (hsd : sd < 2) {fi : Int} (hfi : fi = 0 ∨ fi = 1) {u l : Int} (hu : u.natAbs ≤ 4000000000000000000) (hl : 0 < l ∧ l ≤ 4000000000000000000) {x : Rat} (hx : fi = 0 → SD σ sd x) : ∃ τ, f_X6_takeSide N (nt (sd : Nat)) (nt fi) (jl u) (jl l) σ = some ((), τ) ∧ SD τ sd (if fi = 0 then (if sd = 0 then (if x < (u : Rat) * (l : Rat)⁻¹ then (u : Rat) * (l : Rat)⁻¹ else x) else (if (u : Rat) * (l : Rat)⁻¹ < x then (u : Rat) * (l : Rat)⁻¹ else x)) else (u : Rat) * (l : Rat)⁻¹) ∧ frT σ τ ∧ ∀ k, k ≠ sd → gJ τ 1094 k = gJ σ 1094 k ∧ gJ τ 1095 k = gJ σ 1095 k := by
  have hul : rn u l = ((u : Rat) * (l : Rat)⁻¹).num := rn_q
  have hll : rd u l = ((((u : Rat) * (l : Rat)⁻¹).den : Nat) : Int) := rd_q
  obtain ⟨v, hv⟩ : ∃ v : Rat, v = (u : Rat) * (l : Rat)⁻¹ := ⟨_, rfl⟩
  rw [← hv] at hul hll ⊢
  have hvb : v.num.natAbs ≤ 4000000000000000000 ∧ v.den ≤ 4000000000000000000 := by
    have h1 := rn_abs (u := u) hl.1
    have h2 := rd_le (u := u) hl.1
    rw [hul] at h1
    rw [hll] at h2
    omega
  have b49 : ∃ τ, f_X6_takeSide_b49 N (nt (sd : Nat)) (jl u) (jl l) σ = some ((), τ) ∧ SD τ sd v ∧ frT σ τ ∧ ∀ k, k ≠ sd → gJ τ 1094 k = gJ σ 1094 k ∧ gJ τ 1095 k = gJ σ 1095 k := by
    refine ⟨sJ (sJ σ 1094 sd (jl v.num)) 1095 sd (jl (v.den : Int)), ?_, ⟨by rw [gJ_sJ_c (by decide), gJ_sJ_at], by rw [gJ_sJ_at], hvb⟩, ⟨rfl, fun c hc => by rw [sJ_o (by omega), sJ_o (by omega)]⟩, fun k hk => ⟨by rw [gJ_sJ_c (by decide), gJ_sJ_k hk], by rw [gJ_sJ_k hk, gJ_sJ_c (by decide)]⟩⟩
    unfold f_X6_takeSide_b49
    rw [n_0, m_part (by omega) ⟨by omega, by omega⟩ ⟨by omega, by omega⟩ hl.1 (q := 0) ⟨by decide, by decide⟩, obd_some, if_pos (by decide), hul, ck_inb (by omega) (by omega) (by omega), nat_k (by omega), bd_eq, n_1, m_part (by omega) ⟨by omega, by omega⟩ ⟨by omega, by omega⟩ hl.1 (q := 1) ⟨by decide, by decide⟩, obd_some, if_neg (by decide), hll, ck_inb (by omega) (by omega) (by omega), bd_eq]
  rcases hfi with rfl | rfl
  · obtain ⟨x1, x2, x3, x4⟩ := hx rfl
    have hxd := x.den_pos
    have hcmp := m_compare (N := N) (σ := σ) (by omega) (a := u) (b := l) (c := x.num) (d := (x.den : Int)) ⟨by omega, by omega⟩ ⟨by omega, by omega⟩ ⟨by omega, by omega⟩ ⟨by omega, by omega⟩ hl.1 (by omega)
    have hlt : u * (x.den : Int) < x.num * l ↔ v < x := by
      rw [q_mul_lt hl.1 (by omega), rat_q, hv]
    have hgt : x.num * l < u * (x.den : Int) ↔ x < v := by
      rw [q_mul_lt (by omega) hl.1, rat_q, hv]
    have hsame : SD σ sd x := ⟨x1, x2, x3, x4⟩
    have n0 : (0 : Int32) = nt 0 := rfl
    unfold f_X6_takeSide
    rw [if_pos (show nt 0 = 0 from rfl), ck_inb (by omega) (by omega) (by omega), ck_inb (by omega) (by omega) (by omega), nat_k (by omega), x1, x2, hcmp, obd_some]
    unfold f_X6_takeSide_b26
    rw [if_pos (show nt 0 = 0 from rfl), if_pos rfl, n0]
    by_cases q : sd = 0
    · subst q
      rw [if_pos rfl, eq_t (by rfl)]
      by_cases g : x < v
      · have h1 := hgt.mpr g
        have hc : cm3 (u * (x.den : Int)) (x.num * l) = 1 := by unfold cm3; rw [if_neg (by omega), if_neg (by omega)]
        rw [if_pos g, hc, le_f (by decide) (by decide) (by decide)]
        exact b49
      · have h1 : ¬ x.num * l < u * (x.den : Int) := fun h => g (hgt.mp h)
        have hc : cm3 (u * (x.den : Int)) (x.num * l) ≤ 0 ∧ -1 ≤ cm3 (u * (x.den : Int)) (x.num * l) := by
          unfold cm3
          by_cases q2 : u * (x.den : Int) < x.num * l
          · rw [if_pos q2]; omega
          · rw [if_neg q2, if_pos (by omega)]; omega
        rw [if_neg g, le_t hc.1 (by omega) (by omega)]
        exact ⟨σ, rfl, hsame, frT_rf σ, fun k _ => ⟨rfl, rfl⟩⟩
    · obtain rfl : sd = 1 := by omega
      rw [if_neg (by decide), if_neg (show ¬ (1 : Nat) = 0 by decide)]
      by_cases g : v < x
      · have h1 := hlt.mpr g
        have hc : cm3 (u * (x.den : Int)) (x.num * l) = -1 := by unfold cm3; rw [if_pos h1]
        rw [if_pos g, hc, le_f (by decide) (by decide) (by decide)]
        exact b49
      · have h1 : ¬ u * (x.den : Int) < x.num * l := fun h => g (hlt.mp h)
        have hc : 0 ≤ cm3 (u * (x.den : Int)) (x.num * l) ∧ cm3 (u * (x.den : Int)) (x.num * l) ≤ 1 := by
          unfold cm3
          rw [if_neg h1]
          by_cases q2 : u * (x.den : Int) = x.num * l
          · rw [if_pos q2]; omega
          · rw [if_neg q2]; omega
        rw [if_neg g, le_t hc.1 (by omega) (by omega)]
        exact ⟨σ, rfl, hsame, frT_rf σ, fun k _ => ⟨rfl, rfl⟩⟩
  · unfold f_X6_takeSide
    rw [if_neg (by decide)]
    unfold f_X6_takeSide_b26
    rw [if_neg (by decide), if_neg (by decide)]
    exact b49
/-- what has been found of the factors so far -/
def AN (φ : FR) (c : Nat) (S : Nat → Int) (a : Int) (s : ZS) (V : Rat → Prop) : Prop := (a = 0 ∧ ∀ f, ¬ V f) ∨ (a = 1 ∧ ∃ x0 x1, SD s 0 x0 ∧ SD s 1 x1 ∧ (∃ z, Fz φ c S x0 z) ∧ (∃ z, Fz φ c S x1 z) ∧ ∀ f, V f → x1 ≤ f ∧ f ≤ x0)
theorem AN_o {c : Nat} {S : Nat → Int} {a : Int} {s τ : ZS} {V W : Rat → Prop} (h : AN φ c S a s V) (h1 : τ.2 1094 = s.2 1094) (h2 : τ.2 1095 = s.2 1095) (hV : ∀ f, W f → V f) : AN φ c S a τ W := by
  rcases h with ⟨a1, a2⟩ | ⟨a1, x0, x1, a2, a3, a4, a5, a6⟩
  · exact Or.inl ⟨a1, fun f hf => a2 f (hV f hf)⟩
  · exact Or.inr ⟨a1, x0, x1, SD_B a2 h1 h2, SD_B a3 h1 h2, a4, a5, fun f hf => a6 f (hV f hf)⟩
theorem AN_01 {c : Nat} {S : Nat → Int} {a : Int} {s : ZS} {V : Rat → Prop} (h : AN φ c S a s V) : a = 0 ∨ a = 1 := by
  rcases h with ⟨a1, _⟩ | ⟨a1, _⟩
  · exact Or.inl a1
  · exact Or.inr a1
/-- one corner more: both sides are taken -/
theorem m_sides (hN : 200 ≤ N) {c : Nat} {S : Nat → Int} {a : Int} {s : ZS} {V : Rat → Prop} (h : AN φ c S a s V) {u l : Int} (hu : u.natAbs ≤ 4000000000000000000) (hl : 0 < l ∧ l ≤ 4000000000000000000) (hz : ∃ z, Fz φ c S ((u : Rat) * (l : Rat)⁻¹) z) : ∃ s1 s2, f_X6_takeSide N (nt 0) (nt (if a = 0 then 1 else 0)) (jl u) (jl l) s = some ((), s1) ∧ f_X6_takeSide N (nt 1) (nt (if a = 0 then 1 else 0)) (jl u) (jl l) s1 = some ((), s2) ∧ AN φ c S 1 s2 (fun f => V f ∨ f = (u : Rat) * (l : Rat)⁻¹) ∧ frT s s1 ∧ frT s s2 := by
  obtain ⟨v, hv⟩ : ∃ v : Rat, v = (u : Rat) * (l : Rat)⁻¹ := ⟨_, rfl⟩
  rcases h with ⟨rfl, a2⟩ | ⟨rfl, x0, x1, a2, a3, a4, a5, a6⟩
  · obtain ⟨s1, e1, b1, b2, b3⟩ := m_takeSide (N := N) (σ := s) hN (sd := 0) (by decide) (fi := 1) (Or.inr rfl) hu hl (x := 0) (fun h => absurd h (by decide))
    obtain ⟨s2, e2, c1, c2, c3⟩ := m_takeSide (N := N) (σ := s1) hN (sd := 1) (by decide) (fi := 1) (Or.inr rfl) hu hl (x := 0) (fun h => absurd h (by decide))
    rw [if_neg (by decide)] at b1 c1
    refine ⟨s1, s2, e1, e2, Or.inr ⟨rfl, _, _, ⟨by rw [(c3 0 (by decide)).1]; exact b1.1, by rw [(c3 0 (by decide)).2]; exact b1.2.1, b1.2.2⟩, c1, hz, hz, fun f hf => ?_⟩, b2, frT_tr b2 c2⟩
    rcases hf with hf | rfl
    · exact absurd hf (a2 f)
    · exact ⟨Rat.le_refl, Rat.le_refl⟩
  · obtain ⟨s1, e1, b1, b2, b3⟩ := m_takeSide (N := N) (σ := s) hN (sd := 0) (by decide) (fi := 0) (Or.inl rfl) hu hl (x := x0) (fun _ => a2)
    have a3' : SD s1 1 x1 := ⟨by rw [(b3 1 (by decide)).1]; exact a3.1, by rw [(b3 1 (by decide)).2]; exact a3.2.1, a3.2.2⟩
    obtain ⟨s2, e2, c1, c2, c3⟩ := m_takeSide (N := N) (σ := s1) hN (sd := 1) (by decide) (fi := 0) (Or.inl rfl) hu hl (x := x1) (fun _ => a3')
    rw [if_pos rfl, if_pos rfl, ← hv] at b1
    rw [if_pos rfl, if_neg (by decide), ← hv] at c1
    rw [← hv] at hz ⊢
    refine ⟨s1, s2, e1, e2, Or.inr ⟨rfl, (if x0 < v then v else x0), (if v < x1 then v else x1), ⟨by rw [(c3 0 (by decide)).1]; exact b1.1, by rw [(c3 0 (by decide)).2]; exact b1.2.1, b1.2.2⟩, c1, ?_, ?_, fun f hf => ?_⟩, b2, frT_tr b2 c2⟩
    · split
      · exact hz
      · exact a4
    · split
      · exact hz
      · exact a5
    · have hb : ∀ f, x1 ≤ f ∧ f ≤ x0 → (if v < x1 then v else x1) ≤ f ∧ f ≤ (if x0 < v then v else x0) := fun f hf => by
        refine ⟨?_, ?_⟩
        · split
          · rename_i q; exact Rat.le_trans (Rat.le_of_lt q) hf.1
          · exact hf.1
        · split
          · rename_i q; exact Rat.le_trans hf.2 (Rat.le_of_lt q)
          · exact hf.2
      rcases hf with hf | rfl
      · exact hb f (a6 f hf)
      · refine ⟨?_, ?_⟩
        · split
          · exact Rat.le_refl
          · rename_i q; exact Rat.not_lt.mp q
        · split
          · exact Rat.le_refl
          · rename_i q; exact Rat.not_lt.mp q
end
