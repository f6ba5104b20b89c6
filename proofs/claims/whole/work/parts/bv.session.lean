-- ===== going through the corners of a set =====
section
variable {N : Nat} {σ : ZS} {φ : FR}
/-- ready for solving -/
def PRE (φ : FR) (S T : Nat → Int) (by_ : Int) (s : ZS) : Prop := MFr s φ ∧ gI s 1067 10 = nt (dd φ : Nat) ∧ (∀ j col, j < dd φ → col < 15 → gJ s 1087 (15 * j + col) = jl (rcl φ col j)) ∧ Stg φ s S ∧ (∀ c, c < 3 → gJ s 1090 c = jl (T c)) ∧ gJ s 1067 33 = jl by_
theorem PRE_I {S T : Nat → Int} {by_ : Int} {s τ : ZS} (f : frI s τ) (h : PRE φ S T by_ s) : PRE φ S T by_ τ := by
  obtain ⟨h1, h2, h3, h4, h5, h6⟩ := h
  have g : ∀ k, gI τ 1067 k = gI s 1067 k := fun k => by unfold gI; rw [f.1 1067 (by decide)]
  exact ⟨MFr_same h1 (g 0) (g 4) (fun c a b => f.1 c (by omega)), by rw [g]; exact h2, fun j col a b => by unfold gJ; rw [f.2.1 1087 (by decide) (by decide)]; exact h3 j col a b, Stg_o h4 (g 30) (g 31), fun c hc => by unfold gJ; rw [f.2.1 1090 (by decide) (by decide)]; exact h5 c hc, by rw [f.2.2 33 (by decide)]; exact h6⟩
theorem PRE_B {S T : Nat → Int} {by_ : Int} {s τ : ZS} (f : frB s τ) (h : PRE φ S T by_ s) : PRE φ S T by_ τ := by
  obtain ⟨h1, h2, h3, h4, h5, h6⟩ := h
  exact ⟨frB_M h1 f, by rw [f.2.1 10 (by decide) (by decide) (by decide) (by decide)]; exact h2, fun j col a b => by unfold gJ; rw [f.2.2 1087 (by decide) (by decide)]; exact h3 j col a b, Stg_o h4 (f.2.1 30 (by decide) (by decide) (by decide) (by decide)) (f.2.1 31 (by decide) (by decide) (by decide) (by decide)), fun c hc => by unfold gJ; rw [f.2.2 1090 (by decide) (by decide)]; exact h5 c hc, by unfold gJ; rw [f.2.2 1067 (by decide) (by decide)]; exact h6⟩
/-- only found sides and moments change -/
def frT (s τ : ZS) : Prop := τ.1 = s.1 ∧ ∀ c, ¬ (c = 1094 ∨ c = 1095 ∨ (1100 ≤ c ∧ c < 1104)) → τ.2 c = s.2 c
theorem frT_rf (s : ZS) : frT s s := ⟨rfl, fun _ _ => rfl⟩
theorem frT_tr {a b c : ZS} (h : frT a b) (h2 : frT b c) : frT a c := ⟨h2.1.trans h.1, fun k hk => (h2.2 k hk).trans (h.2 k hk)⟩
theorem PRE_T {S T : Nat → Int} {by_ : Int} {s τ : ZS} (f : frT s τ) (h : PRE φ S T by_ s) : PRE φ S T by_ τ := by
  obtain ⟨h1, h2, h3, h4, h5, h6⟩ := h
  have g : ∀ c k, gI τ c k = gI s c k := fun c k => by unfold gI; rw [f.1]
  exact ⟨MFr_same h1 (g _ 0) (g _ 4) (fun c a b => by rw [f.1]), by rw [g]; exact h2, fun j col a b => by unfold gJ; rw [f.2 1087 (by decide)]; exact h3 j col a b, Stg_o h4 (g _ 30) (g _ 31), fun c hc => by unfold gJ; rw [f.2 1090 (by decide)]; exact h5 c hc, by unfold gJ; rw [f.2 1067 (by decide)]; exact h6⟩
/-- at a step of the signs of a set -/
def SES (φ : FR) (Cm : Nat) (P : Nat → Nat → Int) (pi : Nat → Nat) (S T : Nat → Int) (by_ : Int) (t : Nat) (s : ZS) : Prop := PRE φ S T by_ s ∧ BV φ Cm P pi S T by_ (gr2 t) s 15 ∧ BF φ Cm t (gr2 t) s ∧ TD Cm s ∧ gJ s 1067 29 = jl (dt (dd φ) P)
theorem SES_T {Cm t : Nat} {P : Nat → Nat → Int} {pi : Nat → Nat} {S T : Nat → Int} {by_ : Int} {s τ : ZS} (f : frT s τ) (h : SES φ Cm P pi S T by_ t s) : SES φ Cm P pi S T by_ t τ := by
  obtain ⟨h1, h2, h3, h4, h5⟩ := h
  have g : ∀ c k, gI τ c k = gI s c k := fun c k => by unfold gI; rw [f.1]
  refine ⟨PRE_T f h1, fun col hcol hb => ?_, ⟨by rw [g]; exact h3.1, fun k hk => by rw [g]; exact h3.2.1 k hk, by rw [g]; exact h3.2.2.1, by rw [g]; exact h3.2.2.2⟩, fun k hk => by rw [g]; exact h4 k hk, by unfold gJ; rw [f.2 1067 (by decide)]; exact h5⟩
  obtain ⟨a1, a2⟩ := h2 col hcol hb
  exact ⟨by unfold gJ; rw [f.2 1093 (by decide)]; exact a1, fun k hk => by unfold gJ; rw [f.2 1092 (by decide)]; exact a2 k hk⟩
theorem m_start (w : WF φ) (hN : 200 ≤ N) (hd12 : dd φ ≤ 12) {Cm : Nat} (hCm : Cm < 32768) {P : Nat → Nat → Int} {pi : Nat → Nat} {B1 B2 : Nat} {S T : Nat → Int} {by_ : Int} {s : ZS} (h : PRE φ S T by_ s) (hV : SLV φ s Cm P pi B1 B2) : ∃ τ, f_X6_begin N (nt (Cm : Nat)) s = some ((), τ) ∧ SES φ Cm P pi S T by_ 0 τ ∧ frB s τ := by
  obtain ⟨τ, e, a1, a2, a3⟩ := m_begin (N := N) w hN h.1 h.2.2.2.1 hd12 hCm hV h.2.2.2.2.1 h.2.2.2.2.2
  refine ⟨τ, e, ⟨PRE_B a3 h, a1, a2, fun k hk => ?_, ?_⟩, a3⟩
  · unfold gI; rw [a3.1 1089 (by decide) (by decide)]; exact hV.2.1 k hk
  · unfold gJ; rw [a3.2.2 1067 (by decide) (by decide)]; exact hV.1.2.1
theorem m_next (w : WF φ) (hN : 200 ≤ N) {Cm t : Nat} {P : Nat → Nat → Int} {pi : Nat → Nat} {S T : Nat → Int} {by_ : Int} {s : ZS} (h : SES φ Cm P pi S T by_ t s) (ht : t < 2 ^ cn (2 * nb φ) (ff Cm)) : (t + 1 = 2 ^ cn (2 * nb φ) (ff Cm) ∧ ∃ τ, f_X6_isNext N s = some (nt 0, τ) ∧ PRE φ S T by_ τ ∧ frB s τ) ∨ (t + 1 < 2 ^ cn (2 * nb φ) (ff Cm) ∧ ∃ τ, f_X6_isNext N s = some (nt 1, τ) ∧ SES φ Cm P pi S T by_ (t + 1) τ ∧ frB s τ) := by
  obtain ⟨h1, h2, h3, h4, h5⟩ := h
  rcases m_isNext (N := N) hN w h4 h2 h3 ht with ⟨a1, τ, a2, a3⟩ | ⟨a1, τ, a2, a3, a4, a5⟩
  · exact Or.inl ⟨a1, τ, a2, PRE_B a3 h1, a3⟩
  · refine Or.inr ⟨a1, τ, a2, ⟨PRE_B a5 h1, a3, a4, fun k hk => ?_, ?_⟩, a5⟩
    · unfold gI; rw [a5.1 1089 (by decide) (by decide)]; exact h4 k hk
    · unfold gJ; rw [a5.2.2 1067 (by decide) (by decide)]; exact h5
/-- whether a corner is within -/
theorem m_within (w : WF φ) (hN : 200 ≤ N) (hd12 : dd φ ≤ 12) {Cm t : Nat} {P : Nat → Nat → Int} {pi : Nat → Nat} {B1 B2 : Nat} {S T : Nat → Int} {by_ : Int} {s s0 : ZS} (h : SES φ Cm P pi S T by_ t s) (hV : SLV φ s0 Cm P pi B1 B2) (hb : 12 * ((T 0).natAbs + (T 1).natAbs + (T 2).natAbs) * B2 + 1872 * by_.natAbs * B1 ≤ 4000000000000000000) (hb1 : B1 ≤ 4000000000000000000) : (Win φ Cm P pi S T by_ (gr2 t) ∧ f_X6_isWithin N s = some (nt 1, s)) ∨ (¬ Win φ Cm P pi S T by_ (gr2 t) ∧ f_X6_isWithin N s = some (nt 0, s)) := by
  obtain ⟨h1, h2, h3, h4, h5⟩ := h
  have hw2 := w.2.1
  obtain ⟨_, _, _, _, _, _, _, hS⟩ := id h1.2.2.2.1
  refine m_isWithin (N := N) hN w h1.1 h1.2.2.2.1 h4 h2 h1.2.2.2.2.2 h5 (Nat.le_trans hV.2.2.2.2.1 hb1) (fun e he hbe => ?_) (fun e he => ?_)
  · have hi : cn e (bt Cm) < dd φ := by
      have := cn_up (s := bt Cm) (show e < 15 by omega) hbe
      rw [hV.2.2.1] at this
      exact this
    exact Nat.le_trans (val_bd w hV hS T hi _) hb
  · have h6 := mst_bd w hV hS (by_ := by_) he
    have h7 : 156 * by_.natAbs * B1 ≤ 1872 * by_.natAbs * B1 := Nat.mul_le_mul_right _ (Nat.mul_le_mul_right _ (by decide))
    omega
/-- what a search of corners leaves -/
def frQ (σ τ : ZS) : Prop := (∀ c, c ≠ 1067 → c ≠ 1089 → c ≠ 1091 → τ.1 c = σ.1 c) ∧ (∀ k, k ≠ 34 → k ≠ 36 → k ≠ 39 → k ≠ 40 → gI τ 1067 k = gI σ 1067 k) ∧ ∀ c, ¬ (c = 1067 ∨ (1087 ≤ c ∧ c < 1096) ∨ (1100 ≤ c ∧ c < 1104)) → τ.2 c = σ.2 c
theorem frQ_rf (s : ZS) : frQ s s := ⟨fun _ _ _ _ => rfl, fun _ _ _ _ _ => rfl, fun _ _ => rfl⟩
theorem frQ_tr {a b c : ZS} (h : frQ a b) (h2 : frQ b c) : frQ a c := ⟨fun k a1 a2 a3 => (h2.1 k a1 a2 a3).trans (h.1 k a1 a2 a3), fun k a1 a2 a3 a4 => (h2.2.1 k a1 a2 a3 a4).trans (h.2.1 k a1 a2 a3 a4), fun k hk => (h2.2.2 k hk).trans (h.2.2 k hk)⟩
theorem frI_Q {s τ : ZS} (f : frI s τ) : frQ s τ := ⟨fun c _ c2 _ => f.1 c c2, fun k _ _ _ _ => by unfold gI; rw [f.1 1067 (by decide)], fun c hc => f.2.1 c (by omega) (by omega)⟩
theorem frB_Q {s τ : ZS} (f : frB s τ) : frQ s τ := ⟨fun c c1 _ c3 => f.1 c c1 c3, f.2.1, fun c hc => f.2.2 c (by omega) (by omega)⟩
theorem frT_Q {s τ : ZS} (f : frT s τ) : frQ s τ := ⟨fun c _ _ _ => by rw [f.1], fun k _ _ _ _ => by unfold gI; rw [f.1], fun c hc => f.2 c (by omega)⟩
theorem m_take (t0 t1 t2 by_ : Int) (h1 : MFr σ φ) (h2 : gI σ 1067 10 = nt (dd φ : Nat)) (h3 : ∀ j col, j < dd φ → col < 15 → gJ σ 1087 (15 * j + col) = jl (rcl φ col j)) {S : Nat → Int} (h4 : Stg φ σ S) : ∃ τ, f_X6_take N (jl t0) (jl t1) (jl t2) (jl by_) σ = some ((), τ) ∧ PRE φ S (fun c => if c = 0 then t0 else if c = 1 then t1 else t2) by_ τ ∧ frQ σ τ ∧ τ.1 = σ.1 ∧ ∀ c, c ≠ 1067 → c ≠ 1090 → τ.2 c = σ.2 c := by
  have z0 : ((0 : Int32).toNatClampNeg) = 0 := rfl
  have z1 : ((1 : Int32).toNatClampNeg) = 1 := rfl
  have z2 : ((2 : Int32).toNatClampNeg) = 2 := rfl
  refine ⟨sJ (sJ (sJ (sJ σ 1090 0 (jl t0)) 1090 1 (jl t1)) 1090 2 (jl t2)) 1067 33 (jl by_), ?_, ⟨h1, h2, fun j col a b => h3 j col a b, h4, fun c hc => ?_, by rw [gJ_sJ_at]⟩, ⟨fun _ _ _ _ => rfl, fun _ _ _ _ _ => rfl, fun c hc => ?_⟩, rfl, fun c c1 c2 => ?_⟩
  · unfold f_X6_take
    rw [ck_of (by decide), bd_eq, ck_of (by decide), bd_eq, ck_of (by decide), bd_eq, bd_eq, z0, z1, z2]
  · rw [gJ_sJ_c (by decide)]
    rcases (show c = 0 ∨ c = 1 ∨ c = 2 by omega) with rfl | rfl | rfl
    · rw [gJ_sJ_k (by decide), gJ_sJ_k (by decide), gJ_sJ_at]; rfl
    · rw [gJ_sJ_k (by decide), gJ_sJ_at]; rfl
    · rw [gJ_sJ_at]; rfl
  · rw [sJ_o (by omega), sJ_o (by omega), sJ_o (by omega), sJ_o (by omega)]
  · rw [sJ_o c1, sJ_o c2, sJ_o c2, sJ_o c2]
/-- some forces bear -/
def FEA (φ : FR) (S : Nat → Int) (p : Nat → Rat) : Prop := ∃ z : Nat → Rat, (∀ e, e < 2 * nb φ → ab (z e) ≤ cS φ S e) ∧ ∀ j, j < dd φ → sQ (2 * nb φ) (fun e => z e * Rq φ e j) = p j
noncomputable def pT (φ : FR) (T : Nat → Int) (by_ : Int) : Nat → Rat := fun j => ((T 0 : Rat) * pq φ 0 j + (T 1 : Rat) * pq φ 1 j + (T 2 : Rat) * pq φ 2 j) * (by_ : Rat)⁻¹
/-- a set has no corner -/
def NoC (φ : FR) (Cm c : Nat) (S : Nat → Int) (p : Nat → Rat) : Prop := IndC φ Cm c → ∀ x et, ¬ CrS φ Cm c S p x et
end
