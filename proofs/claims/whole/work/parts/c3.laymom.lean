-- ===== the reference lays the moments =====
section
variable {N : Nat} {σ : ZS} {φ : FR}
/-- what has been found of the moments so far -/
def AMo (φ : FR) (c : Nat) (f : Rat) (a : Int) (s : ZS) (V : (Nat → Rat) → Prop) : Prop := (a = 0 ∧ ∀ z, ¬ V z) ∨ (a = 1 ∧ ∃ X Y : Nat → Rat, ∀ e, e < 2 * nb φ → MD s e (X e) (Y e) ∧ (∃ z, Fz φ c (φ.1 5) f z ∧ z e * ((lenB φ (e / 2) : Int) : Rat) = X e) ∧ (∃ z, Fz φ c (φ.1 5) f z ∧ z e * ((lenB φ (e / 2) : Int) : Rat) = Y e) ∧ ∀ z, V z → Y e ≤ z e * ((lenB φ (e / 2) : Int) : Rat) ∧ z e * ((lenB φ (e / 2) : Int) : Rat) ≤ X e)
theorem AMo_01 {c : Nat} {f : Rat} {a : Int} {s : ZS} {V : (Nat → Rat) → Prop} (h : AMo φ c f a s V) : a = 0 ∨ a = 1 := by
  rcases h with ⟨a1, _⟩ | ⟨a1, _⟩
  · exact Or.inl a1
  · exact Or.inr a1
theorem AMo_o {c : Nat} {f : Rat} {a : Int} {s τ : ZS} {V W : (Nat → Rat) → Prop} (h : AMo φ c f a s V) (h1 : ∀ d, 1100 ≤ d → d < 1104 → τ.2 d = s.2 d) (hV : ∀ z, W z → V z) : AMo φ c f a τ W := by
  rcases h with ⟨a1, a2⟩ | ⟨a1, X, Y, a2⟩
  · exact Or.inl ⟨a1, fun z hz => a2 z (hV z hz)⟩
  · refine Or.inr ⟨a1, X, Y, fun e he => ?_⟩
    obtain ⟨⟨b1, b2, b3, b4, b5⟩, b6, b7, b8⟩ := a2 e he
    exact ⟨⟨by unfold gJ; rw [h1 _ (by decide) (by decide)]; exact b1, by unfold gJ; rw [h1 _ (by decide) (by decide)]; exact b2, by unfold gJ; rw [h1 _ (by decide) (by decide)]; exact b3, by unfold gJ; rw [h1 _ (by decide) (by decide)]; exact b4, b5⟩, b6, b7, fun z hz => b8 z (hV z hz)⟩
theorem mxq_le (x v : Rat) : x ≤ mxq x v ∧ v ≤ mxq x v := by
  unfold mxq
  split
  · rename_i q; exact ⟨Rat.le_of_lt q, Rat.le_refl⟩
  · rename_i q; exact ⟨Rat.le_refl, Rat.not_lt.mp q⟩
theorem mnq_le (y v : Rat) : mnq y v ≤ y ∧ mnq y v ≤ v := by
  unfold mnq
  split
  · rename_i q; exact ⟨Rat.le_of_lt q, Rat.le_refl⟩
  · rename_i q; exact ⟨Rat.le_refl, Rat.not_lt.mp q⟩
/-- one corner more -/
theorem AMo_add {c : Nat} {f : Rat} {a : Int} {s τ : ZS} {V : (Nat → Rat) → Prop} {z0 : Nat → Rat} (h : a = 0 ∧ (∀ z, ¬ V z) ∧ (∀ e, e < 2 * nb φ → MDn 1 0 0 (z0 e * ((lenB φ (e / 2) : Int) : Rat)) τ e) ∨ a = 1 ∧ ∃ X Y : Nat → Rat, (∀ e, e < 2 * nb φ → (∃ z, Fz φ c (φ.1 5) f z ∧ z e * ((lenB φ (e / 2) : Int) : Rat) = X e) ∧ (∃ z, Fz φ c (φ.1 5) f z ∧ z e * ((lenB φ (e / 2) : Int) : Rat) = Y e) ∧ ∀ z, V z → Y e ≤ z e * ((lenB φ (e / 2) : Int) : Rat) ∧ z e * ((lenB φ (e / 2) : Int) : Rat) ≤ X e) ∧ ∀ e, e < 2 * nb φ → MDn 0 (X e) (Y e) (z0 e * ((lenB φ (e / 2) : Int) : Rat)) τ e) (hz : Fz φ c (φ.1 5) f z0) : AMo φ c f 1 τ (fun z => V z ∨ ∀ e, e < 2 * nb φ → z e = z0 e) := by
  rcases h with ⟨_, h1, h2⟩ | ⟨_, X, Y, h1, h2⟩
  · refine Or.inr ⟨rfl, fun e => z0 e * ((lenB φ (e / 2) : Int) : Rat), fun e => z0 e * ((lenB φ (e / 2) : Int) : Rat), fun e he => ?_⟩
    have h3 := h2 e he
    unfold MDn at h3
    rw [if_neg (by decide), if_neg (by decide)] at h3
    refine ⟨h3, ⟨z0, hz, rfl⟩, ⟨z0, hz, rfl⟩, fun z hzz => ?_⟩
    rcases hzz with q | q
    · exact absurd q (h1 z)
    · rw [q e he]; exact ⟨Rat.le_refl, Rat.le_refl⟩
  · refine Or.inr ⟨rfl, fun e => mxq (X e) (z0 e * ((lenB φ (e / 2) : Int) : Rat)), fun e => mnq (Y e) (z0 e * ((lenB φ (e / 2) : Int) : Rat)), fun e he => ?_⟩
    have h3 := h2 e he
    unfold MDn at h3
    rw [if_pos rfl, if_pos rfl] at h3
    obtain ⟨k1, k2, k3⟩ := h1 e he
    have m1 := mxq_le (X e) (z0 e * ((lenB φ (e / 2) : Int) : Rat))
    have m2 := mnq_le (Y e) (z0 e * ((lenB φ (e / 2) : Int) : Rat))
    refine ⟨h3, ?_, ?_, fun z hzz => ?_⟩
    · unfold mxq
      try dsimp only
      split
      · exact ⟨z0, hz, rfl⟩
      · exact k1
    · unfold mnq
      try dsimp only
      split
      · exact ⟨z0, hz, rfl⟩
      · exact k2
    · rcases hzz with q | q
      · obtain ⟨y1, y2⟩ := k3 z q
        exact ⟨Rat.le_trans m2.1 y1, Rat.le_trans y2 m1.1⟩
      · try dsimp only
        rw [q e he]
        exact ⟨m2.2, m1.2⟩
/-- loads that a corner balances -/
def TQ (φ : FR) (T : Nat → Int) (by_ : Int) (c : Nat) (f : Rat) : Prop := ∀ j, j < dd φ → pT φ T by_ j = PF φ c f j
theorem m_mOne (w : WF φ) (hN : 200 ≤ N) (hd12 : dd φ ≤ 12) {Cm : Nat} (hCm : Cm < 32768) (hends : ∀ k, k < 12 → Cm.testBit k = true → k < 2 * nb φ) (hL : OneL Cm 0) (hld : Cm.testBit (12 + 0) = false) {P : Nat → Nat → Int} {pi : Nat → Nat} {T : Nat → Int} {by_ : Int} (hby : 0 < by_) {c : Nat} {f : Rat} (hTQ : TQ φ T by_ c f) {s0 : ZS} (hV : SLV φ s0 Cm P pi 524288 36700160) (hb : 12 * ((T 0).natAbs + (T 1).natAbs + (T 2).natAbs) * 36700160 + 1872 * by_.natAbs * 524288 ≤ 2000000000000000000) (kb : Int32 → Int32 → ZS → Option (Unit × ZS)) (x : Nat) {t : Nat} (ht : t < 4096) (n : Nat) {s : ZS} (hs : SES φ Cm P pi (φ.1 5) T by_ t s) {a : Int} {V : (Nat → Rat) → Prop} (hA : AMo φ c f a s V) : ∃ a' s', f_X6_layMoments_h104 N kb (nt (x : Nat)) (n + 1) (nt a) (nt 1) s = obd (f_X6_isNext N s') (fun v25 σ26 => f_X6_layMoments_h104 N kb (nt (x : Nat)) n (nt a') v25 σ26) ∧ AMo φ c f a' s' (fun z => V z ∨ (Win φ Cm P pi (φ.1 5) T by_ (gr2 t) ∧ ∀ e, e < 2 * nb φ → z e = zq φ Cm P pi (φ.1 5) T by_ (gr2 t) e)) ∧ frT s s' := by
  have hSn : ∀ b, b < nb φ → 0 ≤ φ.1 5 b := fun b hb => (Stg_S hs.1.2.2.2.1 b hb).1
  rcases m_within (N := N) w hN hd12 hs hV (by omega) (by decide) with ⟨h1, h2⟩ | ⟨h1, h2⟩
  · have hF : Fz φ c (φ.1 5) f (zq φ Cm P pi (φ.1 5) T by_ (gr2 t)) := by
      refine ⟨(crn_win w hV hSn T hby _).mp h1, fun j hj => ?_⟩
      have h5 := crn_q w (c := 0) (by decide) hends hL hV (φ.1 5) T hby (gr2 t) hj
      have h6 : yq φ Cm P pi (φ.1 5) T by_ 0 (gr2 t) = 0 := by
        unfold yq yIn
        rw [if_neg (by rw [hld]; decide)]
        exact Rat.zero_mul _
      rw [h6] at h5
      rw [← hTQ j hj]
      unfold pT
      rw [← h5]
      grind
    have b127 : ∀ (fi : Int) (s' : ZS), f_X6_takeMoments N (nt fi) s = some ((), s') → f_X6_layMoments_b127 N (fun x7_ x9_ σ_ => f_X6_layMoments_h104 N kb (nt (x : Nat)) n x7_ x9_ σ_) (nt (x : Nat)) (nt fi) s = obd (f_X6_isNext N s') (fun v25 σ26 => f_X6_layMoments_h104 N kb (nt (x : Nat)) n (nt 1) v25 σ26) := fun fi s' he => by
      unfold f_X6_layMoments_b127 f_X6_layMoments_b133
      rw [he, obd_some]
      rfl
    have n0 : (0 : Int32) = nt 0 := rfl
    have n1 : (1 : Int32) = nt 1 := rfl
    rcases hA with ⟨rfl, a2⟩ | ⟨rfl, X, Y, a2⟩
    · obtain ⟨s', e1, e2, e3⟩ := m_takeMoments (N := N) w hN hd12 hby hs hV hCm hb (by decide) ht (fi := 1) (Or.inr rfl) (X := fun _ => 0) (Y := fun _ => 0) (fun q => absurd q (by decide))
      refine ⟨1, s', ?_, AMo_o (AMo_add (a := 0) (c := c) (f := f) (V := V) (s := s) (Or.inl ⟨rfl, a2, e3⟩) hF) (fun _ _ _ => rfl) (fun z hz => ?_), e2⟩
      · rw [f_X6_layMoments_h104, if_neg (by decide), h2, obd_some, if_neg (by decide), n0, n1, if_pos rfl, b127 1 s' e1]
      · rcases hz with hz | ⟨_, hz⟩
        · exact Or.inl hz
        · exact Or.inr hz
    · obtain ⟨s', e1, e2, e3⟩ := m_takeMoments (N := N) w hN hd12 hby hs hV hCm hb (by decide) ht (fi := 0) (Or.inl rfl) (X := X) (Y := Y) (fun _ e he => (a2 e he).1)
      refine ⟨1, s', ?_, AMo_o (AMo_add (a := 1) (c := c) (f := f) (V := V) (s := s) (Or.inr ⟨rfl, X, Y, fun e he => (a2 e he).2, e3⟩) hF) (fun _ _ _ => rfl) (fun z hz => ?_), e2⟩
      · rw [f_X6_layMoments_h104, if_neg (by decide), h2, obd_some, if_neg (by decide), if_neg (by decide), n0, b127 0 s' e1]
      · rcases hz with hz | ⟨_, hz⟩
        · exact Or.inl hz
        · exact Or.inr hz
  · refine ⟨a, s, ?_, AMo_o hA (fun _ _ _ => rfl) (fun z hz => ?_), frT_rf s⟩
    · rw [f_X6_layMoments_h104, if_neg (by decide), h2, obd_some, if_pos (by decide)]
      rfl
    · rcases hz with hz | ⟨hw, _⟩
      · exact hz
      · exact absurd hw h1
theorem m_mIn (w : WF φ) (hN : 200 ≤ N) (hd12 : dd φ ≤ 12) {Cm : Nat} (hCm : Cm < 32768) (hends : ∀ k, k < 12 → Cm.testBit k = true → k < 2 * nb φ) (hL : OneL Cm 0) (hld : Cm.testBit (12 + 0) = false) {P : Nat → Nat → Int} {pi : Nat → Nat} {T : Nat → Int} {by_ : Int} (hby : 0 < by_) {c : Nat} {f : Rat} (hTQ : TQ φ T by_ c f) {s0 : ZS} (hV : SLV φ s0 Cm P pi 524288 36700160) (hb : 12 * ((T 0).natAbs + (T 1).natAbs + (T 2).natAbs) * 36700160 + 1872 * by_.natAbs * 524288 ≤ 2000000000000000000) (kb : Int32 → Int32 → ZS → Option (Unit × ZS)) (x : Nat) (hF : 2 ^ cn (2 * nb φ) (ff Cm) ≤ 4096) : ∀ (r t n : Nat) (s : ZS) (a : Int) (V : (Nat → Rat) → Prop), t + r + 1 = 2 ^ cn (2 * nb φ) (ff Cm) → r + 2 ≤ n → SES φ Cm P pi (φ.1 5) T by_ t s → AMo φ c f a s V → ∃ a' τ, f_X6_layMoments_h104 N kb (nt (x : Nat)) n (nt a) (nt 1) s = f_X6_layMoments_b142 N kb (nt a') (nt (x : Nat)) τ ∧ PRE φ (φ.1 5) T by_ τ ∧ AMo φ c f a' τ (fun z => V z ∨ ∃ t', t ≤ t' ∧ t' < 2 ^ cn (2 * nb φ) (ff Cm) ∧ Win φ Cm P pi (φ.1 5) T by_ (gr2 t') ∧ ∀ e, e < 2 * nb φ → z e = zq φ Cm P pi (φ.1 5) T by_ (gr2 t') e) ∧ frQ s τ := by
  intro r
  induction r with
  | zero =>
    intro t n s a V ht hn hs hA
    obtain ⟨n, rfl⟩ : ∃ m, n = m + 2 := ⟨n - 2, by omega⟩
    obtain ⟨a', s', e1, e2, e3⟩ := m_mOne (N := N) w hN hd12 hCm hends hL hld hby hTQ hV hb kb x (t := t) (by omega) (n + 1) hs hA
    rcases m_next (N := N) w hN (SES_T e3 hs) (by omega) with ⟨a1, τ, a2, a3, a4⟩ | ⟨a1, _⟩
    · refine ⟨a', τ, ?_, a3, AMo_o e2 (fun d _ _ => a4.2.2 d (by omega) (by omega)) (fun z hz => ?_), frQ_tr (frT_Q e3) (frB_Q a4)⟩
      · rw [e1, a2, obd_some, f_X6_layMoments_h104, if_pos (by decide)]
      · rcases hz with hz | ⟨t', b1, b2, b3, b4⟩
        · exact Or.inl hz
        · obtain rfl : t' = t := by omega
          exact Or.inr ⟨b3, b4⟩
    · omega
  | succ r ih =>
    intro t n s a V ht hn hs hA
    obtain ⟨n, rfl⟩ : ∃ m, n = m + 1 := ⟨n - 1, by omega⟩
    obtain ⟨a', s', e1, e2, e3⟩ := m_mOne (N := N) w hN hd12 hCm hends hL hld hby hTQ hV hb kb x (t := t) (by omega) n hs hA
    rcases m_next (N := N) w hN (SES_T e3 hs) (by omega) with ⟨a1, _⟩ | ⟨a1, τ, a2, a3, a4⟩
    · omega
    · have e2' : AMo φ c f a' τ _ := AMo_o e2 (fun d _ _ => a4.2.2 d (by omega) (by omega)) (fun z hz => hz)
      obtain ⟨a2', τ2, b1, b2, b3, b4⟩ := ih (t + 1) n τ a' _ (by omega) (by omega) a3 e2'
      refine ⟨a2', τ2, ?_, b2, AMo_o b3 (fun _ _ _ => rfl) (fun z hz => ?_), frQ_tr (frT_Q e3) (frQ_tr (frB_Q a4) b4)⟩
      · rw [e1, a2, obd_some, b1]
      · rcases hz with hz | ⟨t', c1, c2, c3, c4⟩
        · exact Or.inl (Or.inl hz)
        · by_cases q : t' = t
          · subst q; exact Or.inl (Or.inr ⟨c3, c4⟩)
          · exact Or.inr ⟨t', by omega, c2, c3, c4⟩
/-- corners of sets before one -/
def VisM (φ : FR) (c : Nat) (f : Rat) (x : Nat) (z : Nat → Rat) : Prop := ∃ Cm, Cm < x ∧ cn 12 (bt Cm) = dd φ ∧ IndC φ Cm 0 ∧ CrS φ Cm 0 (φ.1 5) (PF φ c f) z 0
theorem m_mAll (w : WF φ) (hN : 30000 ≤ N) (hd12 : dd φ ≤ 12) {T : Nat → Int} {by_ : Int} (hby : 0 < by_) {c : Nat} {f : Rat} (hTQ : TQ φ T by_ c f) (hb : 12 * ((T 0).natAbs + (T 1).natAbs + (T 2).natAbs) * 36700160 + 1872 * by_.natAbs * 524288 ≤ 2000000000000000000) : ∀ (m x n : Nat) (s : ZS) (a : Int), x + m = 2 ^ (2 * nb φ) → m + 1 ≤ n → PRE φ (φ.1 5) T by_ s → AMo φ c f a s (VisM φ c f x) → ∃ a' τ, f_X6_layMoments_h61 N n (nt a) (nt (x : Nat)) s = some ((), τ) ∧ frQ s τ ∧ AMo φ c f a' τ (VisM φ c f (2 ^ (2 * nb φ))) := by
  have hw2 := w.2.1
  have hpow : 2 ^ (2 * nb φ) ≤ 2 ^ 12 := Nat.pow_le_pow_right (by decide) (by omega)
  have hpow2 : (2 : Nat) ^ 12 = 4096 := by decide
  have n1e : (1 : Int32) = nt 1 := rfl
  intro m
  induction m with
  | zero =>
    intro x n s a hx hn hP hA
    obtain ⟨n, rfl⟩ : ∃ m, n = m + 1 := ⟨n - 1, by omega⟩
    have hxe : x = 2 ^ (2 * nb φ) := by omega
    refine ⟨a, s, ?_, frQ_rf s, by rw [← hxe]; exact hA⟩
    rw [f_X6_layMoments_h61, MFr_b hP.1, n_2, nt_mul, show (2 : Int) * (nb φ : Nat) = ((2 * nb φ : Nat) : Int) by omega, n1e, nt_powL (by omega), le_t (by omega) (by omega) (by omega)]
  | succ m ih =>
    intro x n s a hx hn hP hA
    obtain ⟨n, rfl⟩ : ∃ m, n = m + 1 := ⟨n - 1, by omega⟩
    have hxl : x < 2 ^ (2 * nb φ) := by omega
    have b142 : ∀ (y : Int) t, f_X6_layMoments_b142 N (fun x7_ x8_ σ_ => f_X6_layMoments_h61 N n x7_ x8_ σ_) (nt y) (nt (x : Nat)) t = f_X6_layMoments_h61 N n (nt y) (nt ((x + 1 : Nat) : Int)) t := fun y t => by
      rw [f_X6_layMoments_b142, n_1, nt_add, bd_eq]; rfl
    have hends : ∀ k, k < 12 → x.testBit k = true → k < 2 * nb φ := fun k _ hk => bits_lt hxl hk
    have hOne : OneL x 0 := fun k h1 _ h3 => by have := bits_lt hxl h3; omega
    have hld : x.testBit (12 + 0) = false := big_bit hxl (by omega)
    have hc12 := cn_bd (bt x) 12
    have hdd := dd_le (φ := φ)
    have hpre : f_X6_layMoments_h61 N (n + 1) (nt a) (nt (x : Nat)) s = (if nt (cn 12 (bt x) : Nat) = nt (dd φ : Nat) then obd (f_X6_isSolved N (nt (x : Nat)) s) fun v16 σ17 => (if v16 = 0 then f_X6_layMoments_b142 N (fun x7_ x8_ σ_ => f_X6_layMoments_h61 N n x7_ x8_ σ_) (nt a) (nt (x : Nat)) σ17 else obd (f_X6_begin N (nt (x : Nat)) σ17) fun _ σ20 => f_X6_layMoments_h104 N (fun x7_ x8_ σ_ => f_X6_layMoments_h61 N n x7_ x8_ σ_) (nt (x : Nat)) N (nt a) (nt 1) σ20) else f_X6_layMoments_b142 N (fun x7_ x8_ σ_ => f_X6_layMoments_h61 N n x7_ x8_ σ_) (nt a) (nt (x : Nat)) s) := by
      rw [f_X6_layMoments_h61, MFr_b hP.1, n_2, nt_mul, show (2 : Int) * (nb φ : Nat) = ((2 * nb φ : Nat) : Int) by omega, n1e, nt_powL (by omega), le_f (by omega) (by omega) (by omega), m_bits (by omega) (by omega), obd_some, hP.2.1]
    rw [hpre]
    have hskip : (∀ z, VisM φ c f (x + 1) z → VisM φ c f x z) → ∀ (τ : ZS), PRE φ (φ.1 5) T by_ τ → frQ s τ → (∀ d, 1100 ≤ d → d < 1104 → τ.2 d = s.2 d) → ∃ a' τ2, f_X6_layMoments_h61 N n (nt a) (nt ((x + 1 : Nat) : Int)) τ = some ((), τ2) ∧ frQ s τ2 ∧ AMo φ c f a' τ2 (VisM φ c f (2 ^ (2 * nb φ))) := fun hV τ h1 h2 h3 => by
      obtain ⟨a', τ2, b1, b2, b3⟩ := ih (x + 1) n τ a (by omega) (by omega) h1 (AMo_o hA h3 hV)
      exact ⟨a', τ2, b1, frQ_tr h2 b2, b3⟩
    by_cases q : cn 12 (bt x) = dd φ
    · rw [eq_t (by omega)]
      rcases m_isSolved0 (N := N) w (by omega) hd12 hP.2.1 hP.2.2.1 (Cm := x) (by omega) hends q with ⟨d1, τ, d2, d3⟩ | ⟨τ, P, pi, d1, d2, d3⟩
      · rw [d2, obd_some, if_pos (by decide), b142]
        refine hskip (fun z ⟨Cm, c1, c2, c3, c4⟩ => ?_) τ (PRE_I d3 hP) (frI_Q d3) (fun d _ _ => d3.2.1 d (by omega) (by omega))
        by_cases q2 : Cm = x
        · rw [q2] at c3
          exact absurd d1 (ind_dep w (by decide) hends hOne c3)
        · exact ⟨Cm, by omega, c2, c3, c4⟩
      · rw [d1, obd_some, if_neg (by decide)]
        obtain ⟨s2, g1, g2, g3⟩ := m_start (N := N) w (by omega) hd12 (Cm := x) (by omega) (PRE_I d3 hP) d2
        rw [g1, obd_some]
        have hfb := cn_bd (ff x) (2 * nb φ)
        have hF1 : 2 ^ cn (2 * nb φ) (ff x) ≤ 2 ^ 12 := Nat.pow_le_pow_right (by decide) (by omega)
        have hF0 : 1 ≤ 2 ^ cn (2 * nb φ) (ff x) := Nat.one_le_two_pow
        have hA2 : AMo φ c f a s2 (VisM φ c f x) := AMo_o hA (fun d h1 h2 => (g3.2.2 d (by omega) (by omega)).trans (d3.2.1 d (by omega) (by omega))) (fun z hz => hz)
        obtain ⟨a', τ2, k1, k2, k3, k4⟩ := m_mIn (N := N) w (by omega) hd12 (show x < 32768 by omega) hends hOne hld hby hTQ d2 hb (fun x7_ x8_ σ_ => f_X6_layMoments_h61 N n x7_ x8_ σ_) x (by omega) (2 ^ cn (2 * nb φ) (ff x) - 1) 0 N s2 a _ (by omega) (by omega) g2 hA2
        rw [k1, b142]
        obtain ⟨a2, τ3, l1, l2, l3⟩ := ih (x + 1) n τ2 a' (by omega) (by omega) k2 (AMo_o k3 (fun _ _ _ => rfl) (fun z ⟨Cm, c1, c2, c3, hy⟩ => by
          by_cases q2 : Cm = x
          · right
            rw [q2] at c3 hy
            obtain ⟨g, r1, r2, r3⟩ := crn_all w (c := 0) (by decide) hends hOne d2 c3 (S := φ.1 5) T hby hy.2.2.1 hy.2.2.2 (fun j hj => by
              rw [hy.2.1 j hj]
              exact (hTQ j hj).symm)
            obtain ⟨t', r4, r5⟩ := gr_all (f := cn (2 * nb φ) (ff x)) (by omega) r1
            refine ⟨t', Nat.zero_le _, r4, ?_, fun e he => ?_⟩
            · rw [r5]
              exact (crn_win w d2 (str_nn w) T hby g).mpr (fun e he => by rw [r2 e he]; exact hy.1 e he)
            · rw [r5, r2 e he]
          · exact Or.inl ⟨Cm, by omega, c2, c3, hy⟩))
        exact ⟨a2, τ3, l1, frQ_tr (frI_Q d3) (frQ_tr (frB_Q g3) (frQ_tr k4 l2)), l3⟩
    · rw [eq_f (by omega) (by omega) (by omega) (by omega) (by omega), b142]
      refine hskip (fun z ⟨Cm, c1, c2, c3⟩ => ?_) s hP (frQ_rf s) (fun _ _ _ => rfl)
      by_cases q2 : Cm = x
      · rw [q2] at c2; exact absurd c2 q
      · exact ⟨Cm, by omega, c2, c3⟩
end
