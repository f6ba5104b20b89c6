-- ===== the reference lays all anew; its counts and mechanisms =====
section
variable {N : Nat} {σ : ZS} {φ : FR}
/-- what the reference knows of a shape -/
def RSp (φ : FR) (σ : ZS) : Prop := gI σ 1067 10 = nt (dd φ : Nat) ∧ gI σ 1067 11 = nt (rk φ : Nat) ∧ (∀ v n, v < 3 → n < nn φ → gI σ 1076 (7 * v + n) = nt (num φ v n)) ∧ (∀ e j, e < 2 * nb φ → j < 21 → gJ σ 1077 (21 * e + j) = jl (Rz φ e j)) ∧ RMe φ σ
/-- its mark tells whether it knows -/
def RO (φ : FR) (σ : ZS) : Prop := ∃ o : Int, gI σ 1067 9 = nt o ∧ (o = 0 ∨ o = 1) ∧ (o = 0 → RSp φ σ)
/-- what laying anew leaves -/
def frS (σ τ : ZS) : Prop := (∀ c, c ≠ 1067 → ¬ (1075 ≤ c ∧ c ≤ 1084) → τ.1 c = σ.1 c) ∧ (∀ k, k ≠ 9 → k ≠ 10 → k ≠ 11 → k ≠ 17 → gI τ 1067 k = gI σ 1067 k) ∧ ∀ c, ¬ (1077 ≤ c ∧ c ≤ 1084) → τ.2 c = σ.2 c
theorem frS_rf (σ : ZS) : frS σ σ := ⟨fun _ _ _ => rfl, fun _ _ _ _ _ => rfl, fun _ _ => rfl⟩
theorem RSp_shp (φ : FR) (σ : ZS) : RSp (shp φ) σ = RSp φ σ := rfl
theorem RSp_same {φ ψ : FR} {σ : ZS} (h : shp φ = shp ψ) (hs : RSp φ σ) : RSp ψ σ := by
  rw [← RSp_shp, ← h, RSp_shp]; exact hs
theorem RMe_o {σ τ : ZS} (h : RMe φ σ) (h1 : gI τ 1067 17 = gI σ 1067 17) (h2 : τ.1 1080 = σ.1 1080) (h3 : τ.2 1081 = σ.2 1081) : RMe φ τ := by
  refine ⟨by rw [h1]; exact h.1, fun k hk => ?_⟩
  obtain ⟨a1, u, a2, a3⟩ := h.2 k hk
  exact ⟨by unfold gI; rw [h2]; exact a1, u, a2, fun j hj => by unfold gJ; rw [h3]; exact a3 j hj⟩
/-- the shape's cells kept -/
def frH (σ τ : ZS) : Prop := (∀ k, (k = 9 ∨ k = 10 ∨ k = 11 ∨ k = 17) → gI τ 1067 k = gI σ 1067 k) ∧ (∀ c, (c = 1076 ∨ c = 1080) → τ.1 c = σ.1 c) ∧ ∀ c, (c = 1077 ∨ c = 1081) → τ.2 c = σ.2 c
theorem RSp_o {τ : ZS} (h : RSp φ σ) (f : frH σ τ) : RSp φ τ := by
  obtain ⟨h1, h2, h3, h4, h5⟩ := h
  refine ⟨by rw [f.1 10 (by decide)]; exact h1, by rw [f.1 11 (by decide)]; exact h2, fun v n a b => by unfold gI; rw [f.2.1 1076 (by decide)]; exact h3 v n a b, fun e j a b => by unfold gJ; rw [f.2.2 1077 (by decide)]; exact h4 e j a b, RMe_o h5 (f.1 17 (by decide)) (f.2.1 1080 (by decide)) (f.2.2 1081 (by decide))⟩
theorem m_isLoose (w : WF φ) (hN : 30000 ≤ N) (h : MFr σ φ) (ho : RO φ σ) : ∃ τ, f_X6_isLoose N σ = some (nt (if rk φ < dd φ then 1 else 0), τ) ∧ gI τ 1067 9 = nt 0 ∧ RSp φ τ ∧ frS σ τ := by
  have hw2 := w.2.1
  have hdd := dd_le (φ := φ)
  have hrl := rk_le (φ := φ)
  have b28 : ∀ s, RSp φ s → f_X6_isLoose_b28 N s = some (nt (if rk φ < dd φ then 1 else 0), s) := fun s hs => by
    unfold f_X6_isLoose_b28
    rw [hs.1, hs.2.1]
    by_cases q : rk φ < dd φ
    · rw [le_f (by omega) (by omega) (by omega), if_pos q]; rfl
    · rw [le_t (by omega) (by omega) (by omega), if_neg q]; rfl
  obtain ⟨o, o1, o2, o3⟩ := ho
  unfold f_X6_isLoose
  rw [o1]
  rcases o2 with rfl | rfl
  · rw [if_pos (show nt 0 = 0 from rfl), b28 σ (o3 rfl)]
    exact ⟨σ, rfl, o1, o3 rfl, frS_rf σ⟩
  · rw [if_neg (by decide), n_0, bd_eq]
    obtain ⟨s0, hs0⟩ : ∃ s0, s0 = sI σ 1067 9 (nt 0) := ⟨_, rfl⟩
    rw [← hs0]
    have f0 : ∀ c, c ≠ 1067 → s0.1 c = σ.1 c := fun c hc => by rw [hs0, sI_o hc]
    have f0k : ∀ k, k ≠ 9 → gI s0 1067 k = gI σ 1067 k := fun k hk => by rw [hs0, gI_sI_k hk]
    have f0J : s0.2 = σ.2 := by rw [hs0]; rfl
    have hm0 : MFr s0 φ := MFr_same h (f0k 0 (by decide)) (f0k 4 (by decide)) (fun c a b => f0 c (by omega))
    obtain ⟨s1, e1, a1, a2, a3, a4, a5⟩ := m_layNumbers w (by omega) hm0 (N := N)
    have hm1 : MFr s1 φ := MFr_same hm0 (a4 0 (by decide)) (a4 4 (by decide)) (fun c a b => a3 c (by omega) (by omega) (by omega))
    obtain ⟨s2, e2, b1, b2, b3⟩ := m_layRows w (by omega) hm1 (N := N) a2
    have hm2 : MFr s2 φ := MFr_same hm1 (by unfold gI; rw [b2]) (by unfold gI; rw [b2]) (fun c a b => by rw [b2])
    have h102 : gI s2 1067 10 = nt (dd φ : Nat) := by unfold gI; rw [b2]; exact a1
    obtain ⟨s3, e3, c1, c2, c3, c4, _, _⟩ := m_layRank w (by omega) h102 (MFr_b hm2) b1 (N := N)
    have hm3 : MFr s3 φ := MFr_same hm2 (c3 0 (by decide)) (c3 4 (by decide)) (fun c a b => c2 c (by omega) (by omega))
    have hR3 : ∀ e j, e < 2 * nb φ → j < 21 → gJ s3 1077 (21 * e + j) = jl (Rz φ e j) := fun e j x y => by
      unfold gJ; rw [c4 1077 (by decide)]; exact b1 e j x y
    have h103 : gI s3 1067 10 = nt (dd φ : Nat) := by rw [c3 10 (by decide)]; exact h102
    obtain ⟨s4, e4, d1, d2⟩ := m_layMechanisms w hN ⟨hm3, h103, hR3⟩ c1 (N := N)
    have hR4 : RSp φ s4 := ⟨by rw [d1.2.1 10 (by decide)]; exact h103, by rw [d1.2.1 11 (by decide)]; exact c1, fun v n x y => by
      unfold gI
      rw [d1.1 1076 (by decide) (by decide) (by decide) (by decide) (by decide), c2 1076 (by decide) (by decide), b2]
      exact a2 v n x y, fun e j x y => by
      unfold gJ
      rw [d1.2.2 1077 (by decide) (by decide) (by decide)]
      exact hR3 e j x y, d2⟩
    rw [e1, obd_some, e2, obd_some, e3, obd_some, e4, obd_some, b28 s4 hR4]
    refine ⟨s4, rfl, ?_, hR4, fun c p1 p2 => ?_, fun k k1 k2 k3 k4 => ?_, fun c hc => ?_⟩
    · rw [d1.2.1 9 (by decide), c3 9 (by decide)]
      unfold gI
      rw [b2]
      show gI s1 1067 9 = nt 0
      rw [a4 9 (by decide), hs0, gI_sI_at]
    · rw [d1.1 c (by omega) (by omega) (by omega) (by omega) (by omega), c2 c (by omega) (by omega), b2, a3 c (by omega) (by omega) (by omega), f0 c p1]
    · rw [d1.2.1 k k4, c3 k k3]
      unfold gI
      rw [b2]
      show gI s1 1067 k = gI σ 1067 k
      rw [a4 k k2, f0k k k1]
    · rw [d1.2.2 c (by omega) (by omega) (by omega), c4 c (by omega), b3 c (by omega), a5, f0J]
/-- the limits that the reference has found -/
def RFd (φ : FR) (σ : ZS) : Prop := ∀ c, 1 ≤ c → c ≤ 2 → ∃ b : Int, gI σ 1096 c = nt b ∧ (b = 0 ∨ b = 1) ∧ (b = 1 → gI σ 1097 c = nt (rgF φ c) ∧ (rgF φ c = 0 → ∀ sd : Nat, sd < 2 → gJ σ 1098 (2 * c + sd) = jl (sdV φ c sd).num ∧ gJ σ 1099 (2 * c + sd) = jl ((sdV φ c sd).den : Int)))
/-- the reference's knowledge -/
def RK (φ : FR) (σ : ZS) : Prop := RO φ σ ∧ RFd φ σ ∧ gI σ 1067 30 = nt (-1)
/-- what asking leaves -/
def frR (σ τ : ZS) : Prop := (∀ c, (c < 1067 ∨ (1068 ≤ c ∧ c < 1075) ∨ 1104 ≤ c) → τ.1 c = σ.1 c) ∧ gI τ 1067 0 = gI σ 1067 0 ∧ gI τ 1067 4 = gI σ 1067 4 ∧ ∀ c, c < 1067 → τ.2 c = σ.2 c
theorem frR_rf (σ : ZS) : frR σ σ := ⟨fun _ _ => rfl, rfl, rfl, fun _ _ => rfl⟩
theorem frR_tr {a b c : ZS} (h : frR a b) (h2 : frR b c) : frR a c := ⟨fun k hk => (h2.1 k hk).trans (h.1 k hk), h2.2.1.trans h.2.1, h2.2.2.1.trans h.2.2.1, fun k hk => (h2.2.2.2 k hk).trans (h.2.2.2 k hk)⟩
theorem frS_R {σ τ : ZS} (h : frS σ τ) : frR σ τ := ⟨fun c hc => h.1 c (by omega) (by omega), h.2.1 0 (by decide) (by decide) (by decide) (by decide), h.2.1 4 (by decide) (by decide) (by decide) (by decide), fun c hc => h.2.2 c (by omega)⟩
theorem frR_M {σ τ : ZS} (f : frR σ τ) (h : MFr σ φ) : MFr τ φ := MFr_same h f.2.1 f.2.2.1 (fun c a b => f.1 c (Or.inr (Or.inl ⟨a, b⟩)))
def MAsk (φ : FR) (σ τ : ZS) : Prop := RK φ τ ∧ frR σ τ
theorem MAsk_rf (h : RK φ σ) : MAsk φ σ σ := ⟨h, frR_rf σ⟩
theorem RFd_o {τ : ZS} (h : RFd φ σ) (h1 : τ.1 1096 = σ.1 1096) (h2 : τ.1 1097 = σ.1 1097) (h3 : τ.2 1098 = σ.2 1098) (h4 : τ.2 1099 = σ.2 1099) : RFd φ τ := fun c c1 c2 => by
  obtain ⟨b, b1, b2, b3⟩ := h c c1 c2
  refine ⟨b, by unfold gI; rw [h1]; exact b1, b2, fun hb => ?_⟩
  obtain ⟨d1, d2⟩ := b3 hb
  refine ⟨by unfold gI; rw [h2]; exact d1, fun hr sd hsd => ?_⟩
  obtain ⟨x1, x2⟩ := d2 hr sd hsd
  exact ⟨by unfold gJ; rw [h3]; exact x1, by unfold gJ; rw [h4]; exact x2⟩
/-- known, whole -/
def RK1 (φ : FR) (σ : ZS) : Prop := gI σ 1067 9 = nt 0 ∧ RSp φ σ ∧ RFd φ σ ∧ gI σ 1067 30 = nt (-1)
theorem RK1_K (h : RK1 φ σ) : RK φ σ := ⟨⟨0, h.1, Or.inl rfl, fun _ => h.2.1⟩, h.2.2.1, h.2.2.2⟩
/-- asking for looseness first -/
theorem m_loose (w : WF φ) (hN : 30000 ≤ N) (h : MFr σ φ) (hk : RK φ σ) : ∃ τ, f_X6_isLoose N σ = some (nt (if rk φ < dd φ then 1 else 0), τ) ∧ RK1 φ τ ∧ MFr τ φ ∧ frR σ τ := by
  obtain ⟨τ, e, h1, h2, h3⟩ := m_isLoose w hN h hk.1
  refine ⟨τ, e, ⟨h1, h2, RFd_o hk.2.1 (h3.1 1096 (by decide) (by decide)) (h3.1 1097 (by decide) (by decide)) (h3.2.2 1098 (by decide)) (h3.2.2 1099 (by decide)), ?_⟩, frR_M (frS_R h3) h, frS_R h3⟩
  rw [h3.2.1 30 (by decide) (by decide) (by decide) (by decide)]
  exact hk.2.2
theorem m_mechanism (w : WF φ) (hN : 30000 ≤ N) (h : MFr σ φ) (hk : RK φ σ) {i : Int} (hi : iR i) : ∃ τ, f_X6_mechanism N (nt i) σ = some (nt (aMech φ i), τ) ∧ MAsk φ σ τ := by
  obtain ⟨τ, e, h1, h2, h3⟩ := m_loose w hN h hk
  refine ⟨τ, ?_, RK1_K h1, h3⟩
  have hL := (ex_rk w).2.2.1
  unfold f_X6_mechanism aMech
  rw [e, obd_some, br_p]
  by_cases a : rk φ < dd φ
  · rw [if_pos a, if_pos a]; rfl
  · rw [if_neg a, if_neg a, h1.2.1.2.2.2.2.1, n_0, n_1, nt_sub, s_in N i 0 (((ML φ).length : Int) - 1) hi ⟨by omega, by omega⟩ ⟨by omega, by omega⟩, obd_some, n_0.symm, br_p]
    by_cases b : 0 ≤ i ∧ i ≤ ((ML φ).length : Int) - 1
    · have hg := (h1.2.1.2.2.2.2.2 i.toNat (by omega)).1
      rw [if_pos b, if_pos b, ck_inb (by omega) (by omega) (by omega), nat_nt (by omega) (by omega), hg]
    · rw [if_neg b, if_neg b]; rfl
theorem m_count (w : WF φ) (hN : 30000 ≤ N) (h : MFr σ φ) (hk : RK φ σ) {y : Int} (hy : iR y) {kept : Nat} (hk4 : kept < 4) (hkept : ∀ K, K < 2 → gI σ 1105 K = nt (if kept.testBit K = true then 1 else 0)) : ∃ τ, f_X6_count N (nt y) σ = some (nt (aCount φ kept y), τ) ∧ MAsk φ σ τ := by
  obtain ⟨τ, e, h1, h2, h3⟩ := m_loose w hN h hk
  unfold f_X6_count
  rw [n_0, n_6, s_in N y 0 6 hy ⟨by omega, by omega⟩ ⟨by omega, by omega⟩, obd_some, n_0.symm, br_p]
  by_cases a : 0 ≤ y ∧ y ≤ 6
  rotate_left
  · rw [if_neg a]
    refine ⟨σ, ?_, MAsk_rf hk⟩
    unfold aCount
    rw [if_neg (by omega), if_neg (by omega), if_neg (by omega), if_neg (by omega), if_neg (by omega), if_neg (by omega), if_neg (by omega)]
    rfl
  rw [if_pos a, e, obd_some]
  refine ⟨τ, ?_, RK1_K h1, h3⟩
  obtain ⟨g1, g2, g3, g4, g5, g6⟩ := h1.2.1
  unfold aCount
  rcases (show y = 0 ∨ y = 1 ∨ y = 2 ∨ y = 3 ∨ y = 4 ∨ y = 5 ∨ y = 6 by omega) with rfl | rfl | rfl | rfl | rfl | rfl | rfl
  · rw [if_pos (show nt 0 = 0 from rfl), if_pos rfl, MFr_n h2]
  · rw [if_neg (by decide), if_pos (show nt 1 = 1 from rfl), if_neg (by decide), if_pos rfl, MFr_b h2]
  · rw [if_neg (by decide), if_neg (by decide), if_pos (show nt 2 = 2 from rfl), br_p]
    by_cases q : rk φ < dd φ
    · rw [if_pos q, if_neg (by decide), if_neg (by decide), if_pos rfl, if_pos q]; rfl
    · rw [if_neg q, if_neg (by decide), if_neg (by decide), if_pos rfl, if_neg q]; rfl
  · rw [if_neg (by decide), if_neg (by decide), if_neg (by decide), if_pos (show nt 3 = 3 from rfl), if_neg (by decide), if_neg (by decide), if_neg (by decide), if_pos rfl, g1]
  · rw [if_neg (by decide), if_neg (by decide), if_neg (by decide), if_neg (by decide), if_pos (show nt 4 = 4 from rfl), if_neg (by decide), if_neg (by decide), if_neg (by decide), if_neg (by decide), if_pos rfl, m_restful w (by omega) h2 g1 g2, obd_some]
  · rw [if_neg (by decide), if_neg (by decide), if_neg (by decide), if_neg (by decide), if_neg (by decide), if_pos (show nt 5 = 5 from rfl), br_p]
    by_cases q : rk φ < dd φ
    · rw [if_pos q, if_neg (by decide), if_neg (by decide), if_neg (by decide), if_neg (by decide), if_neg (by decide), if_pos rfl, if_pos q]; rfl
    · rw [if_neg q, if_neg (by decide), if_neg (by decide), if_neg (by decide), if_neg (by decide), if_neg (by decide), if_pos rfl, if_neg q, g5]
  · have hz : ∀ K, K < 2 → gI τ 1105 K = nt (if kept.testBit K = true then 1 else 0) := fun K hK => by
      unfold gI; rw [h3.1 1105 (by decide)]; exact hkept K hK
    have z0 : ((0 : Int32)).toNatClampNeg = 0 := rfl
    have z1 : ((1 : Int32)).toNatClampNeg = 1 := rfl
    have b114 : ∀ x : Int, f_X6_count_b114 N (nt x) τ = some (nt (x + (if kept.testBit 1 = true then 2 else 0)), τ) := fun x => by
      unfold f_X6_count_b114
      rw [z1, hz 1 (by decide), ck_of (by decide)]
      by_cases q : kept.testBit 1 = true
      · rw [if_pos q, if_pos q, if_neg (by decide), n_2, nt_add]
      · rw [if_neg q, if_neg q, if_pos (show nt 0 = 0 from rfl), n_0, nt_add]
    rw [if_neg (by decide), if_neg (by decide), if_neg (by decide), if_neg (by decide), if_neg (by decide), if_neg (by decide), ck_of (by decide), z0, hz 0 (by decide)]
    have hk5 : (kept : Int) = (if kept.testBit 0 = true then 1 else 0) + (if kept.testBit 1 = true then 2 else 0) := by
      rcases (show kept = 0 ∨ kept = 1 ∨ kept = 2 ∨ kept = 3 by omega) with rfl | rfl | rfl | rfl <;> decide
    by_cases q : kept.testBit 0 = true
    · rw [if_pos q] at hk5
      rw [if_pos q, if_neg (by decide), n_1, if_neg (by decide), if_neg (by decide), if_neg (by decide), if_neg (by decide), if_neg (by decide), if_neg (by decide), if_pos rfl, b114, hk5]
    · rw [if_neg q] at hk5
      rw [if_neg q, if_pos (show nt 0 = 0 from rfl), n_0, if_neg (by decide), if_neg (by decide), if_neg (by decide), if_neg (by decide), if_neg (by decide), if_neg (by decide), if_pos rfl, b114, hk5]
end
