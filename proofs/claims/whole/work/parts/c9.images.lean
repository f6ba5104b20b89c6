-- ===== the law: images kept and taken back =====
section
variable {N : Nat} {φ ψ : FR} {pi : Nat → Nat}
/-- nothing changed of what the class finds out -/
def fdC (σ τ : ZS) : Prop := (∀ c, c ≠ 0 → ¬ (2 ≤ c ∧ c ≤ 4) → ¬ (20 ≤ c ∧ c < 56) → c < 1067 → τ.1 c = σ.1 c) ∧ ∀ c, c < 1067 → τ.2 c = σ.2 c
theorem CBl_fd {σ τ : ZS} {L : List Nat} (h : CBl φ pi σ L) (hL : L.length ≤ 924) (f : fdC σ τ) : CBl φ pi τ L := by
  obtain ⟨h1, h2, h3⟩ := h
  refine ⟨by unfold gI; rw [f.1 7 (by decide) (by decide) (by decide) (by decide)]; exact h1, fun b hb => by unfold gI; rw [f.1 60 (by decide) (by decide) (by decide) (by decide)]; exact h2 b hb, fun k s hk => ?_⟩
  have hk2 : k < L.length := (List.getElem?_eq_some_iff.mp hk).1
  obtain ⟨q, r, St, W, hw⟩ := h3 k s hk
  exact ⟨q, r, St, W, CW_o hw (f.2 _ (by omega)) (fun c _ => by unfold gJ; rw [f.2 _ (by omega)])⟩
theorem CSp_fd {σ τ : ZS} (h : CSp φ σ) (f : fdC σ τ) : CSp φ τ := CSp_o h (f.1 5 (by decide) (by decide) (by decide) (by decide)) (fun v hv => f.1 _ (by omega) (by omega) (by omega) (by omega)) (by unfold gI; rw [f.1 6 (by decide) (by decide) (by decide) (by decide)]) (f.1 59 (by decide) (by decide) (by decide) (by decide)) (fun c _ hc => f.2 c hc)
theorem CAll_fd {σ τ : ZS} (h : CAll φ σ) (f : fdC σ τ) : CAll φ τ := by
  obtain ⟨pi, L, h1, h2, h3, h4, h5, h6⟩ := h
  exact ⟨pi, L, Sz_o h1 (f.1 5 (by decide) (by decide) (by decide) (by decide)), CSh_o h2 (fun v hv => f.1 _ (by omega) (by omega) (by omega) (by omega)), h3, h4, CMe_o h5 (by unfold gI; rw [f.1 6 (by decide) (by decide) (by decide) (by decide)]) (f.1 59 (by decide) (by decide) (by decide) (by decide)) (fun c _ hc => f.2 c hc), CBl_fd h6 h5.2.2.1 f⟩
theorem CK_fd {σ τ : ZS} (h : CK φ σ) (f : fdC σ τ) (h7 : gI τ 0 7 = gI σ 0 7) (h8 : gI τ 0 8 = gI σ 0 8) : CK φ τ := by
  obtain ⟨k, b, h1, h2, h3, h4, h5, h6⟩ := h
  exact ⟨k, b, by rw [h7]; exact h1, by rw [h8]; exact h2, h3, h4, fun e => ⟨CSp_fd (h5 e).1 f, (h5 e).2⟩, fun e => ⟨(h6 e).1, CAll_fd (h6 e).2 f⟩⟩
theorem RK_o {σ τ : ZS} (h : RK φ σ) (f1 : ∀ c, 1067 ≤ c → c < 1104 → τ.1 c = σ.1 c) (f2 : ∀ c, 1067 ≤ c → τ.2 c = σ.2 c) : RK φ τ := by
  obtain ⟨⟨o, h1, h2, h3⟩, h4, h5⟩ := h
  exact ⟨⟨o, by unfold gI; rw [f1 1067 (by decide) (by decide)]; exact h1, h2, fun e => RSp_o (h3 e) ⟨fun k _ => by unfold gI; rw [f1 1067 (by decide) (by decide)], fun c hc => f1 c (by omega) (by omega), fun c hc => f2 c (by omega)⟩⟩, RFd_o h4 (f1 _ (by decide) (by decide)) (f1 _ (by decide) (by decide)) (f2 _ (by decide)) (f2 _ (by decide)), by unfold gI; rw [f1 1067 (by decide) (by decide)]; exact h5⟩
theorem Cp_out {σ s : ZS} {i j : Nat} (hi : i < 3) (h : Cp σ i j 12 s) {c : Nat} (h1 : ¬ (2 ≤ c ∧ c ≤ 4)) (h2 : ¬ (20 ≤ c ∧ c < 56)) : s.1 c = σ.1 c := h.2.1 c (by omega) (fun f hf => by have := @cl_ge i f; have := @cl_lt i f hi hf; omega)
theorem bit_or {kept K j : Nat} (hk : kept < 4) (hK : K < 2) (hj : j < 2) : ((kept ||| 2 ^ K).testBit j = true ↔ (j = K ∨ kept.testBit j = true)) := by
  rcases (show K = 0 ∨ K = 1 by omega) with rfl | rfl <;> rcases (show j = 0 ∨ j = 1 by omega) with rfl | rfl <;> rcases (show kept = 0 ∨ kept = 1 ∨ kept = 2 ∨ kept = 3 by omega) with rfl | rfl | rfl | rfl <;> decide
theorem e_image (hN : 100 ≤ N) {kept : Nat} {im : Nat → FR} {σ : ZS} (h : Iv φ kept im σ) {k : Int} (hk : iR k) : ∃ v s τ, f_X5_image N (nt k) σ = some (v, s) ∧ f_X6_image N (nt k) s = some (v, τ) ∧ Ev τ := by
  have hI := h
  obtain ⟨w, h1, h2, h3, h4, h5, h6, h7, h8⟩ := h
  obtain ⟨ca, cb⟩ := c_image (N := N) hN hk h1 w
  by_cases e : 0 ≤ k ∧ k ≤ 1
  rotate_left
  · exact ⟨_, _, _, ca e, (m_image (N := N) (σ := σ) hN hk).1 e, _, _, _, hI⟩
  obtain ⟨s, e1, hs⟩ := cb e
  obtain ⟨K, rfl⟩ : ∃ K : Nat, k = K := ⟨k.toNat, by omega⟩
  have hK : K < 2 := by omega
  have e1 : f_X5_image N (nt (K : Nat)) σ = some (nt 1, sI s 0 6 (gI σ 0 6 ||| nt (2 ^ K))) := e1
  have hs : Cp σ (1 + K) 0 12 s := hs
  obtain ⟨s1, hs1⟩ : ∃ s1, s1 = sI s 0 6 (gI σ 0 6 ||| nt (2 ^ K)) := ⟨_, rfl⟩
  rw [← hs1] at e1
  obtain ⟨s2, i2, e2⟩ := (m_image (N := N) (σ := s1) hN hk).2 e
  have i2 : Im s1 K 7 6 42 s2 := i2
  obtain ⟨τ, hτ⟩ : ∃ τ, τ = sI (sI (sI s2 1104 (83 * K + 81) (gI s1 1067 0)) 1104 (83 * K + 82) (gI s1 1067 4)) 1105 K (nt 1) := ⟨_, rfl⟩
  have e2 : f_X6_image N (nt (K : Nat)) s1 = some (nt 1, τ) := by rw [hτ]; exact e2
  -- what changed
  have a1 : ∀ c, c ≠ 0 → ¬ (2 ≤ c ∧ c ≤ 4) → ¬ (20 ≤ c ∧ c < 56) → s1.1 c = σ.1 c := fun c c0 c1 c2 => by rw [hs1, sI_o c0]; exact Cp_out (by omega) hs c1 c2
  have a2 : s1.2 = σ.2 := by rw [hs1]; exact hs.1
  have b1 : ∀ c, c ≠ 1104 → c ≠ 1105 → τ.1 c = s1.1 c := fun c c0 c1 => by rw [hτ, sI_o c1, sI_o c0, sI_o c0]; exact i2.2.1 c c0
  have b2 : τ.2 = s1.2 := by rw [hτ]; exact i2.1
  have hlo : loC s1 τ := ⟨fun c hc => b1 c (by omega) (by omega), fun c _ => by rw [b2]⟩
  have s00 : ∀ k, k ≠ 6 → gI s1 0 k = gI σ 0 k := fun k hk => by
    rw [hs1, gI_sI_k hk]; unfold gI; rw [Cp_out (by omega) hs (by omega) (by omega)]
  have hm1 : MFr s1 φ := MFr_same h3 (by unfold gI; rw [a1 1067 (by decide) (by decide) (by decide)]) (by unfold gI; rw [a1 1067 (by decide) (by decide) (by decide)]) (fun c x y => a1 c (by omega) (by omega) (by omega))
  have hkor : gI s1 0 6 = nt ((kept ||| 2 ^ K : Nat) : Int) := by
    rw [hs1, gI_sI_at, h6]
    rcases (show K = 0 ∨ K = 1 by omega) with rfl | rfl <;> rcases (show kept = 0 ∨ kept = 1 ∨ kept = 2 ∨ kept = 3 by omega) with rfl | rfl | rfl | rfl <;> decide
  have hkb : kept ||| 2 ^ K < 4 := by
    rcases (show K = 0 ∨ K = 1 by omega) with rfl | rfl <;> rcases (show kept = 0 ∨ kept = 1 ∨ kept = 2 ∨ kept = 3 by omega) with rfl | rfl | rfl | rfl <;> decide
  have hcf : ∀ (i : Nat) (ψ : FR), i < 3 → CFr s i ψ → CFr τ i ψ := fun i ψ hi hc => CFr_lo hi (by rw [hs1]; exact CFr_keep hc (by omega) (fun f hf => by have := @cl_ge i f; omega) _ _) hlo
  refine ⟨_, _, _, e1, e2, φ, kept ||| 2 ^ K, fun j => if j = K then φ else im j, w, hcf 0 φ (by omega) (Cp_other (by omega) (by omega) (by omega) hs h1), CK_lo (CK_fd h2 ⟨fun c x y z _ => a1 c x y z, fun c _ => by rw [a2]⟩ (s00 7 (by decide)) (s00 8 (by decide))) hlo, MFr_same hm1 (by unfold gI; rw [b1 1067 (by decide) (by decide)]) (by unfold gI; rw [b1 1067 (by decide) (by decide)]) (fun c x y => b1 c (by omega) (by omega)), RK_o h4 (fun c x y => (b1 c (by omega) (by omega)).trans (a1 c (by omega) (by omega) (by omega))) (fun c _ => by rw [b2, a2]), hkb, ?_, fun j hj => ?_, fun j hj hb => ?_⟩
  · unfold gI; rw [b1 0 (by decide) (by decide)]; exact hkor
  · by_cases q : j = K
    · rw [q, if_pos ((bit_or h5 hK hK).mpr (Or.inl rfl)), hτ]; exact gI_sI_at _ _ _ _
    · have h71 : gI τ 1105 j = gI σ 1105 j := by
        rw [hτ, gI_sI_k q, gI_sI_c (by decide), gI_sI_c (by decide)]
        unfold gI
        rw [i2.2.1 1105 (by decide), a1 1105 (by decide) (by decide) (by decide)]
      rw [h71, h7 j hj]
      by_cases z : kept.testBit j = true
      · rw [if_pos z, if_pos ((bit_or h5 hK hj).mpr (Or.inr z))]
      · rw [if_neg z, if_neg (fun y => (bit_or h5 hK hj).mp y |>.elim q z)]
  · by_cases q : j = K
    · subst q
      try dsimp only
      rw [if_pos rfl]
      refine ⟨w, hcf (1 + j) φ (by omega) (Cp_fr w hs h1), ?_⟩
      rw [hτ]
      exact Im_MI w hm1 i2
    · try dsimp only
      rw [if_neg q]
      obtain ⟨x1, x2, x3⟩ := h8 j hj (((bit_or h5 hK hj).mp hb).resolve_left q)
      refine ⟨x1, hcf (1 + j) (im j) (by omega) (Cp_other (by omega) (by omega) (by omega) hs x2), MI_same x3 x1 (fun p p1 p2 => ?_)⟩
      rw [hτ, gI_sI_c (by decide), gI_sI_k (by omega), gI_sI_k (by omega), i2.2.2.1 p (by omega)]
      unfold gI
      rw [a1 1104 (by decide) (by decide) (by decide)]
theorem e_restore (hN : 100 ≤ N) {kept : Nat} {im : Nat → FR} {σ : ZS} (h : Iv φ kept im σ) {k : Int} (hk : iR k) : ∃ v s τ, f_X5_restore N (nt k) σ = some (v, s) ∧ f_X6_restore N (nt k) s = some (v, τ) ∧ Ev τ := by
  have hI := h
  obtain ⟨w, h1, h2, h3, h4, h5, h6, h7, h8⟩ := h
  obtain ⟨ca, cb, cc⟩ := c_restore (N := N) hN hk h6 h5
  obtain ⟨ma, mb, _⟩ := m_restore (N := N) (σ := σ) hN hk h7
  by_cases e : 0 ≤ k ∧ k ≤ 1
  rotate_left
  · exact ⟨_, _, _, ca e, ma e, _, _, _, hI⟩
  by_cases eb : kept.testBit k.toNat = true
  rotate_left
  · have eb : kept.testBit k.toNat = false := by
      cases q : kept.testBit k.toNat with
      | true => exact absurd q eb
      | false => rfl
    exact ⟨_, _, _, cb e eb, mb e eb, _, _, _, hI⟩
  obtain ⟨s, e1, hs⟩ := cc e eb
  obtain ⟨K, rfl⟩ : ∃ K : Nat, k = K := ⟨k.toNat, by omega⟩
  have hK : K < 2 := by omega
  have eb : kept.testBit K = true := eb
  have hs : Cp σ 0 (1 + K) 12 s := hs
  obtain ⟨y1, y2, y3⟩ := h8 K hK eb
  obtain ⟨s1, hs1⟩ : ∃ s1, s1 = sI (sI s 0 7 (nt 0)) 0 8 (nt 0) := ⟨_, rfl⟩
  rw [← hs1] at e1
  have a1 : ∀ c, c ≠ 0 → ¬ (2 ≤ c ∧ c ≤ 4) → ¬ (20 ≤ c ∧ c < 56) → s1.1 c = σ.1 c := fun c c0 c1 c2 => by rw [hs1, sI_o c0, sI_o c0]; exact Cp_out (by omega) hs c1 c2
  have a2 : s1.2 = σ.2 := by rw [hs1]; exact hs.1
  have h71 : ∀ K, K < 2 → gI s1 1105 K = nt (if kept.testBit K = true then 1 else 0) := fun j hj => by unfold gI; rw [a1 1105 (by decide) (by decide) (by decide)]; exact h7 j hj
  obtain ⟨s2, i2, e2⟩ := (m_restore (N := N) (σ := s1) hN hk h71).2.2 e eb
  have i2 : Rs s1 K 7 6 42 s2 := i2
  obtain ⟨τ, hτ⟩ : ∃ τ, τ = wI (sI (sI (sI s2 1067 0 (gI s1 1104 (83 * K + 81))) 1067 4 (gI s1 1104 (83 * K + 82))) 1067 9 (nt 1)) 1096 3 (fun _ => nt 0) := ⟨_, rfl⟩
  have e2 : f_X6_restore N (nt (K : Nat)) s1 = some (nt 1, τ) := by rw [hτ]; exact e2
  have b1 : ∀ c, ¬ (1067 ≤ c ∧ c < 1075) → c ≠ 1096 → τ.1 c = s1.1 c := fun c c0 c1 => by rw [hτ, wI_o c1, sI_o (by omega), sI_o (by omega), sI_o (by omega)]; exact i2.2.1 c (by omega)
  have b2 : τ.2 = s1.2 := by rw [hτ]; exact i2.1
  have hlo : loC s1 τ := ⟨fun c hc => b1 c (by omega) (by omega), fun c _ => by rw [b2]⟩
  have hcf : ∀ (i : Nat) (ψ : FR), i < 3 → CFr s i ψ → CFr τ i ψ := fun i ψ hi hc => CFr_lo hi (by rw [hs1]; exact CFr_keep (CFr_keep hc (by omega) (fun f hf => by have := @cl_ge i f; omega) _ _) (by omega) (fun f hf => by have := @cl_ge i f; omega) _ _) hlo
  have hmi : ∀ j, j < 2 → kept.testBit j = true → MI s1 j (im j) := fun j hj hb => by
    obtain ⟨x1, x2, x3⟩ := h8 j hj hb
    exact MI_hi x3 x1 (a1 1104 (by decide) (by decide) (by decide))
  refine ⟨_, _, _, e1, e2, im K, kept, im, y1, hcf 0 _ (by omega) (Cp_fr y1 hs y2), ⟨0, 0, ?_, ?_, Or.inl rfl, Or.inl rfl, fun e => absurd e (by decide), fun e => absurd e (by decide)⟩, ?_, ⟨⟨1, ?_, Or.inr rfl, fun e => absurd e (by decide)⟩, fun c x y => ⟨0, ?_, Or.inl rfl, fun e => absurd e (by decide)⟩, ?_⟩, h5, ?_, fun j hj => ?_, fun j hj hb => ?_⟩
  · unfold gI; rw [b1 0 (by decide) (by decide), hs1]; show gI (sI (sI s 0 7 (nt 0)) 0 8 (nt 0)) 0 7 = nt 0; rw [gI_sI_k (by decide), gI_sI_at]
  · unfold gI; rw [b1 0 (by decide) (by decide), hs1]; exact gI_sI_at _ _ _ _
  · rw [hτ]; exact Rs_MFr y1 (hmi K hK eb) i2
  · rw [hτ, gI_wI_c (by decide), gI_sI_at]
  · rw [hτ, gI_wI, if_pos ⟨rfl, by omega⟩]
  · rw [hτ, gI_wI_c (by decide), gI_sI_k (by decide), gI_sI_k (by decide), gI_sI_k (by decide)]
    unfold gI
    rw [i2.2.1 1067 (by decide), a1 1067 (by decide) (by decide) (by decide)]
    exact h4.2.2
  · unfold gI; rw [b1 0 (by decide) (by decide), hs1]
    show gI (sI (sI s 0 7 (nt 0)) 0 8 (nt 0)) 0 6 = _
    rw [gI_sI_k (by decide), gI_sI_k (by decide)]
    unfold gI
    rw [Cp_out (by omega) hs (by omega) (by omega)]
    exact h6
  · unfold gI; rw [b1 1105 (by decide) (by decide)]; exact h71 j hj
  · obtain ⟨x1, x2, x3⟩ := h8 j hj hb
    exact ⟨x1, hcf (1 + j) _ (by omega) (Cp_other (by omega) (by omega) (by omega) hs x2), MI_hi (hmi j hj hb) x1 (b1 1104 (by decide) (by decide))⟩
end
