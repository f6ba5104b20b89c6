-- ===== the law: one frame in both, and its images =====
section
variable {N : Nat} {φ ψ : FR} {pi : Nat → Nat}
/-- nothing of the class changed -/
def loC (σ τ : ZS) : Prop := (∀ c, c < 1067 → τ.1 c = σ.1 c) ∧ ∀ c, c < 1067 → τ.2 c = σ.2 c
theorem CBl_lo {σ τ : ZS} {L : List Nat} (h : CBl φ pi σ L) (hL : L.length ≤ 924) (f : loC σ τ) : CBl φ pi τ L := by
  obtain ⟨h1, h2, h3⟩ := h
  refine ⟨by unfold gI; rw [f.1 7 (by decide)]; exact h1, fun b hb => by unfold gI; rw [f.1 60 (by decide)]; exact h2 b hb, fun k s hk => ?_⟩
  have hk2 : k < L.length := (List.getElem?_eq_some_iff.mp hk).1
  obtain ⟨q, r, St, W, hw⟩ := h3 k s hk
  exact ⟨q, r, St, W, CW_o hw (f.2 _ (by omega)) (fun c _ => by unfold gJ; rw [f.2 _ (by omega)])⟩
theorem CSp_lo {σ τ : ZS} (h : CSp φ σ) (f : loC σ τ) : CSp φ τ := CSp_o h (f.1 5 (by decide)) (fun v hv => f.1 _ (by omega)) (by unfold gI; rw [f.1 6 (by decide)]) (f.1 59 (by decide)) (fun c _ hc => f.2 c hc)
theorem CAll_lo {σ τ : ZS} (h : CAll φ σ) (f : loC σ τ) : CAll φ τ := by
  obtain ⟨pi, L, h1, h2, h3, h4, h5, h6⟩ := h
  exact ⟨pi, L, Sz_o h1 (f.1 5 (by decide)), CSh_o h2 (fun v hv => f.1 _ (by omega)), h3, h4, CMe_o h5 (by unfold gI; rw [f.1 6 (by decide)]) (f.1 59 (by decide)) (fun c _ hc => f.2 c hc), CBl_lo h6 h5.2.2.1 f⟩
theorem CK_lo {σ τ : ZS} (h : CK φ σ) (f : loC σ τ) : CK φ τ := by
  obtain ⟨k, b, h1, h2, h3, h4, h5, h6⟩ := h
  exact ⟨k, b, by unfold gI; rw [f.1 0 (by decide)]; exact h1, by unfold gI; rw [f.1 0 (by decide)]; exact h2, h3, h4, fun e => ⟨CSp_lo (h5 e).1 f, (h5 e).2⟩, fun e => ⟨(h6 e).1, CAll_lo (h6 e).2 f⟩⟩
theorem CFr_lo {σ τ : ZS} {i : Nat} (hi : i < 3) (h : CFr σ i φ) (f : loC σ τ) : CFr τ i φ :=
  CFr_same h (f.1 _ (by omega)) (fun g hg => f.1 _ (by have := cl_lt hi hg; omega))
/-- nothing of the reference changed -/
def hiC (σ τ : ZS) : Prop := (∀ c, 1067 ≤ c → τ.1 c = σ.1 c) ∧ ∀ c, 1067 ≤ c → τ.2 c = σ.2 c
theorem MFr_hi {σ τ : ZS} (h : MFr σ φ) (f : hiC σ τ) : MFr τ φ := MFr_same h (by unfold gI; rw [f.1 1067 (by decide)]) (by unfold gI; rw [f.1 1067 (by decide)]) (fun c a b => f.1 c (by omega))
theorem RSp_hi {σ τ : ZS} (h : RSp φ σ) (f : hiC σ τ) : RSp φ τ := RSp_o h ⟨fun k _ => by unfold gI; rw [f.1 1067 (by decide)], fun c hc => f.1 c (by omega), fun c hc => f.2 c (by omega)⟩
theorem RK_hi {σ τ : ZS} (h : RK φ σ) (f : hiC σ τ) : RK φ τ := by
  obtain ⟨⟨o, h1, h2, h3⟩, h4, h5⟩ := h
  exact ⟨⟨o, by unfold gI; rw [f.1 1067 (by decide)]; exact h1, h2, fun e => RSp_hi (h3 e) f⟩, RFd_o h4 (f.1 _ (by decide)) (f.1 _ (by decide)) (f.2 _ (by decide)) (f.2 _ (by decide)), by unfold gI; rw [f.1 1067 (by decide)]; exact h5⟩
theorem MI_hi {σ τ : ZS} {K : Nat} (h : MI σ K φ) (w : WF φ) (e : τ.1 1104 = σ.1 1104) : MI τ K φ := MI_same h w (fun p _ _ => by unfold gI; rw [e])
theorem hiC_frC {σ τ : ZS} (f : frC σ τ) : hiC σ τ := ⟨fun c hc => f.1 c (by omega), fun c hc => f.2.2 c hc⟩
theorem loC_frR {σ τ : ZS} (f : frR σ τ) : loC σ τ := ⟨fun c hc => f.1 c (Or.inl hc), fun c hc => f.2.2.2 c hc⟩
theorem hiC_Cst {σ τ : ZS} {m : Nat} (f : Cst m σ φ τ ψ) : hiC σ τ := ⟨fun c hc => f.2.2.2.1 c (by omega) (by omega) (by omega) (by omega), fun c _ => by rw [f.2.2.1]⟩
theorem loC_Mst {σ τ : ZS} {m : Nat} (f : Mst m σ τ ψ) : loC σ τ := ⟨fun c hc => f.2.2.1 c (by omega) (by omega) (by omega), fun c _ => by rw [f.2.1]⟩
/-- one frame, and what is kept of it -/
def Iv (φ : FR) (kept : Nat) (im : Nat → FR) (σ : ZS) : Prop := WF φ ∧ CFr σ 0 φ ∧ CK φ σ ∧ MFr σ φ ∧ RK φ σ ∧ kept < 4 ∧ gI σ 0 6 = nt (kept : Nat) ∧ (∀ K, K < 2 → gI σ 1105 K = nt (if kept.testBit K = true then 1 else 0)) ∧ ∀ K, K < 2 → kept.testBit K = true → WF (im K) ∧ CFr σ (1 + K) (im K) ∧ MI σ K (im K)
def Ev (σ : ZS) : Prop := ∃ φ kept im, Iv φ kept im σ
theorem Iv_ask {kept : Nat} {im : Nat → FR} {σ s τ : ZS} (h : Iv φ kept im σ) (f : Ask φ σ s) (g : MAsk φ s τ) : Iv φ kept im τ := by
  obtain ⟨w, h1, h2, h3, h4, h5, h6, h7, h8⟩ := h
  have f1 := hiC_frC f.2
  have g1 := loC_frR g.2
  refine ⟨w, CFr_lo (by omega) (frC_fr f.2 h1) g1, CK_lo f.1 g1, frR_M g.2 (MFr_hi h3 f1), g.1, h5, ?_, fun K hK => ?_, fun K hK hb => ?_⟩
  · unfold gI
    rw [g1.1 0 (by decide)]
    exact f.2.2.1.trans h6
  · unfold gI
    rw [g.2.1 1105 (by omega), f1.1 1105 (by decide)]
    exact h7 K hK
  · obtain ⟨a1, a2, a3⟩ := h8 K hK hb
    refine ⟨a1, CFr_lo (by omega) (CFr_same a2 (f.2.1 _ (by omega)) (fun i hi => f.2.1 _ ?_)) g1, MI_hi (MI_hi a3 a1 (f1.1 1104 (by decide))) a1 (g.2.1 1104 (by omega))⟩
    have := @cl_ge (1 + K) i
    have := @cl_lt (1 + K) i (by omega) hi
    omega
theorem Iv_get {kept : Nat} {im : Nat → FR} {σ s : ZS} (h : Iv φ kept im σ) (f : Ask φ σ s) : MFr s φ ∧ RK φ s ∧ ∀ K, K < 2 → gI s 1105 K = nt (if kept.testBit K = true then 1 else 0) := by
  obtain ⟨w, h1, h2, h3, h4, h5, h6, h7, h8⟩ := h
  have f1 := hiC_frC f.2
  exact ⟨MFr_hi h3 f1, RK_hi h4 f1, fun K hK => by unfold gI; rw [f1.1 1105 (by decide)]; exact h7 K hK⟩
theorem Iv_st {kept : Nat} {im : Nat → FR} {σ s τ : ZS} {m : Nat} (hm : m = 0 ∨ m = 1 ∨ m = 2) (h : Iv φ kept im σ) (f : Cst m σ φ s ψ) (g : Mst m s τ ψ) : Iv ψ kept im τ := by
  obtain ⟨w, h1, h2, h3, h4, h5, h6, h7, h8⟩ := h
  have f1 := hiC_Cst f
  have g1 := loC_Mst g
  have hsame := f.2.2.2.2.2.1
  have h06 : gI τ 0 6 = nt (kept : Nat) := by unfold gI; rw [g1.1 0 (by decide)]; exact f.2.2.2.2.1.trans h6
  have h05 : ∀ K, K < 2 → gI τ 1105 K = nt (if kept.testBit K = true then 1 else 0) := fun K hK => by
    unfold gI
    rw [g.2.2.1 1105 (by decide) (by decide) (by decide), f1.1 1105 (by decide)]
    exact h7 K hK
  have him : ∀ K, K < 2 → kept.testBit K = true → WF (im K) ∧ CFr τ (1 + K) (im K) ∧ MI τ K (im K) := fun K hK hb => by
    obtain ⟨a1, a2, a3⟩ := h8 K hK hb
    refine ⟨a1, CFr_lo (by omega) (CFr_same a2 (f.2.2.2.1 _ (by omega) (by omega) (by omega) (by omega)) (fun i hi => ?_)) g1, MI_hi (MI_hi a3 a1 (f1.1 1104 (by decide))) a1 (g.2.2.1 1104 (by decide) (by decide) (by decide))⟩
    unfold cl
    split
    · exact f.2.2.2.1 _ (by omega) (by omega) (by omega) (by omega)
    · exact f.2.2.2.1 _ (by omega) (by omega) (by omega) (by omega)
  have h30 : gI τ 1067 30 = nt (-1) := by
    rw [g.2.2.2.1 30 (by decide) (by decide) (by decide)]
    unfold gI
    rw [f1.1 1067 (by decide)]
    exact h4.2.2
  have hcfr : CFr τ 0 ψ := CFr_lo (by omega) f.1 g1
  rcases hm with rfl | rfl | rfl
  · obtain ⟨e1, e2⟩ := hsame rfl
    have e3 := g.2.2.2.2.1 rfl
    subst e1; subst e2; subst e3
    exact ⟨w, h1, h2, h3, h4, h5, h6, h7, h8⟩
  · obtain ⟨c1, c2⟩ := f.2.2.2.2.2.2.1 rfl
    obtain ⟨d1, d2⟩ := g.2.2.2.2.2.1 rfl
    refine ⟨f.2.1, hcfr, ⟨0, 0, ?_, ?_, Or.inl rfl, Or.inl rfl, fun e => absurd e (by decide), fun e => absurd e (by decide)⟩, g.1, ⟨⟨1, d1, Or.inr rfl, fun e => absurd e (by decide)⟩, fun c a b => ⟨0, d2 c (by omega), Or.inl rfl, fun e => absurd e (by decide)⟩, h30⟩, h5, h06, h05, him⟩
    · unfold gI; rw [g1.1 0 (by decide)]; exact c1
    · unfold gI; rw [g1.1 0 (by decide)]; exact c2
  · obtain ⟨c1, c2, c3, c4⟩ := f.2.2.2.2.2.2.2 rfl
    obtain ⟨d1, d2⟩ := g.2.2.2.2.2.2 rfl
    have hs : shp φ = shp ψ := shp_eq (fun a ha => by funext k; exact (c4 a k ha).symm) c3.symm
    obtain ⟨k, b, k1, k2, k3, k4, k5, k6⟩ := h2
    obtain ⟨⟨o, o1, o2, o3⟩, o4, o5⟩ := h4
    refine ⟨f.2.1, hcfr, ⟨k, 0, ?_, ?_, k3, Or.inl rfl, fun e => ?_, fun e => absurd e (by decide)⟩, g.1, ⟨⟨o, ?_, o2, fun e => ?_⟩, fun c a b => ⟨0, d2 c (by omega), Or.inl rfl, fun e => absurd e (by decide)⟩, h30⟩, h5, h06, h05, him⟩
    · unfold gI; rw [g1.1 0 (by decide)]; exact c2.trans k1
    · unfold gI; rw [g1.1 0 (by decide)]; exact c1
    · obtain ⟨e1, e2⟩ := k5 e
      refine ⟨CSp_lo (CSp_same hs (CSp_o e1 (f.2.2.2.1 5 (by decide) (by decide) (by decide) (by decide)) (fun v hv => f.2.2.2.1 _ (by omega) (by omega) (by omega) (by omega)) (by unfold gI; rw [f.2.2.2.1 6 (by decide) (by decide) (by decide) (by decide)]) (f.2.2.2.1 59 (by decide) (by decide) (by decide) (by decide)) (fun c _ _ => by rw [f.2.2.1]))) g1, ?_⟩
      rw [← rk_shp ψ, ← dd_shp ψ, ← hs]; exact e2
    · rw [d1]; unfold gI; rw [f1.1 1067 (by decide)]; exact o1
    · refine RSp_same hs (RSp_o (RSp_hi (o3 e) f1) ⟨fun j hj => ?_, fun c hc => g.2.2.1 c (by omega) (by omega) (by omega), fun c _ => by rw [g.2.1]⟩)
      by_cases q : j = 9
      · rw [q]; exact d1
      · exact g.2.2.2.1 j (by omega) (by omega) q
theorem Iv_gst {kept : Nat} {im : Nat → FR} {σ s : ZS} {m : Nat} (hm : m = 0 ∨ m = 1 ∨ m = 2) (h : Iv φ kept im σ) (f : Cst m σ φ s ψ) : MFr s φ := MFr_hi h.2.2.2.1 (hiC_Cst f)
end
