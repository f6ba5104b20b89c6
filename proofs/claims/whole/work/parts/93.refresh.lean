-- ===== the class keeps what it knows =====
def shp (φ : FR) : FR := (fun a => if a < 5 then φ.1 a else fun _ => 0, φ.2)
theorem vt_shp (φ : FR) : vt (shp φ) = vt φ := rfl
theorem eqv_shp (φ : FR) : eqv (shp φ) = eqv φ := rfl
theorem num_shp (φ : FR) : num (shp φ) = num φ := rfl
theorem dd_shp (φ : FR) : dd (shp φ) = dd φ := rfl
theorem Rz_shp (φ : FR) : Rz (shp φ) = Rz φ := rfl
theorem rk_shp (φ : FR) : rk (shp φ) = rk φ := rfl
theorem CSp_shp (φ : FR) (σ : ZS) : CSp (shp φ) σ = CSp φ σ := rfl
theorem shp_eq {φ ψ : FR} (h : ∀ a, a < 5 → φ.1 a = ψ.1 a) (h2 : φ.2 = ψ.2) : shp φ = shp ψ := by
  unfold shp
  rw [h2]
  congr 1
  funext a
  split
  · exact h a (by assumption)
  · rfl
theorem CSp_same {φ ψ : FR} {σ : ZS} (h : shp φ = shp ψ) (hs : CSp φ σ) : CSp ψ σ := by
  rw [← CSp_shp, ← h, CSp_shp]; exact hs
theorem q_div {g h : Int} : (g : Rat) * (h : Rat)⁻¹ = Rat.divInt g h := by rw [Rat.divInt_eq_div, Rat.div_def]
theorem int_sc : ∀ (d : Nat) (q : Nat → Rat), ∃ (D : Int) (x : Nat → Int), 0 < D ∧ ∀ j, j < d → (x j : Rat) = (D : Rat) * q j := by
  intro d
  induction d with
  | zero => intro q; exact ⟨1, fun _ => 0, by omega, fun j hj => by omega⟩
  | succ d ih =>
    intro q
    obtain ⟨D, x, h1, h2⟩ := ih q
    have hd := (q d).den_pos
    refine ⟨D * (q d).den, fun j => if j = d then D * (q d).num else x j * (q d).den, Int.mul_pos h1 (by omega), fun j hj => ?_⟩
    dsimp only
    by_cases e : j = d
    · subst e
      rw [if_pos rfl, Rat.intCast_mul, Rat.intCast_mul]
      have h3 : ((q j).num : Rat) = (((q j).den : Int) : Rat) * q j := by
        have h4 : ((q j).num : Rat) * (((q j).den : Int) : Rat)⁻¹ = q j := by rw [q_div]; exact Rat.num_divInt_den (q j)
        have hi : (((q j).den : Int) : Rat) * (((q j).den : Int) : Rat)⁻¹ = 1 := Rat.mul_inv_cancel _ (fun w => by have := q_0.mp w; omega)
        generalize (((q j).den : Int) : Rat)⁻¹ = i at *
        generalize (((q j).den : Int) : Rat) = D at *
        generalize ((q j).num : Rat) = n at *
        rw [← h4]
        have : D * (n * i) = n * (D * i) := by grind
        rw [this, hi, Rat.mul_one]
      rw [h3]; grind
    · rw [if_neg e, Rat.intCast_mul, Rat.intCast_mul, h2 j (by omega)]; grind
section
variable {N : Nat} {φ : FR} {pi : Nat → Nat}
theorem pvt_ker {q : Nat → Rat} (h : ∀ e, e < 2 * nb φ → pvt φ e = true → dq (dd φ) (Rq φ e) q = 0) : ∀ e, e < 2 * nb φ → dq (dd φ) (Rq φ e) q = 0 := by
  intro e
  induction e using Nat.strongRecOn with
  | ind e ih =>
    intro he
    by_cases hp : pvt φ e = true
    · exact h e he hp
    · apply Classical.byContradiction
      intro hne
      apply hp
      obtain ⟨D, x, h1, h2⟩ := int_sc (dd φ) q
      have hx : ∀ e', ((tw φ e' x : Int) : Rat) = (D : Rat) * dq (dd φ) (Rq φ e') q := fun e' => by
        rw [← tw_q, ← dq_mul]; exact dq_congr (fun _ _ => rfl) h2
      unfold pvt
      rw [cd_iff]
      refine ⟨x, fun e' he' => ?_, fun w => ?_⟩
      · have := hx e'
        rw [ih e' he' (by omega), Rat.mul_zero] at this
        exact q_0.mp this
      · have := hx e
        rw [w] at this
        rcases Rat.mul_eq_zero.mp this.symm with a | a
        · have := q_0.mp a; omega
        · exact hne a
theorem loose_ker (h : rk φ < dd φ) : ∃ q : Nat → Rat, (∃ j, j < dd φ ∧ q j ≠ 0) ∧ ∀ e, e < 2 * nb φ → dq (dd φ) (Rq φ e) q = 0 := by
  obtain ⟨q, h1, h2⟩ := li_ker (2 * nb φ) (dd φ) (Rq φ) (pvt φ) h
  exact ⟨q, h1, pvt_ker h2⟩
theorem loose_el (h : rk φ < dd φ) (q : Nat → Rat) : ¬ ElF φ q := fun hq => by
  obtain ⟨x, ⟨j, hj, hx⟩, h2⟩ := loose_ker h
  obtain ⟨l, hl⟩ := hq.2 x (fun e he _ => h2 e he)
  obtain ⟨e, he, hne⟩ := hq.1
  have hr : dq (dd φ) (Rq φ e) x = l * dq (dd φ) (Rq φ e) q := by rw [← dq_mul]; exact dq_congr (fun _ _ => rfl) hl
  rw [h2 e he] at hr
  rcases Rat.mul_eq_zero.mp hr.symm with a | a
  · exact hx (by rw [hl j hj, a, Rat.zero_mul])
  · exact hne a
theorem CSp_L {σ : ZS} (h : CSp φ σ) (hrk : rk φ ≤ dd φ) : ∃ pi L, Sz φ σ (rk φ) ∧ CSh φ σ pi ∧ (rk φ = dd φ → NLF φ) ∧ CMe φ pi σ L := by
  obtain ⟨pi, h1, h2, h3, h4⟩ := h
  by_cases e : rk φ = dd φ
  · obtain ⟨h5, L, h6⟩ := h3 e
    exact ⟨pi, L, h1, h2, fun _ => h5, h6⟩
  · refine ⟨pi, [], h1, h2, fun w => absurd w e, List.Pairwise.nil, fun s => ⟨fun w => absurd w List.not_mem_nil, fun ⟨q, hq, _⟩ => absurd hq (loose_el (by omega) q)⟩, by decide, h4 (by omega), fun k s hk => by simp at hk⟩
end
/-- the class's knowledge: the motions, the mechanisms and their weights -/
def CAll (φ : FR) (σ : ZS) : Prop := ∃ pi L, Sz φ σ (rk φ) ∧ CSh φ σ pi ∧ rk φ ≤ dd φ ∧ (rk φ = dd φ → NLF φ) ∧ CMe φ pi σ L ∧ CBl φ pi σ L
/-- its marks tell what it knows -/
def CK (φ : FR) (σ : ZS) : Prop := ∃ k b : Int, gI σ 0 7 = nt k ∧ gI σ 0 8 = nt b ∧ (k = 0 ∨ k = 1) ∧ (b = 0 ∨ b = 1) ∧ (k = 1 → CSp φ σ ∧ rk φ ≤ dd φ) ∧ (b = 1 → k = 1 ∧ CAll φ σ)
/-- what asking leaves -/
def frC (σ τ : ZS) : Prop := (∀ c, (c = 1 ∨ (2 ≤ c ∧ c ≤ 4) ∨ (13 ≤ c ∧ c < 56) ∨ 1067 ≤ c) → τ.1 c = σ.1 c) ∧ gI τ 0 6 = gI σ 0 6 ∧ ∀ c, 1067 ≤ c → τ.2 c = σ.2 c
theorem frC_rf (σ : ZS) : frC σ σ := ⟨fun _ _ => rfl, rfl, fun _ _ => rfl⟩
theorem frC_tr {a b c : ZS} (h : frC a b) (h2 : frC b c) : frC a c := ⟨fun d e => (h2.1 d e).trans (h.1 d e), h2.2.1.trans h.2.1, fun d e => (h2.2.2 d e).trans (h.2.2 d e)⟩
theorem fr7_C {σ τ : ZS} (h : fr7 σ τ) : frC σ τ := ⟨fun c hc => h.1 c (by omega), by unfold gI; rw [h.1 0 (by omega)], fun c hc => h.2.2 c (by omega) (by omega)⟩
theorem frC_fr {σ τ : ZS} {φ : FR} (h : frC σ τ) (hc : CFr σ 0 φ) : CFr τ 0 φ := CFr_same hc (h.1 _ (by omega)) (fun f hf => h.1 _ (by have := @cl_ge 0 f; have := @cl_lt 0 f (by omega) hf; omega))
section
variable {N : Nat} {φ : FR} {pi : Nat → Nat}
theorem Sz_o {σ τ : ZS} {rho : Nat} (h : Sz φ σ rho) (e : τ.1 5 = σ.1 5) : Sz φ τ rho := by unfold Sz gI; rw [e]; exact h
theorem CSh_o {σ τ : ZS} (h : CSh φ σ pi) (e : ∀ v, v < 2 → τ.1 (57 + v) = σ.1 (57 + v)) : CSh φ τ pi := ⟨h.1, fun v n hv hn => by
  have e2 : gI τ (57 + v) n = gI σ (57 + v) n := by unfold gI; rw [e v hv]
  rw [e2]; exact h.2 v n hv hn⟩
theorem CMe_o {σ τ : ZS} {L : List Nat} (h : CMe φ pi σ L) (e6 : gI τ 6 3 = gI σ 6 3) (e59 : τ.1 59 = σ.1 59) (e : ∀ c, 143 ≤ c → c < 1067 → τ.2 c = σ.2 c) : CMe φ pi τ L := by
  obtain ⟨h1, h2, h3, h4, h5⟩ := h
  refine ⟨h1, h2, h3, by rw [e6]; exact h4, fun k s hk => ?_⟩
  obtain ⟨a1, r, a2, a3⟩ := h5 k s hk
  have hk2 : k < L.length := (List.getElem?_eq_some_iff.mp hk).1
  exact ⟨by unfold gI; rw [e59]; exact a1, r, Row_o a2 (e _ (by omega) (by omega)), a3⟩
theorem CSp_o {σ τ : ZS} (h : CSp φ σ) (e5 : τ.1 5 = σ.1 5) (e57 : ∀ v, v < 2 → τ.1 (57 + v) = σ.1 (57 + v)) (e6 : gI τ 6 3 = gI σ 6 3) (e59 : τ.1 59 = σ.1 59) (e : ∀ c, 143 ≤ c → c < 1067 → τ.2 c = σ.2 c) : CSp φ τ := by
  obtain ⟨pi, h1, h2, h3, h4⟩ := h
  refine ⟨pi, Sz_o h1 e5, CSh_o h2 e57, fun w => ?_, fun w => by rw [e6]; exact h4 w⟩
  obtain ⟨h5, L, h6⟩ := h3 w
  exact ⟨h5, L, CMe_o h6 e6 e59 e⟩
theorem CAll_fr7 {σ τ : ZS} (h : CAll φ σ) (f : fr7 σ τ) : CAll φ τ := by
  obtain ⟨pi, L, h1, h2, h3, h4, h5, h6⟩ := h
  exact ⟨pi, L, Sz_o h1 (f.1 5 (by omega)), CSh_o h2 (fun v hv => f.1 _ (by omega)), h3, h4, CMe_fr7 h5 f, CBl_fr7 h6 f⟩
theorem CAll_Sp {σ : ZS} (h : CAll φ σ) : CSp φ σ := by
  obtain ⟨pi, L, h1, h2, h3, h4, h5, h6⟩ := h
  refine ⟨pi, h1, h2, fun w => ⟨h4 w, L, h5⟩, fun w => ?_⟩
  have : L = [] := by
    cases L with
    | nil => rfl
    | cons a t =>
      obtain ⟨q, hq, _⟩ := (h5.2.1 a).mp (List.mem_cons_self)
      exact absurd hq (loose_el w q)
  subst this
  exact h5.2.2.2.1
/-- both marks stand -/
def CK1 (φ : FR) (σ : ZS) : Prop := gI σ 0 7 = nt 1 ∧ gI σ 0 8 = nt 1 ∧ CAll φ σ
theorem CK1_K {σ : ZS} (h : CK1 φ σ) : CK φ σ := ⟨1, 1, h.1, h.2.1, Or.inr rfl, Or.inr rfl, fun _ => ⟨CAll_Sp h.2.2, h.2.2.choose_spec.choose_spec.2.2.1⟩, fun _ => ⟨rfl, h.2.2⟩⟩
theorem CK1_fr7 {σ τ : ZS} (h : CK1 φ σ) (f : fr7 σ τ) : CK1 φ τ := ⟨by unfold gI; rw [f.1 0 (by omega)]; exact h.1, by unfold gI; rw [f.1 0 (by omega)]; exact h.2.1, CAll_fr7 h.2.2 f⟩
theorem s_refresh (w : WF φ) (hN : 1200 ≤ N) {σ : ZS} (hc : CFr σ 0 φ) (hk : CK φ σ) : ∃ τ, f_X5_refresh N σ = some ((), τ) ∧ CK1 φ τ ∧ frC σ τ := by
  obtain ⟨k, b, g7, g8, hk2, hb2, hS, hA⟩ := hk
  -- weighing
  have hB : ∀ (s : ZS) (b : Int), CFr s 0 φ → gI s 0 7 = nt 1 → gI s 0 8 = nt b → (b = 0 ∨ b = 1) → CSp φ s → rk φ ≤ dd φ → (b = 1 → CAll φ s) → ∃ τ, f_X5_refresh_b30 N s = some ((), τ) ∧ CK1 φ τ ∧ frC s τ := by
    intro s b hc g7 g8 hb hS hrd hA
    unfold f_X5_refresh_b30
    rw [g8, n_0]
    rcases hb with rfl | rfl
    · obtain ⟨pi, L, q1, q2, q3, q4⟩ := CSp_L hS hrd
      obtain ⟨τ, e1, e2, e3, e4⟩ := s_weigh w hN hc q4 q2 q1.2.2.1
      rw [eq_t rfl, e1, obd_some, bd_eq]
      have f2 : ∀ c, c ≠ 0 → (sI τ 0 8 (1 : Int32)).1 c = τ.1 c := fun c hc => sI_o hc
      refine ⟨_, rfl, ⟨?_, gI_sI_at .., pi, L, ?_, ?_, hrd, q3, ?_, ?_⟩, ⟨fun c hc => ?_, ?_, fun c hc => ?_⟩⟩
      · rw [gI_sI_k (by omega)]; unfold gI; rw [e3 0 (by omega) (by omega)]; exact g7
      · exact Sz_o q1 (by rw [f2 5 (by omega), e3 5 (by omega) (by omega)])
      · exact CSh_o q2 (fun v hv => by rw [f2 _ (by omega), e3 _ (by omega) (by omega)])
      · exact CMe_o q4 (by unfold gI; rw [f2 6 (by omega), e3 6 (by omega) (by omega)]) (by rw [f2 59 (by omega), e3 59 (by omega) (by omega)]) (fun c c1 c2 => e4 c (by omega))
      · obtain ⟨u1, u2, u3⟩ := e2
        refine ⟨by rw [gI_sI_c (by omega)]; exact u1, fun b hb => by rw [gI_sI_c (by omega)]; exact u2 b hb, fun k s hk => ?_⟩
        obtain ⟨q, r, St, W, hw⟩ := u3 k s hk
        exact ⟨q, r, St, W, CW_o hw rfl (fun c _ => rfl)⟩
      · rw [f2 c (by omega), e3 c (by omega) (by omega)]
      · rw [gI_sI_k (by omega)]; unfold gI; rw [e3 0 (by omega) (by omega)]
      · exact e4 c (by omega)
    · rw [eq_f (by omega) (by omega) (by omega) (by omega) (by omega)]
      exact ⟨s, rfl, ⟨g7, g8, hA rfl⟩, frC_rf s⟩
  unfold f_X5_refresh
  rw [g7, n_0]
  rcases hk2 with rfl | rfl
  · have hb0 : b = 0 := by
      rcases hb2 with h | h
      · exact h
      · have := (hA h).1; omega
    subst hb0
    obtain ⟨s1, pi, Y, idx, e1, e2, e3, e4, e5, e6⟩ := s_span (N := N) (by omega) w hc
    obtain ⟨s2, f1, f2, f3, f4, f5⟩ := s_find w (N := N) (by omega) e2 e3 e4
    have g2 : ∀ c, c ≠ 0 → (sI s2 0 7 (1 : Int32)).1 c = s2.1 c := fun c hc => sI_o hc
    have o1 : ∀ c, c ≠ 0 → c ≠ 5 → c ≠ 6 → ¬ (56 ≤ c ∧ c < 60) → (sI s2 0 7 (1 : Int32)).1 c = σ.1 c := fun c c1 c2 c3 c4 => by rw [g2 c c1, f3 c (by omega) c3, e5 c c2 (by omega)]
    have hfr : frC σ (sI s2 0 7 (1 : Int32)) := ⟨fun c hc => o1 c (by omega) (by omega) (by omega) (by omega), by
      rw [gI_sI_k (by omega)]; unfold gI; rw [f3 0 (by omega) (by omega), e5 0 (by omega) (by omega)], fun c hc => by
      show s2.2 c = _
      rw [f5 c (by omega), e6 c (by omega)]⟩
    obtain ⟨τ, r1, r2, r3⟩ := hB (sI s2 0 7 (1 : Int32)) 0 (frC_fr hfr hc) (gI_sI_at ..) (by
      rw [gI_sI_k (by omega)]; unfold gI; rw [f3 0 (by omega) (by omega), e5 0 (by omega) (by omega)]; exact g8) (Or.inl rfl) (CSp_o f2 (g2 5 (by omega)) (fun v hv => g2 _ (by omega)) (gI_sI_c (by omega) ..) (g2 59 (by omega)) (fun _ _ _ => rfl)) (RD_rk w e3) (fun w => by omega)
    refine ⟨τ, ?_, r2, frC_tr hfr r3⟩
    rw [eq_t rfl, e1, obd_some, f1, obd_some, bd_eq]
    exact r1
  · rw [eq_f (by omega) (by omega) (by omega) (by omega) (by omega)]
    exact hB σ b hc g7 g8 hb2 (hS rfl).1 (hS rfl).2 (fun h => (hA h).2)
end
