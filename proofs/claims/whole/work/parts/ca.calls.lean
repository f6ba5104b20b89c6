-- ===== the law: each call, and the run of them =====
section
variable {N : Nat} {σ : ZS}
theorem md_node (φ : FR) (x1 x2 x3 : Int) : (oNode φ x1 x2 x3).2.2 = 0 ∨ (oNode φ x1 x2 x3).2.2 = 1 ∨ (oNode φ x1 x2 x3).2.2 = 2 := by
  unfold oNode
  (repeat' split) <;> first | exact Or.inl rfl | exact Or.inr (Or.inl rfl) | exact Or.inr (Or.inr rfl)
theorem md_hold (φ : FR) (x1 x2 : Int) : (oHold φ x1 x2).2.2 = 0 ∨ (oHold φ x1 x2).2.2 = 1 ∨ (oHold φ x1 x2).2.2 = 2 := by
  unfold oHold
  (repeat' split) <;> first | exact Or.inl rfl | exact Or.inr (Or.inl rfl) | exact Or.inr (Or.inr rfl)
theorem md_bar (φ : FR) (x1 x2 x3 : Int) : (oBar φ x1 x2 x3).2.2 = 0 ∨ (oBar φ x1 x2 x3).2.2 = 1 ∨ (oBar φ x1 x2 x3).2.2 = 2 := by
  unfold oBar
  (repeat' split) <;> first | exact Or.inl rfl | exact Or.inr (Or.inl rfl) | exact Or.inr (Or.inr rfl)
theorem md_lift (φ : FR) (x1 : Int) : (oLift φ x1).2.2 = 0 ∨ (oLift φ x1).2.2 = 1 ∨ (oLift φ x1).2.2 = 2 := by
  unfold oLift
  (repeat' split) <;> first | exact Or.inl rfl | exact Or.inr (Or.inl rfl) | exact Or.inr (Or.inr rfl)
theorem md_strengthen (φ : FR) (x1 x2 : Int) : (oStr φ x1 x2).2.2 = 0 ∨ (oStr φ x1 x2).2.2 = 1 ∨ (oStr φ x1 x2).2.2 = 2 := by
  unfold oStr
  (repeat' split) <;> first | exact Or.inl rfl | exact Or.inr (Or.inl rfl) | exact Or.inr (Or.inr rfl)
theorem md_load (φ : FR) (x1 x2 x3 x4 : Int) : (oLoad φ x1 x2 x3 x4).2.2 = 0 ∨ (oLoad φ x1 x2 x3 x4).2.2 = 1 ∨ (oLoad φ x1 x2 x3 x4).2.2 = 2 := by
  unfold oLoad
  (repeat' split) <;> first | exact Or.inl rfl | exact Or.inr (Or.inl rfl) | exact Or.inr (Or.inr rfl)
theorem y_node (hN : 30000 ≤ N) (h : Ev σ) (x1 x2 x3 : Int32) : ∃ v s τ, f_X5_node N x1 x2 x3 σ = some (v, s) ∧ f_X6_node N x1 x2 x3 s = some (v, τ) ∧ Ev τ := by
  obtain ⟨φ, kept, im, hI⟩ := h
  obtain ⟨s, e1, f⟩ := c_node (N := N) (by omega) hI.2.1 hI.1 (iR_of x1) (iR_of x2) (iR_of x3)
  have hm := md_node φ x1.toInt x2.toInt x3.toInt
  obtain ⟨τ, e2, g⟩ := m_node (N := N) (by omega) (Iv_gst hm hI f) hI.1 (iR_of x1) (iR_of x2) (iR_of x3)
  simp only [nt_of] at e1 e2
  exact ⟨_, s, τ, e1, e2, _, _, _, Iv_st hm hI f g⟩
theorem y_hold (hN : 30000 ≤ N) (h : Ev σ) (x1 x2 : Int32) : ∃ v s τ, f_X5_hold N x1 x2 σ = some (v, s) ∧ f_X6_hold N x1 x2 s = some (v, τ) ∧ Ev τ := by
  obtain ⟨φ, kept, im, hI⟩ := h
  obtain ⟨s, e1, f⟩ := c_hold (N := N) hI.2.1 hI.1 (iR_of x1) (iR_of x2)
  have hm := md_hold φ x1.toInt x2.toInt
  obtain ⟨τ, e2, g⟩ := m_hold (N := N) (by omega) (Iv_gst hm hI f) hI.1 (iR_of x1) (iR_of x2)
  simp only [nt_of] at e1 e2
  exact ⟨_, s, τ, e1, e2, _, _, _, Iv_st hm hI f g⟩
theorem y_bar (hN : 30000 ≤ N) (h : Ev σ) (x1 x2 x3 : Int32) : ∃ v s τ, f_X5_bar N x1 x2 x3 σ = some (v, s) ∧ f_X6_bar N x1 x2 x3 s = some (v, τ) ∧ Ev τ := by
  obtain ⟨φ, kept, im, hI⟩ := h
  obtain ⟨s, e1, f⟩ := c_bar (N := N) (by omega) hI.2.1 hI.1 (iR_of x1) (iR_of x2) (iR_of x3)
  have hm := md_bar φ x1.toInt x2.toInt x3.toInt
  obtain ⟨τ, e2, g⟩ := m_bar (N := N) (by omega) (Iv_gst hm hI f) hI.1 (iR_of x1) (iR_of x2) (iR_of x3)
  simp only [nt_of] at e1 e2
  exact ⟨_, s, τ, e1, e2, _, _, _, Iv_st hm hI f g⟩
theorem y_lift (hN : 30000 ≤ N) (h : Ev σ) (x1 : Int32) : ∃ v s τ, f_X5_lift N x1 σ = some (v, s) ∧ f_X6_lift N x1 s = some (v, τ) ∧ Ev τ := by
  obtain ⟨φ, kept, im, hI⟩ := h
  obtain ⟨s, e1, f⟩ := c_lift (N := N) (by omega) hI.2.1 hI.1 (iR_of x1)
  have hm := md_lift φ x1.toInt
  obtain ⟨τ, e2, g⟩ := m_lift (N := N) (by omega) (Iv_gst hm hI f) hI.1 (iR_of x1)
  simp only [nt_of] at e1 e2
  exact ⟨_, s, τ, e1, e2, _, _, _, Iv_st hm hI f g⟩
theorem y_strengthen (hN : 30000 ≤ N) (h : Ev σ) (x1 x2 : Int32) : ∃ v s τ, f_X5_strengthen N x1 x2 σ = some (v, s) ∧ f_X6_strengthen N x1 x2 s = some (v, τ) ∧ Ev τ := by
  obtain ⟨φ, kept, im, hI⟩ := h
  obtain ⟨s, e1, f⟩ := c_strengthen (N := N) hI.2.1 hI.1 (iR_of x1) (iR_of x2)
  have hm := md_strengthen φ x1.toInt x2.toInt
  obtain ⟨τ, e2, g⟩ := m_strengthen (N := N) (by omega) (Iv_gst hm hI f) hI.1 (iR_of x1) (iR_of x2)
  simp only [nt_of] at e1 e2
  exact ⟨_, s, τ, e1, e2, _, _, _, Iv_st hm hI f g⟩
theorem y_load (hN : 30000 ≤ N) (h : Ev σ) (x1 x2 x3 x4 : Int32) : ∃ v s τ, f_X5_load N x1 x2 x3 x4 σ = some (v, s) ∧ f_X6_load N x1 x2 x3 x4 s = some (v, τ) ∧ Ev τ := by
  obtain ⟨φ, kept, im, hI⟩ := h
  obtain ⟨s, e1, f⟩ := c_load (N := N) (by omega) hI.2.1 hI.1 (iR_of x1) (iR_of x2) (iR_of x3) (iR_of x4)
  have hm := md_load φ x1.toInt x2.toInt x3.toInt x4.toInt
  obtain ⟨τ, e2, g⟩ := m_load (N := N) (by omega) (Iv_gst hm hI f) hI.1 (iR_of x1) (iR_of x2) (iR_of x3) (iR_of x4)
  simp only [nt_of] at e1 e2
  exact ⟨_, s, τ, e1, e2, _, _, _, Iv_st hm hI f g⟩
theorem y_ofNode (hN : 30000 ≤ N) (h : Ev σ) (x1 x2 : Int32) : ∃ v s τ, f_X5_ofNode N x1 x2 σ = some (v, s) ∧ f_X6_ofNode N x1 x2 s = some (v, τ) ∧ Ev τ := by
  obtain ⟨φ, kept, im, hI⟩ := h
  have e1 := c_ofNode (N := N) hI.2.1 hI.1 (iR_of x1) (iR_of x2)
  have e2 := m_ofNode (N := N) hI.2.2.2.1 hI.1 (iR_of x1) (iR_of x2)
  simp only [nt_of] at e1 e2
  exact ⟨_, _, _, e1, e2, φ, kept, im, hI⟩
theorem y_ofBar (hN : 30000 ≤ N) (h : Ev σ) (x1 x2 : Int32) : ∃ v s τ, f_X5_ofBar N x1 x2 σ = some (v, s) ∧ f_X6_ofBar N x1 x2 s = some (v, τ) ∧ Ev τ := by
  obtain ⟨φ, kept, im, hI⟩ := h
  have e1 := c_ofBar (N := N) hI.2.1 hI.1 (iR_of x1) (iR_of x2)
  have e2 := m_ofBar (N := N) hI.2.2.2.1 hI.1 (iR_of x1) (iR_of x2)
  simp only [nt_of] at e1 e2
  exact ⟨_, _, _, e1, e2, φ, kept, im, hI⟩
theorem y_count (hN : 30000 ≤ N) (h : Ev σ) (x1 : Int32) : ∃ v s τ, f_X5_count N x1 σ = some (v, s) ∧ f_X6_count N x1 s = some (v, τ) ∧ Ev τ := by
  obtain ⟨φ, kept, im, hI⟩ := h
  obtain ⟨s, e1, f⟩ := c_count (N := N) hI.1 (by omega) hI.2.1 hI.2.2.1 (iR_of x1) hI.2.2.2.2.2.2.1
  obtain ⟨a1, a2, a3⟩ := Iv_get hI f
  obtain ⟨τ, e2, g⟩ := m_count (N := N) hI.1 (by omega) a1 a2 (iR_of x1) hI.2.2.2.2.2.1 a3
  simp only [nt_of] at e1 e2
  exact ⟨_, s, τ, e1, e2, _, _, _, Iv_ask hI f g⟩
theorem y_mechanism (hN : 30000 ≤ N) (h : Ev σ) (x1 : Int32) : ∃ v s τ, f_X5_mechanism N x1 σ = some (v, s) ∧ f_X6_mechanism N x1 s = some (v, τ) ∧ Ev τ := by
  obtain ⟨φ, kept, im, hI⟩ := h
  obtain ⟨s, e1, f⟩ := c_mechanism (N := N) hI.1 (by omega) hI.2.1 hI.2.2.1 (iR_of x1)
  obtain ⟨a1, a2, _⟩ := Iv_get hI f
  obtain ⟨τ, e2, g⟩ := m_mechanism (N := N) hI.1 (by omega) a1 a2 (iR_of x1)
  simp only [nt_of] at e1 e2
  exact ⟨_, s, τ, e1, e2, _, _, _, Iv_ask hI f g⟩
theorem y_twist (hN : 30000 ≤ N) (h : Ev σ) (x1 x2 x3 : Int32) : ∃ v s τ, f_X5_twist N x1 x2 x3 σ = some (v, s) ∧ f_X6_twist N x1 x2 x3 s = some (v, τ) ∧ Ev τ := by
  obtain ⟨φ, kept, im, hI⟩ := h
  obtain ⟨s, e1, f⟩ := c_twist (N := N) hI.1 (by omega) hI.2.1 hI.2.2.1 (iR_of x1) (iR_of x2) (iR_of x3)
  obtain ⟨a1, a2, _⟩ := Iv_get hI f
  obtain ⟨τ, e2, g⟩ := m_twist (N := N) hI.1 (by omega) a1 a2 (iR_of x1) (iR_of x2) (iR_of x3)
  simp only [nt_of] at e1 e2
  exact ⟨_, s, τ, e1, e2, _, _, _, Iv_ask hI f g⟩
theorem y_bound (hN : 30000 ≤ N) (h : Ev σ) (x1 x2 x3 : Int32) : ∃ v s τ, f_X5_bound N x1 x2 x3 σ = some (v, s) ∧ f_X6_bound N x1 x2 x3 s = some (v, τ) ∧ Ev τ := by
  obtain ⟨φ, kept, im, hI⟩ := h
  obtain ⟨s, e1, f⟩ := c_bound (N := N) hI.1 (by omega) hI.2.1 hI.2.2.1 (iR_of x1) (iR_of x2) (iR_of x3)
  obtain ⟨a1, a2, _⟩ := Iv_get hI f
  obtain ⟨τ, e2, g⟩ := m_bound (N := N) hI.1 (by omega) a1 a2 (iR_of x1) (iR_of x2) (iR_of x3)
  simp only [nt_of] at e1 e2
  exact ⟨_, s, τ, e1, e2, _, _, _, Iv_ask hI f g⟩
theorem y_limits (hN : 30000 ≤ N) (h : Ev σ) (x1 : Int32) : ∃ v s τ, f_X5_limits N x1 σ = some (v, s) ∧ f_X6_limits N x1 s = some (v, τ) ∧ Ev τ := by
  obtain ⟨φ, kept, im, hI⟩ := h
  obtain ⟨s, e1, f⟩ := c_limits (N := N) hI.1 (by omega) hI.2.1 hI.2.2.1 (iR_of x1)
  obtain ⟨a1, a2, _⟩ := Iv_get hI f
  obtain ⟨τ, e2, g⟩ := m_limits (N := N) hI.1 (by omega) a1 a2 (iR_of x1)
  simp only [nt_of] at e1 e2
  exact ⟨_, s, τ, e1, e2, _, _, _, Iv_ask hI f g⟩
theorem y_factor (hN : 30000 ≤ N) (h : Ev σ) (x1 x2 x3 : Int32) : ∃ v s τ, f_X5_factor N x1 x2 x3 σ = some (v, s) ∧ f_X6_factor N x1 x2 x3 s = some (v, τ) ∧ Ev τ := by
  obtain ⟨φ, kept, im, hI⟩ := h
  obtain ⟨s, e1, f⟩ := c_factor (N := N) hI.1 (by omega) hI.2.1 hI.2.2.1 (iR_of x1) (iR_of x2) (iR_of x3)
  obtain ⟨a1, a2, _⟩ := Iv_get hI f
  obtain ⟨τ, e2, g⟩ := m_factor (N := N) hI.1 (by omega) a1 a2 (iR_of x1) (iR_of x2) (iR_of x3)
  simp only [nt_of] at e1 e2
  exact ⟨_, s, τ, e1, e2, _, _, _, Iv_ask hI f g⟩
theorem y_near (hN : 30000 ≤ N) (h : Ev σ) (x1 x2 : Int32) : ∃ v s τ, f_X5_near N x1 x2 σ = some (v, s) ∧ f_X6_near N x1 x2 s = some (v, τ) ∧ Ev τ := by
  obtain ⟨φ, kept, im, hI⟩ := h
  obtain ⟨s, e1, f⟩ := c_near (N := N) hI.1 (by omega) hI.2.1 hI.2.2.1 (iR_of x1) (iR_of x2)
  obtain ⟨a1, a2, _⟩ := Iv_get hI f
  obtain ⟨τ, e2, g⟩ := m_near (N := N) hI.1 (by omega) a1 a2 (iR_of x1) (iR_of x2)
  simp only [nt_of] at e1 e2
  exact ⟨_, s, τ, e1, e2, _, _, _, Iv_ask hI f g⟩
theorem y_bears (hN : 30000 ≤ N) (h : Ev σ) (x1 x2 x3 : Int32) : ∃ v s τ, f_X5_bears N x1 x2 x3 σ = some (v, s) ∧ f_X6_bears N x1 x2 x3 s = some (v, τ) ∧ Ev τ := by
  obtain ⟨φ, kept, im, hI⟩ := h
  obtain ⟨s, e1, f⟩ := c_bears (N := N) hI.1 (by omega) hI.2.1 hI.2.2.1 (iR_of x1) (iR_of x2) (iR_of x3)
  obtain ⟨a1, a2, _⟩ := Iv_get hI f
  obtain ⟨τ, e2, g⟩ := m_bears (N := N) hI.1 (by omega) a1 a2 (iR_of x1) (iR_of x2) (iR_of x3)
  simp only [nt_of] at e1 e2
  exact ⟨_, s, τ, e1, e2, _, _, _, Iv_ask hI f g⟩
theorem y_moment (hN : 30000 ≤ N) (h : Ev σ) (x1 x2 x3 x4 : Int32) : ∃ v s τ, f_X5_moment N x1 x2 x3 x4 σ = some (v, s) ∧ f_X6_moment N x1 x2 x3 x4 s = some (v, τ) ∧ Ev τ := by
  obtain ⟨φ, kept, im, hI⟩ := h
  obtain ⟨s, e1, f⟩ := c_moment (N := N) hI.1 (by omega) hI.2.1 hI.2.2.1 (iR_of x1) (iR_of x2) (iR_of x3) (iR_of x4)
  obtain ⟨a1, a2, _⟩ := Iv_get hI f
  obtain ⟨τ, e2, g⟩ := m_moment (N := N) hI.1 (by omega) a1 a2 (iR_of x1) (iR_of x2) (iR_of x3) (iR_of x4)
  simp only [nt_of] at e1 e2
  exact ⟨_, s, τ, e1, e2, _, _, _, Iv_ask hI f g⟩
theorem y_yields (hN : 30000 ≤ N) (h : Ev σ) (x1 x2 : Int32) : ∃ v s τ, f_X5_yields N x1 x2 σ = some (v, s) ∧ f_X6_yields N x1 x2 s = some (v, τ) ∧ Ev τ := by
  obtain ⟨φ, kept, im, hI⟩ := h
  obtain ⟨s, e1, f⟩ := c_yields (N := N) hI.1 (by omega) hI.2.1 hI.2.2.1 (iR_of x1) (iR_of x2)
  obtain ⟨a1, a2, _⟩ := Iv_get hI f
  obtain ⟨τ, e2, g⟩ := m_yields (N := N) hI.1 (by omega) a1 a2 (iR_of x1) (iR_of x2)
  simp only [nt_of] at e1 e2
  exact ⟨_, s, τ, e1, e2, _, _, _, Iv_ask hI f g⟩
theorem y_binding (hN : 30000 ≤ N) (h : Ev σ) (x1 x2 x3 : Int32) : ∃ v s τ, f_X5_binding N x1 x2 x3 σ = some (v, s) ∧ f_X6_binding N x1 x2 x3 s = some (v, τ) ∧ Ev τ := by
  obtain ⟨φ, kept, im, hI⟩ := h
  obtain ⟨s, e1, f⟩ := c_binding (N := N) hI.1 (by omega) hI.2.1 hI.2.2.1 (iR_of x1) (iR_of x2) (iR_of x3)
  obtain ⟨a1, a2, _⟩ := Iv_get hI f
  obtain ⟨τ, e2, g⟩ := m_binding (N := N) hI.1 (by omega) a1 a2 (iR_of x1) (iR_of x2) (iR_of x3)
  simp only [nt_of] at e1 e2
  exact ⟨_, s, τ, e1, e2, _, _, _, Iv_ask hI f g⟩
theorem y_spare (hN : 30000 ≤ N) (h : Ev σ) (x1 x2 : Int32) : ∃ v s τ, f_X5_spare N x1 x2 σ = some (v, s) ∧ f_X6_spare N x1 x2 s = some (v, τ) ∧ Ev τ := by
  obtain ⟨φ, kept, im, hI⟩ := h
  obtain ⟨s, r, e1, f, u1⟩ := c_spare (N := N) hI.1 (by omega) hI.2.1 hI.2.2.1 (iR_of x1) (iR_of x2)
  obtain ⟨a1, a2, _⟩ := Iv_get hI f
  obtain ⟨τ, r', e2, g, u2⟩ := m_spare (N := N) hI.1 (by omega) a1 a2 (iR_of x1) (iR_of x2)
  rw [← aSpare_u u1 u2] at e2
  simp only [nt_of] at e1 e2
  exact ⟨_, s, τ, e1, e2, _, _, _, Iv_ask hI f g⟩
theorem y_weakest (hN : 30000 ≤ N) (h : Ev σ) (x1 : Int32) : ∃ v s τ, f_X5_weakest N x1 σ = some (v, s) ∧ f_X6_weakest N x1 s = some (v, τ) ∧ Ev τ := by
  obtain ⟨φ, kept, im, hI⟩ := h
  obtain ⟨s, e1, f⟩ := c_weakest (N := N) hI.1 (by omega) hI.2.1 hI.2.2.1 (iR_of x1)
  obtain ⟨a1, a2, _⟩ := Iv_get hI f
  obtain ⟨τ, e2, g⟩ := m_weakest (N := N) hI.1 (by omega) a1 a2 (iR_of x1)
  simp only [nt_of] at e1 e2
  exact ⟨_, s, τ, e1, e2, _, _, _, Iv_ask hI f g⟩
theorem y_image (hN : 30000 ≤ N) (h : Ev σ) (x1 : Int32) : ∃ v s τ, f_X5_image N x1 σ = some (v, s) ∧ f_X6_image N x1 s = some (v, τ) ∧ Ev τ := by
  obtain ⟨φ, kept, im, hI⟩ := h
  have e := e_image (N := N) (by omega) hI (iR_of x1)
  simp only [nt_of] at e
  exact e
theorem y_restore (hN : 30000 ≤ N) (h : Ev σ) (x1 : Int32) : ∃ v s τ, f_X5_restore N x1 σ = some (v, s) ∧ f_X6_restore N x1 s = some (v, τ) ∧ Ev τ := by
  obtain ⟨φ, kept, im, hI⟩ := h
  have e := e_restore (N := N) (by omega) hI (iR_of x1)
  simp only [nt_of] at e
  exact e
theorem Ev_0 : Ev z0 := by
  refine ⟨(fun _ _ => 0, 0, 0), 0, fun _ => (fun _ _ => 0, 0, 0), ⟨Nat.zero_le _, Nat.zero_le _, fun n hn => absurd hn (Nat.not_lt_zero n), fun b hb => absurd hb (Nat.not_lt_zero b), fun f k _ _ _ => ⟨show (-5 : Int) ≤ 0 from by decide, show (0 : Int) ≤ 5 from by decide, fun _ => rfl⟩⟩, ⟨rfl, rfl, fun f k hf hk => ?_⟩, ⟨0, 0, rfl, rfl, Or.inl rfl, Or.inl rfl, fun e => absurd e (by decide), fun e => absurd e (by decide)⟩, ⟨rfl, rfl, fun f k hf hk => ?_, fun c v n _ _ hn => absurd hn (Nat.not_lt_zero n)⟩, ⟨⟨1, rfl, Or.inr rfl, fun e => absurd e (by decide)⟩, fun c _ _ => ⟨0, ?_, Or.inl rfl, fun e => absurd e (by decide)⟩, rfl⟩, by decide, rfl, fun K hK => ?_, fun K _ hb => ?_⟩
  · have h1 : cl 0 f ≠ 1067 := by have := @cl_lt 0 f (by omega) hf; omega
    unfold gI
    rw [z0I h1]; rfl
  · exfalso
    unfold lf at hk
    rw [if_pos hf] at hk
    split at hk
    · exact absurd hk (Nat.not_lt_zero k)
    · exact absurd hk (Nat.not_lt_zero k)
  · unfold gI
    rw [z0I (by decide)]; rfl
  · unfold gI
    rw [z0I (by decide), if_neg (by simp)]; rfl
  · simp at hb
set_option maxHeartbeats 1600000 in
theorem law_run (hN : 30000 ≤ N) {xs : Nat → Int32} {L : Nat} (hL : L ≤ 2560) : ∀ (m i n : Nat) (σ : ZS), Ev σ → i ≤ 2560 → L < i + 5 * m + 5 → m + 1 ≤ n → ∃ σ', f_L_law_h18 N xs L n (nt (i : Nat)) σ = some ((1 : Int32), σ') := by
  have hLn : Int32.ofNat L = nt (L : Nat) := rfl
  intro m
  induction m with
  | zero =>
    intro i n σ hE hi hm hn
    obtain ⟨n, rfl⟩ : ∃ k, n = k + 1 := ⟨n - 1, by omega⟩
    refine ⟨σ, ?_⟩
    rw [f_L_law_h18, hLn, n_5, nt_sub, lt_t (by omega) (by omega) (by omega)]
  | succ m ih =>
    intro i n σ hE hi hm hn
    obtain ⟨n, rfl⟩ : ∃ k, n = k + 1 := ⟨n - 1, by omega⟩
    by_cases hlt : L < i + 5
    · refine ⟨σ, ?_⟩
      rw [f_L_law_h18, hLn, n_5, nt_sub, lt_t (by omega) (by omega) (by omega)]
    have fin : ∀ τ, Ev τ → ∃ σ', f_L_law_b943 N xs L (fun x3_ σ_ => f_L_law_h18 N xs L n x3_ σ_) (nt (i : Nat)) τ = some ((1 : Int32), σ') := fun τ hτ => by
      obtain ⟨σ', e⟩ := ih (i + 5) n τ hτ (by omega) (by omega) (by omega)
      refine ⟨σ', ?_⟩
      rw [f_L_law_b943, n_5, nt_add, bd_eq]
      exact e
    have k1 : ∀ (x : Option (Int32 × ZS)), ck (inb (nt (i : Nat) + (1 : Int32)) L) x = x := fun x => by rw [n_1, nt_add, ck_inb (by omega) (by omega) (by omega)]
    have k2 : ∀ (x : Option (Int32 × ZS)), ck (inb (nt (i : Nat) + (2 : Int32)) L) x = x := fun x => by rw [n_2, nt_add, ck_inb (by omega) (by omega) (by omega)]
    have k3 : ∀ (x : Option (Int32 × ZS)), ck (inb (nt (i : Nat) + (3 : Int32)) L) x = x := fun x => by rw [n_3, nt_add, ck_inb (by omega) (by omega) (by omega)]
    have k4 : ∀ (x : Option (Int32 × ZS)), ck (inb (nt (i : Nat) + (4 : Int32)) L) x = x := fun x => by rw [n_4, nt_add, ck_inb (by omega) (by omega) (by omega)]
    rw [f_L_law_h18, hLn, n_5, nt_sub, lt_f (by omega) (by omega) (by omega), ck_inb (by omega) (by omega) (by omega), bd_eq]
    generalize xs (nt (i : Nat)).toNatClampNeg &&& (31 : Int32) = v
    generalize xs (nt (i : Nat) + (1 : Int32)).toNatClampNeg = x1
    generalize xs (nt (i : Nat) + (2 : Int32)).toNatClampNeg = x2
    generalize xs (nt (i : Nat) + (3 : Int32)).toNatClampNeg = x3
    generalize xs (nt (i : Nat) + (4 : Int32)).toNatClampNeg = x4
    by_cases q : v = (0 : Int32)
    · rw [if_pos q, k1, k2, k3]
      obtain ⟨r, s, τ, e1, e2, e3⟩ := y_node hN hE x1 x2 x3
      rw [e1, obd_some, k1, k2, k3, e2, obd_some, if_pos rfl]
      exact fin τ e3
    rw [if_neg q]
    clear q
    by_cases q : v = (1 : Int32)
    · rw [if_pos q, k1, k2]
      obtain ⟨r, s, τ, e1, e2, e3⟩ := y_hold hN hE x1 x2
      rw [e1, obd_some, k1, k2, e2, obd_some, if_pos rfl]
      exact fin τ e3
    rw [if_neg q]
    clear q
    by_cases q : v = (2 : Int32)
    · rw [if_pos q, k1, k2, k3]
      obtain ⟨r, s, τ, e1, e2, e3⟩ := y_bar hN hE x1 x2 x3
      rw [e1, obd_some, k1, k2, k3, e2, obd_some, if_pos rfl]
      exact fin τ e3
    rw [if_neg q]
    clear q
    by_cases q : v = (3 : Int32)
    · rw [if_pos q, k1]
      obtain ⟨r, s, τ, e1, e2, e3⟩ := y_lift hN hE x1
      rw [e1, obd_some, k1, e2, obd_some, if_pos rfl]
      exact fin τ e3
    rw [if_neg q]
    clear q
    by_cases q : v = (4 : Int32)
    · rw [if_pos q, k1, k2]
      obtain ⟨r, s, τ, e1, e2, e3⟩ := y_strengthen hN hE x1 x2
      rw [e1, obd_some, k1, k2, e2, obd_some, if_pos rfl]
      exact fin τ e3
    rw [if_neg q]
    clear q
    by_cases q : v = nt 5
    · rw [if_pos q, k1, k2, k3, k4]
      obtain ⟨r, s, τ, e1, e2, e3⟩ := y_load hN hE x1 x2 x3 x4
      rw [e1, obd_some, k1, k2, k3, k4, e2, obd_some, if_pos rfl]
      exact fin τ e3
    rw [if_neg q]
    clear q
    by_cases q : v = (6 : Int32)
    · rw [if_pos q, k1, k2]
      obtain ⟨r, s, τ, e1, e2, e3⟩ := y_ofNode hN hE x1 x2
      rw [e1, obd_some, k1, k2, e2, obd_some, if_pos rfl]
      exact fin τ e3
    rw [if_neg q]
    clear q
    by_cases q : v = (7 : Int32)
    · rw [if_pos q, k1, k2]
      obtain ⟨r, s, τ, e1, e2, e3⟩ := y_ofBar hN hE x1 x2
      rw [e1, obd_some, k1, k2, e2, obd_some, if_pos rfl]
      exact fin τ e3
    rw [if_neg q]
    clear q
    by_cases q : v = (8 : Int32)
    · rw [if_pos q, k1]
      obtain ⟨r, s, τ, e1, e2, e3⟩ := y_count hN hE x1
      rw [e1, obd_some, k1, e2, obd_some, if_pos rfl]
      exact fin τ e3
    rw [if_neg q]
    clear q
    by_cases q : v = (9 : Int32)
    · rw [if_pos q, k1]
      obtain ⟨r, s, τ, e1, e2, e3⟩ := y_mechanism hN hE x1
      rw [e1, obd_some, k1, e2, obd_some, if_pos rfl]
      exact fin τ e3
    rw [if_neg q]
    clear q
    by_cases q : v = (10 : Int32)
    · rw [if_pos q, k1, k2, k3]
      obtain ⟨r, s, τ, e1, e2, e3⟩ := y_twist hN hE x1 x2 x3
      rw [e1, obd_some, k1, k2, k3, e2, obd_some, if_pos rfl]
      exact fin τ e3
    rw [if_neg q]
    clear q
    by_cases q : v = (11 : Int32)
    · rw [if_pos q, k1, k2, k3]
      obtain ⟨r, s, τ, e1, e2, e3⟩ := y_bound hN hE x1 x2 x3
      rw [e1, obd_some, k1, k2, k3, e2, obd_some, if_pos rfl]
      exact fin τ e3
    rw [if_neg q]
    clear q
    by_cases q : v = (12 : Int32)
    · rw [if_pos q, k1]
      obtain ⟨r, s, τ, e1, e2, e3⟩ := y_limits hN hE x1
      rw [e1, obd_some, k1, e2, obd_some, if_pos rfl]
      exact fin τ e3
    rw [if_neg q]
    clear q
    by_cases q : v = (13 : Int32)
    · rw [if_pos q, k1, k2, k3]
      obtain ⟨r, s, τ, e1, e2, e3⟩ := y_factor hN hE x1 x2 x3
      rw [e1, obd_some, k1, k2, k3, e2, obd_some, if_pos rfl]
      exact fin τ e3
    rw [if_neg q]
    clear q
    by_cases q : v = (14 : Int32)
    · rw [if_pos q, k1, k2]
      obtain ⟨r, s, τ, e1, e2, e3⟩ := y_near hN hE x1 x2
      rw [e1, obd_some, k1, k2, e2, obd_some, if_pos rfl]
      exact fin τ e3
    rw [if_neg q]
    clear q
    by_cases q : v = (15 : Int32)
    · rw [if_pos q, k1, k2, k3]
      obtain ⟨r, s, τ, e1, e2, e3⟩ := y_bears hN hE x1 x2 x3
      rw [e1, obd_some, k1, k2, k3, e2, obd_some, if_pos rfl]
      exact fin τ e3
    rw [if_neg q]
    clear q
    by_cases q : v = (16 : Int32)
    · rw [if_pos q, k1, k2, k3, k4]
      obtain ⟨r, s, τ, e1, e2, e3⟩ := y_moment hN hE x1 x2 x3 x4
      rw [e1, obd_some, k1, k2, k3, k4, e2, obd_some, if_pos rfl]
      exact fin τ e3
    rw [if_neg q]
    clear q
    by_cases q : v = (17 : Int32)
    · rw [if_pos q, k1, k2]
      obtain ⟨r, s, τ, e1, e2, e3⟩ := y_yields hN hE x1 x2
      rw [e1, obd_some, k1, k2, e2, obd_some, if_pos rfl]
      exact fin τ e3
    rw [if_neg q]
    clear q
    by_cases q : v = (18 : Int32)
    · rw [if_pos q, k1, k2, k3]
      obtain ⟨r, s, τ, e1, e2, e3⟩ := y_binding hN hE x1 x2 x3
      rw [e1, obd_some, k1, k2, k3, e2, obd_some, if_pos rfl]
      exact fin τ e3
    rw [if_neg q]
    clear q
    by_cases q : v = (19 : Int32)
    · rw [if_pos q, k1, k2]
      obtain ⟨r, s, τ, e1, e2, e3⟩ := y_spare hN hE x1 x2
      rw [e1, obd_some, k1, k2, e2, obd_some, if_pos rfl]
      exact fin τ e3
    rw [if_neg q]
    clear q
    by_cases q : v = (20 : Int32)
    · rw [if_pos q, k1]
      obtain ⟨r, s, τ, e1, e2, e3⟩ := y_weakest hN hE x1
      rw [e1, obd_some, k1, e2, obd_some, if_pos rfl]
      exact fin τ e3
    rw [if_neg q]
    clear q
    by_cases q : v = (21 : Int32)
    · rw [if_pos q, k1]
      obtain ⟨r, s, τ, e1, e2, e3⟩ := y_image hN hE x1
      rw [e1, obd_some, k1, e2, obd_some, if_pos rfl]
      exact fin τ e3
    rw [if_neg q]
    clear q
    by_cases q : v = (22 : Int32)
    · rw [if_pos q, k1]
      obtain ⟨r, s, τ, e1, e2, e3⟩ := y_restore hN hE x1
      rw [e1, obd_some, k1, e2, obd_some, if_pos rfl]
      exact fin τ e3
    rw [if_neg q]
    clear q
    exact fin σ hE
theorem law_one (xs : Nat → Int32) (L : Nat) (hL : L ≤ 2560) : ∃ (N : Nat) (σ' : ZS), f_L_law_h18 N xs L N 0 z0 = some ((1 : Int32), σ') := by
  obtain ⟨σ', e⟩ := law_run (N := 30000) (Nat.le_refl _) (xs := xs) hL 512 0 30000 z0 Ev_0 (by omega) (by omega) (by omega)
  exact ⟨30000, σ', e⟩
end
