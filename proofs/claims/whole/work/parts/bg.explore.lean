-- ===== the reference searches the ways =====
/-- what searching leaves -/
def frM (σ τ : ZS) : Prop := (∀ c, c ≠ 1067 → c ≠ 1079 → c ≠ 1080 → c ≠ 1082 → c ≠ 1083 → τ.1 c = σ.1 c) ∧ (∀ k, k ≠ 17 → gI τ 1067 k = gI σ 1067 k) ∧ ∀ c, c ≠ 1078 → c ≠ 1081 → c ≠ 1084 → τ.2 c = σ.2 c
/-- below a level all is kept -/
def frL (L : Nat) (σ τ : ZS) : Prop := (∀ k, k < L → gI τ 1079 k = gI σ 1079 k) ∧ (∀ k, k < L → gI τ 1083 k = gI σ 1083 k) ∧ ∀ p, p < 21 * L → gJ τ 1078 p = gJ σ 1078 p
theorem frM_tr {a b c : ZS} (h : frM a b) (h2 : frM b c) : frM a c := ⟨fun k a1 a2 a3 a4 a5 => (h2.1 k a1 a2 a3 a4 a5).trans (h.1 k a1 a2 a3 a4 a5), fun k a1 => (h2.2.1 k a1).trans (h.2.1 k a1), fun k a1 a2 a3 => (h2.2.2 k a1 a2 a3).trans (h.2.2 k a1 a2 a3)⟩
theorem frL_tr {L : Nat} {a b c : ZS} (h : frL L a b) (h2 : frL L b c) : frL L a c := ⟨fun k hk => (h2.1 k hk).trans (h.1 k hk), fun k hk => (h2.2.1 k hk).trans (h.2.1 k hk), fun p hp => (h2.2.2 p hp).trans (h.2.2 p hp)⟩
theorem frL_lt {L L' : Nat} {a b : ZS} (h : frL L a b) (hl : L' ≤ L) : frL L' a b := ⟨fun k hk => h.1 k (by omega), fun k hk => h.2.1 k (by omega), fun p hp => h.2.2 p (by omega)⟩
/-- the frame, its numbers and rows -/
def AMB (φ : FR) (s : ZS) : Prop := MFr s φ ∧ gI s 1067 10 = nt (dd φ : Nat) ∧ ∀ e j, e < 2 * nb φ → j < 21 → gJ s 1077 (21 * e + j) = jl (Rz φ e j)
section
variable {N : Nat} {σ : ZS} {φ : FR}
theorem AMB_M {τ : ZS} (h : AMB φ σ) (f : frM σ τ) : AMB φ τ := by
  obtain ⟨h1, h2, h3⟩ := h
  refine ⟨MFr_same h1 (f.2.1 0 (by decide)) (f.2.1 4 (by decide)) (fun c a b => f.1 c (by omega) (by omega) (by omega) (by omega) (by omega)), by rw [f.2.1 10 (by decide)]; exact h2, fun e j a b => ?_⟩
  unfold gJ
  rw [f.2.2 1077 (by decide) (by decide) (by decide)]
  exact h3 e j a b
theorem KM_o {τ : ZS} {seen : Nat → Bool} {M : Nat → Nat → Int} (h : KM φ σ seen M) (h1 : gI τ 1067 17 = gI σ 1067 17) (h2 : τ.1 1080 = σ.1 1080) (h3 : τ.1 1082 = σ.1 1082) (h4 : τ.2 1081 = σ.2 1081) : KM φ τ seen M := by
  obtain ⟨a1, a2, a3⟩ := h
  refine ⟨by rw [h1]; exact a1, fun k hk => by unfold gI; rw [h3]; exact a2 k hk, fun k hk hks => ?_⟩
  obtain ⟨b1, b2, b3⟩ := a3 k hk hks
  exact ⟨b1, by unfold gI; rw [h2]; exact b2, fun j hj => by unfold gJ; rw [h4]; exact b3 j hj⟩
theorem El_ne {q : Nat → Rat} (h : ElF φ q) : ∃ j, j < dd φ ∧ q j ≠ 0 := by
  obtain ⟨e, _, h2⟩ := h.1
  apply Classical.byContradiction
  intro hn
  refine h2 (dq_zero (fun j hj => ?_))
  apply Classical.byContradiction
  intro q2
  exact hn ⟨j, hj, q2⟩
theorem m_explore (w : WF φ) (hNL : NLF φ) (hN : 1200 ≤ N) (hd12 : dd φ ≤ 12) {m : Nat} (hm : m + 1 = dd φ) (hc : cn 4096 (fun s => cd (IsM φ s)) ≤ 924) : ∀ (k L t : Nat) (s : ZS) (seen : Nat → Bool) (M : Nat → Nat → Int) (E P : Nat → Nat) (V : Nat → Nat → Int), t + k = 2 * nb φ → L ≤ m → AMB φ s → STR φ s L E P V → KM φ s seen M → gI s 1083 L = nt ((t : Nat) - 1) → ∃ c s' seen' M', c + 1 ≤ 2 ^ (k + 1) ∧ (∀ n x : Nat, x + c ≤ 20000 → f_X6_layMechanisms_h64 N (nt (m : Nat)) (n + c) (nt (L : Nat)) (nt (x : Nat)) s = f_X6_layMechanisms_h64 N (nt (m : Nat)) n (nt ((L : Nat) - 1)) (nt ((x + c : Nat) : Int)) s') ∧ KM φ s' seen' M' ∧ (∀ k, seen k = true → seen' k = true) ∧ (∀ q, ElF φ q → Dtm φ L E t q → seen' (mq φ q) = true) ∧ frM s s' ∧ frL L s s' := by
  have hw2 := w.2.1
  have hp1 : ∀ k : Nat, 2 ≤ 2 ^ (k + 1) := fun k => by
    have : 1 ≤ 2 ^ k := Nat.one_le_two_pow
    rw [Nat.pow_succ]; omega
  -- one way is kept
  have keep : ∀ (k t : Nat) (s : ZS) (seen : Nat → Bool) (M : Nat → Nat → Int) (E P : Nat → Nat) (V : Nat → Nat → Int), AMB φ s → STR φ s m E P V → KM φ s seen M → ∃ c s' seen' M', c + 1 ≤ 2 ^ (k + 1) ∧ (∀ n x : Nat, x + c ≤ 20000 → f_X6_layMechanisms_h64 N (nt (m : Nat)) (n + c) (nt (m : Nat)) (nt (x : Nat)) s = f_X6_layMechanisms_h64 N (nt (m : Nat)) n (nt ((m : Nat) - 1)) (nt ((x + c : Nat) : Int)) s') ∧ KM φ s' seen' M' ∧ (∀ k, seen k = true → seen' k = true) ∧ (∀ q, ElF φ q → Dtm φ m E t q → seen' (mq φ q) = true) ∧ frM s s' ∧ frL m s s' := fun k t s seen M E P V hA hS hK => by
    obtain ⟨τ, seen', M', f1, f2, f3, f4, f5⟩ := m_keepWay w hNL hN hA.1 hA.2.1 hA.2.2 hd12 hS hm hK hc
    refine ⟨1, τ, seen', M', hp1 k, fun n x hx => ?_, f2, f3, fun q hq hD => f4 q (El_ne hq) hD.1, ⟨fun c a1 a2 a3 a4 a5 => f5.1 c a1 a3 a4, f5.2.1, fun c a1 a2 a3 => f5.2.2 c a2 a3⟩, ⟨fun k _ => by unfold gI; rw [f5.1 1079 (by decide) (by decide) (by decide)], fun k _ => by unfold gI; rw [f5.1 1083 (by decide) (by decide) (by decide)], fun p _ => by unfold gJ; rw [f5.2.2 1078 (by decide) (by decide)]⟩⟩
    rw [f_X6_layMechanisms_h64, n_20000, le_f (by omega) (by omega) (by omega), n_0, lt_f (by omega) (by omega) (by omega), eq_t rfl, f1, obd_some, n_m1, nt_add, bd_eq, f_X6_layMechanisms_b159, n_1, nt_add, bd_eq, show ((m : Nat) : Int) + -1 = (m : Nat) - 1 by omega]
    rfl
  -- too few ends are left
  have stop : ∀ (k L t : Nat) (s : ZS) (seen : Nat → Bool) (M : Nat → Nat → Int) (E : Nat → Nat), t ≤ 2 * nb φ → L < m → 2 * nb φ < t + (m - L) → AMB φ s → KM φ s seen M → gI s 1083 L = nt ((t : Nat) - 1) → ∃ c s' seen' M', c + 1 ≤ 2 ^ (k + 1) ∧ (∀ n x : Nat, x + c ≤ 20000 → f_X6_layMechanisms_h64 N (nt (m : Nat)) (n + c) (nt (L : Nat)) (nt (x : Nat)) s = f_X6_layMechanisms_h64 N (nt (m : Nat)) n (nt ((L : Nat) - 1)) (nt ((x + c : Nat) : Int)) s') ∧ KM φ s' seen' M' ∧ (∀ k, seen k = true → seen' k = true) ∧ (∀ q, ElF φ q → Dtm φ L E t q → seen' (mq φ q) = true) ∧ frM s s' ∧ frL L s s' := fun k L t s seen M E ht hL hlt hA hK h83 => by
    refine ⟨1, s, seen, M, hp1 k, fun n x hx => ?_, hK, fun k h => h, fun q hq hD => absurd (Dtm_few hD (El_ne hq) ht (by omega)) (fun h => h), ⟨fun _ _ _ _ _ _ => rfl, fun _ _ => rfl, fun _ _ _ _ => rfl⟩, ⟨fun _ _ => rfl, fun _ _ => rfl, fun _ _ => rfl⟩⟩
    rw [f_X6_layMechanisms_h64, n_20000, le_f (by omega) (by omega) (by omega), n_0, lt_f (by omega) (by omega) (by omega), eq_f (by omega) (by omega) (by omega) (by omega) (by omega), ck_inb (by omega) (by omega) (by omega), nat_k (by omega), h83, n_1, nt_add, MFr_b hA.1, n_2, nt_mul, nt_sub, nt_add, le_f (by omega) (by omega) (by omega), nt_neg, nt_add, bd_eq, f_X6_layMechanisms_b159, n_1, nt_add, bd_eq, show ((L : Nat) : Int) + -1 = (L : Nat) - 1 by omega]
    rfl
  intro k
  induction k with
  | zero =>
    intro L t s seen M E P V hk hL hA hS hK h83
    by_cases q : L = m
    · subst q; exact keep 0 t s seen M E P V hA hS hK
    · exact stop 0 L t s seen M E (by omega) (by omega) (by omega) hA hK h83
  | succ k ih =>
    intro L t s seen M E P V hk hL hA hS hK h83
    by_cases q : L = m
    · subst q; exact keep (k + 1) t s seen M E P V hA hS hK
    by_cases q2 : 2 * nb φ < t + (m - L)
    · exact stop (k + 1) L t s seen M E (by omega) (by omega) q2 hA hK h83
    have ht : t < 2 * nb φ := by omega
    obtain ⟨s1, hs1⟩ : ∃ s1, s1 = sI s 1083 L (nt (t : Nat)) := ⟨_, rfl⟩
    have fM1 : frM s s1 := ⟨fun c _ _ _ _ a5 => by rw [hs1, sI_o a5], fun k _ => by rw [hs1, gI_sI_c (by decide)], fun c _ _ _ => by rw [hs1]; rfl⟩
    have fL1 : frL L s s1 := ⟨fun k _ => by rw [hs1, gI_sI_c (by decide)], fun k hk => by rw [hs1, gI_sI_k (by omega)], fun p _ => by rw [hs1]; rfl⟩
    have hA1 := AMB_M hA fM1
    have hS1 : STR φ s1 L E P V := STR_o hS fL1.1 fL1.2.2
    have hK1 : KM φ s1 seen M := KM_o hK (by rw [hs1, gI_sI_c (by decide)]) (by rw [hs1, sI_o (by decide)]) (by rw [hs1, sI_o (by decide)]) (by rw [hs1]; rfl)
    have h83' : gI s1 1083 L = nt (t : Nat) := by rw [hs1, gI_sI_at]
    obtain ⟨v, v1, v2, v3⟩ := m_isPut (N := N) w (by omega) hA1.2.1 hA1.2.2 (l := L) (by omega) ht hS1
    obtain ⟨s2', hs2'⟩ : ∃ s2', s2' = oJ s1 1078 (21 * L) (dd φ) (fun j => jl (v j)) := ⟨_, rfl⟩
    have fM2 : frM s1 s2' := ⟨fun c _ _ _ _ _ => by rw [hs2']; rfl, fun k _ => by rw [hs2']; rfl, fun c a _ _ => by rw [hs2', oJ_o a]⟩
    have fL2 : frL L s1 s2' := ⟨fun k _ => by rw [hs2']; rfl, fun k hk => by rw [hs2']; rfl, fun p hp => by rw [hs2', gJ_oJ, if_neg (by omega)]⟩
    have hK2 : KM φ s2' seen M := KM_o hK1 (by rw [hs2']; rfl) (by rw [hs2']; rfl) (by rw [hs2']; rfl) (by rw [hs2', oJ_o (by decide)])
    rw [← hs2'] at v3
    have first : ∀ n x : Nat, x + 1 ≤ 20000 → f_X6_layMechanisms_h64 N (nt (m : Nat)) (n + 1) (nt (L : Nat)) (nt (x : Nat)) s = obd (f_X6_isPut N (nt (t : Nat)) (nt (L : Nat)) s1) fun v18 σ19 => (if v18 = nt 0 then f_X6_layMechanisms_b159 N (fun x2_ x3_ σ_ => f_X6_layMechanisms_h64 N (nt (m : Nat)) n x2_ x3_ σ_) (nt (m : Nat)) (nt (L : Nat)) (nt (x : Nat)) σ19 else bd (nt ((L : Nat) + 1)) fun v22 => ck (inb (v22 - nt 1) 13) (bd (gI σ19 1083 ((v22 - nt 1).toNatClampNeg)) fun v24 => ck (inb v22 13) (bd (sI σ19 1083 (v22.toNatClampNeg) v24) fun σ26 => f_X6_layMechanisms_b159 N (fun x2_ x3_ σ_ => f_X6_layMechanisms_h64 N (nt (m : Nat)) n x2_ x3_ σ_) (nt (m : Nat)) v22 (nt (x : Nat)) σ26))) := fun n x hx => by
      rw [f_X6_layMechanisms_h64, n_20000, le_f (by omega) (by omega) (by omega), n_0, lt_f (by omega) (by omega) (by omega), eq_f (by omega) (by omega) (by omega) (by omega) (by omega), ck_inb (by omega) (by omega) (by omega), nat_k (by omega), h83, n_1, nt_add, MFr_b hA.1, n_2, nt_mul, nt_sub, nt_add, le_t (by omega) (by omega) (by omega), ck_inb (by omega) (by omega) (by omega), bd_eq, ck_inb (by omega) (by omega) (by omega), bd_eq, ck_inb (by omega) (by omega) (by omega), show ((t : Nat) : Int) - 1 + 1 = (t : Nat) by omega, ← hs1, h83', nt_add]
    rcases v3 with ⟨j, hj, hvj, e1⟩ | ⟨hv0, e1⟩
    · -- put: deeper first
      obtain ⟨s3, hs3⟩ : ∃ s3, s3 = sI (sI s2' 1079 L (nt (j : Nat))) 1083 (L + 1) (nt (t : Nat)) := ⟨_, rfl⟩
      have fM3 : frM s2' s3 := ⟨fun c _ a2 _ _ a5 => by rw [hs3, sI_o a5, sI_o a2], fun k _ => by rw [hs3, gI_sI_c (by decide), gI_sI_c (by decide)], fun c _ _ _ => by rw [hs3]; rfl⟩
      have fL3 : frL L s2' s3 := ⟨fun k hk => by rw [hs3, gI_sI_c (by decide), gI_sI_k (by omega)], fun k hk => by rw [hs3, gI_sI_k (by omega), gI_sI_c (by decide)], fun p _ => by rw [hs3]; rfl⟩
      have hA3 := AMB_M hA1 (frM_tr fM2 fM3)
      have hS3 : STR φ s3 (L + 1) (upN E L t) (upN P L j) (fun k => if k = L then v else V k) := by
        have := STR_put hS1 ht hj v1 v2 hvj
        rw [← hs2'] at this
        exact STR_o this (fun k _ => by rw [hs3, gI_sI_c (by decide)]) (fun p _ => by rw [hs3]; rfl)
      have hK3 : KM φ s3 seen M := KM_o hK2 (by rw [hs3, gI_sI_c (by decide), gI_sI_c (by decide)]) (by rw [hs3, sI_o (by decide), sI_o (by decide)]) (by rw [hs3, sI_o (by decide), sI_o (by decide)]) (by rw [hs3]; rfl)
      obtain ⟨c1, s4, seen4, M4, g1, g2, g3, g4, g5, g6, g7⟩ := ih (L + 1) (t + 1) s3 seen M _ _ _ (by omega) (by omega) hA3 hS3 hK3 (by rw [hs3, gI_sI_at, show ((t + 1 : Nat) : Int) - 1 = (t : Nat) by omega])
      have hA4 := AMB_M hA3 g6
      have fL4 : frL L s s4 := frL_tr fL1 (frL_tr fL2 (frL_tr fL3 (frL_lt g7 (by omega))))
      have hS4 : STR φ s4 L E P V := STR_o hS fL4.1 fL4.2.2
      have h834 : gI s4 1083 L = nt (((t + 1 : Nat) : Int) - 1) := by
        rw [g7.2.1 L (by omega), hs3, gI_sI_k (by omega), gI_sI_c (by decide), hs2', gI_oJ, h83', show ((t + 1 : Nat) : Int) - 1 = (t : Nat) by omega]
      obtain ⟨c2, s5, seen5, M5, k1, k2, k3, k4, k5, k6, k7⟩ := ih L (t + 1) s4 seen4 M4 E P V (by omega) hL hA4 hS4 g3 h834
      refine ⟨1 + c1 + c2, s5, seen5, M5, by rw [Nat.pow_succ]; omega, fun n x hx => ?_, k3, fun k h => k4 k (g4 k h), fun q hq hD => ?_, frM_tr fM1 (frM_tr fM2 (frM_tr fM3 (frM_tr g6 k6))), frL_tr fL4 k7⟩
      · have b1 := first ((n + c2) + c1) x (by omega)
        rw [show n + (1 + c1 + c2) = (n + c2) + c1 + 1 by omega, b1, e1, obd_some, if_neg (by decide), bd_eq, nt_sub, show ((L : Nat) : Int) + 1 - 1 = (L : Nat) by omega, ck_inb (by omega) (by omega) (by omega), nat_k (by omega), bd_eq, ck_inb (by omega) (by omega) (by omega), nat_nt (by omega) (by omega), show (((L : Nat) : Int) + 1).toNat = L + 1 by omega, gI_sI_c (by decide), hs2', gI_oJ, h83', bd_eq, ← hs2', ← hs3, f_X6_layMechanisms_b159, n_1, nt_add, bd_eq]
        have b2 := g2 (n + c2) (x + 1) (by omega)
        have b3 := k2 n (x + 1 + c1) (by omega)
        rw [show ((L + 1 : Nat) : Int) - 1 = (L : Nat) by omega] at b2
        rw [show x + (1 + c1 + c2) = x + 1 + c1 + c2 by omega]
        exact b2.trans b3
      · by_cases z : dq (dd φ) (Rq φ t) q = 0
        · exact k4 _ (g5 q hq (Dtm_put hD z))
        · exact k5 q hq (Dtm_skip hD z)
    · -- not put: the next end
      have hA2 := AMB_M hA1 fM2
      have fLs := frL_tr fL1 fL2
      have hS2 : STR φ s2' L E P V := STR_o hS fLs.1 fLs.2.2
      obtain ⟨c2, s5, seen5, M5, k1, k2, k3, k4, k5, k6, k7⟩ := ih L (t + 1) s2' seen M E P V (by omega) hL hA2 hS2 hK2 (by rw [hs2', gI_oJ, h83', show ((t + 1 : Nat) : Int) - 1 = (t : Nat) by omega])
      refine ⟨1 + c2, s5, seen5, M5, by rw [Nat.pow_succ]; omega, fun n x hx => ?_, k3, k4, fun q hq hD => k5 q hq (Dtm_dep hD (dep_q (fun y hy => TS_z w hS1.1 (fun j hj => ?_) y hy))), frM_tr fM1 (frM_tr fM2 k6), frL_tr fLs k7⟩
      · have b1 := first (n + c2) x (by omega)
        rw [show n + (1 + c2) = (n + c2) + 1 by omega, b1, e1, obd_some, if_pos rfl, f_X6_layMechanisms_b159, n_1, nt_add, bd_eq]
        have b3 := k2 n (x + 1) (by omega)
        rw [show x + (1 + c2) = x + 1 + c2 by omega]
        exact b3
      · obtain ⟨a, b, a0, b0, f⟩ := v1
        have := f j hj
        rw [hv0 j hj, Int.mul_zero] at this
        exact (Int.mul_eq_zero.mp this.symm).resolve_left b0
end
