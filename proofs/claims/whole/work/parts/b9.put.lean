-- ===== the reference puts a row on the stair =====
theorem alg_shv {d : Nat} {v T : Nat → Int} {B : Nat} (h : alg d v T) (hb : ∀ j, j < d → (T j).natAbs ≤ B) : alg d (shv d v) T ∧ ∀ j, j < d → (shv d v j).natAbs ≤ B := by
  obtain ⟨a, b, a0, b0, e⟩ := h
  obtain ⟨g, g0, hg⟩ := shv_mul d v
  have h1 : ∀ j, j < d → a * g * shv d v j = b * T j := fun j hj => by
    rw [← e j hj, hg j hj, Int.mul_assoc]
  refine ⟨⟨a * g, b, Int.mul_ne_zero a0 (by omega), b0, h1⟩, fun j hj => ?_⟩
  rcases shv_prim d v with q | q
  · exact Nat.le_trans (prim_le q (Int.mul_ne_zero a0 (by omega)) b0 h1 j hj) (hb j hj)
  · rw [q j hj]; omega
theorem alg_el {d : Nat} {v V T T0 T' : Nat → Int} {p : Nat} {D : Int} (hp : p < d) (h1 : alg d v T) (h2 : alg d V T0) (hD : D ≠ 0) (hVp : V p ≠ 0) (hT : ∀ j, j < d → D * T' j = T j * T0 p - T0 j * T p) : (v p = 0 → alg d v T') ∧ alg d (fun j => v j * V p - V j * v p) T' := by
  obtain ⟨a, b, a0, b0, e⟩ := h1
  obtain ⟨c, f, c0, f0, g⟩ := h2
  have hT0 : T0 p ≠ 0 := fun q => by
    have := g p hp
    rw [q, Int.mul_zero] at this
    rcases Int.mul_eq_zero.mp this with h | h
    · exact c0 h
    · exact hVp h
  refine ⟨fun q => ⟨a * T0 p, b * D, Int.mul_ne_zero a0 hT0, Int.mul_ne_zero b0 hD, fun j hj => ?_⟩, ⟨a * c, b * f * D, Int.mul_ne_zero a0 c0, Int.mul_ne_zero (Int.mul_ne_zero b0 f0) hD, fun j hj => ?_⟩⟩
  · have hp0 := e p hp
    rw [q, Int.mul_zero] at hp0
    have hTp : T p = 0 := (Int.mul_eq_zero.mp hp0.symm).resolve_left b0
    have h3 := hT j hj
    rw [hTp, Int.mul_zero, Int.sub_zero] at h3
    have h4 := e j hj
    calc a * T0 p * v j = (a * v j) * T0 p := by grind
      _ = b * T j * T0 p := by rw [h4]
      _ = b * (T j * T0 p) := by grind
      _ = b * D * T' j := by rw [← h3]; grind
  · have h3 := hT j hj
    have h4 := e j hj
    have h5 := g j hj
    have h6 := e p hp
    have h7 := g p hp
    calc a * c * (v j * V p - V j * v p) = (a * v j) * (c * V p) - (c * V j) * (a * v p) := by grind
      _ = (b * T j) * (f * T0 p) - (f * T0 j) * (b * T p) := by rw [h4, h5, h6, h7]
      _ = b * f * (T j * T0 p - T0 j * T p) := by grind
      _ = b * f * D * T' j := by rw [← h3]; grind
section
variable {N : Nat} {σ : ZS} {φ : FR}
theorem TS_0 {E P : Nat → Nat} {e j : Nat} (hj : j < dd φ) : TS φ (YS E P 0) e j = Rz φ e j := by
  have hM : ∀ y : Nat → Int, dt (dd φ) (up (Mx φ (YS E P 0)) j y) = dt (dd φ) (up un j y) := fun y => dt_congr (fun i _ k _ => by
    unfold up
    by_cases q : i = j
    · rw [if_pos q, if_pos q]
    · rw [if_neg q, if_neg q]
      show fu φ (12 + i) k = un i k
      unfold fu
      rw [if_neg (by omega), show 12 + i - 12 = i by omega])
  unfold TS
  rw [if_pos (show YS E P 0 j = 12 + j from rfl)]
  have h1 := sZ_one (f := fun j' => Rz φ e j' * xv φ (YS E P 0) j j') (k := j) hj (fun i hi hij => by
    show Rz φ e i * dt (dd φ) (up (Mx φ (YS E P 0)) j (un i)) = 0
    rw [hM, dt_up_same (dd φ) un j i hj hi (fun q => hij q.symm), Int.mul_zero])
  refine Eq.trans h1 ?_
  show Rz φ e j * dt (dd φ) (up (Mx φ (YS E P 0)) j (un j)) = Rz φ e j
  rw [hM, up_self, dt_un, Int.mul_one]
/-- a stair's rows -/
def STR (φ : FR) (σ : ZS) (l : Nat) (E P : Nat → Nat) (V : Nat → Nat → Int) : Prop := SP φ l E P ∧ ∀ k, k < l → gI σ 1079 k = nt (P k : Nat) ∧ Ro σ 1078 (21 * k) (dd φ) (V k) ∧ alg (dd φ) (V k) (TS φ (YS E P k) (E k)) ∧ ∀ j, j < dd φ → (V k j).natAbs ≤ 67108864
theorem STR_p {l k : Nat} {E P : Nat → Nat} {V : Nat → Nat → Int} (h : STR φ σ l E P V) (hk : k < l) : V k (P k) ≠ 0 := fun q => by
  obtain ⟨h1, h2, h3⟩ := h.1 k hk
  obtain ⟨_, _, ⟨a, b, a0, b0, e⟩, _⟩ := h.2 k hk
  have := e (P k) h2
  rw [q, Int.mul_zero] at this
  rcases Int.mul_eq_zero.mp this.symm with h | h
  · exact b0 h
  · exact h3 h
theorem m_isPut (w : WF φ) (hN : 200 ≤ N) (h10 : gI σ 1067 10 = nt (dd φ : Nat)) (hR : ∀ e j, e < 2 * nb φ → j < 21 → gJ σ 1077 (21 * e + j) = jl (Rz φ e j)) {l e : Nat} (hl : l < 12) (he : e < 2 * nb φ) {E P : Nat → Nat} {V : Nat → Nat → Int} (hS : STR φ σ l E P V) : ∃ v, alg (dd φ) v (TS φ (YS E P l) e) ∧ (∀ j, j < dd φ → (v j).natAbs ≤ 67108864) ∧ ((∃ j, j < dd φ ∧ v j ≠ 0 ∧ f_X6_isPut N (nt (e : Nat)) (nt (l : Nat)) σ = some (nt 1, sI (oJ σ 1078 (21 * l) (dd φ) (fun j => jl (v j))) 1079 l (nt (j : Nat)))) ∨ ((∀ j, j < dd φ → v j = 0) ∧ f_X6_isPut N (nt (e : Nat)) (nt (l : Nat)) σ = some (nt 0, oJ σ 1078 (21 * l) (dd φ) (fun j => jl (v j))))) := by
  have hw2 := w.2.1
  have hdd := dd_le (φ := φ)
  obtain ⟨d, hd⟩ : ∃ d, d = dd φ := ⟨_, rfl⟩
  rw [← hd] at h10 hdd
  -- the row copied
  have k0 := lp_go (fun n k (s : ZS) => f_X6_isPut_h8 N (nt (e : Nat)) (nt (l : Nat)) (nt ((21 * l : Nat) : Int)) n (nt (k : Nat)) s) (fun k => oJ σ 1078 (21 * l) k (fun j => jl (Rz φ e j))) d (fun n k hk => by
    have hg : gJ (oJ σ 1078 (21 * l) k (fun j => jl (Rz φ e j))) 1077 (21 * e + k) = jl (Rz φ e k) := by
      rw [gJ_oJ, if_neg (by omega)]; exact hR e k he (by omega)
    have h10' : gI (oJ σ 1078 (21 * l) k (fun j => jl (Rz φ e j))) 1067 10 = nt (d : Nat) := h10
    rw [f_X6_isPut_h8, h10', le_f (by omega) (by omega) (by omega), n_21, nt_mul, nt_add, ck_inb (by omega) (by omega) (by omega), nat_nt (by omega) (by omega), show ((21 : Int) * (e : Nat) + (k : Nat)).toNat = 21 * e + k by omega, hg, bd_eq, nt_add, ck_inb (by omega) (by omega) (by omega), nat_nt (by omega) (by omega), show (((21 * l : Nat) : Int) + (k : Nat)).toNat = 21 * l + k by omega, bd_eq, n_1, nt_add, bd_eq, oJ_s σ 1078 (21 * l) k (fun j => jl (Rz φ e j))]
    rfl) d 0 N (by omega) (by omega)
  have k0 : f_X6_isPut_h8 N (nt (e : Nat)) (nt (l : Nat)) (nt ((21 * l : Nat) : Int)) N (0 : Int32) (oJ σ 1078 (21 * l) 0 (fun j => jl (Rz φ e j))) = f_X6_isPut_h8 N (nt (e : Nat)) (nt (l : Nat)) (nt ((21 * l : Nat) : Int)) (N - d) (nt (d : Nat)) (oJ σ 1078 (21 * l) d (fun j => jl (Rz φ e j))) := k0
  rw [oJ_0] at k0
  obtain ⟨n0, en0⟩ : ∃ n, N - d = n + 1 := ⟨N - d - 1, by omega⟩
  have h10d : gI (oJ σ 1078 (21 * l) d (fun j => jl (Rz φ e j))) 1067 10 = nt (d : Nat) := h10
  rw [en0, f_X6_isPut_h8, h10d, le_t (by omega) (by omega) (by omega), n_0] at k0
  -- less the rows below it
  obtain ⟨s, es, v, rfl, h1, h2⟩ := lp_inv (fun n k s => f_X6_isPut_h47 N (nt (l : Nat)) (nt ((21 * l : Nat) : Int)) n (nt (k : Nat)) s) (fun k s => ∃ v, s = oJ σ 1078 (21 * l) d (fun j => jl (v j)) ∧ alg d v (TS φ (YS E P k) e) ∧ ∀ j, j < d → (v j).natAbs ≤ 67108864) l (fun n k s hk hs => by
    obtain ⟨v, rfl, h1, h2⟩ := hs
    obtain ⟨s1, s2, s3, s4⟩ := hS.2 k hk
    obtain ⟨t1, t2, t3⟩ := hS.1 k hk
    have sp := STR_p hS hk
    have hPd : P k < d := by omega
    have g1 : gI (oJ σ 1078 (21 * l) d (fun j => jl (v j))) 1079 k = nt (P k : Nat) := s1
    have g2 : ∀ (m : Nat) (u : Nat → Int), ∀ j, j < d → gJ (oJ (oJ σ 1078 (21 * l) d (fun j => jl (v j))) 1078 (21 * l) m (fun j => jl (u j))) 1078 (21 * k + j) = jl (V k j) := fun m u j hj => by
      rw [gJ_oJ, if_neg (by omega), gJ_oJ, if_neg (by omega)]; exact s2 j (by omega)
    have g3 : ∀ (m : Nat) (u : Nat → Int), ∀ j, m ≤ j → j < d → gJ (oJ (oJ σ 1078 (21 * l) d (fun j => jl (v j))) 1078 (21 * l) m (fun j => jl (u j))) 1078 (21 * l + j) = jl (v j) := fun m u j hm hj => by
      rw [gJ_oJ, if_neg (by omega), gJ_oJ, if_pos ⟨rfl, by omega, by omega⟩, show 21 * l + j - 21 * l = j by omega]
    have g2' := g2 0 v
    have g3' := g3 0 v
    rw [oJ_0] at g2' g3'
    have hel := alg_el (d := d) (v := v) (V := V k) (T := TS φ (YS E P k) e) (T0 := TS φ (YS E P k) (E k)) (T' := TS φ (YS E P (k + 1)) e) hPd h1 (by rw [hd]; exact s3) (Dt_YS w (SP_lt hS.1 (show k ≤ l by omega))) sp (fun j hj => TS_step w t2 (by omega) (SP_un hS.1 hk) t1)
    -- shortened
    have b152 : ∀ u : Nat → Int, alg d u (TS φ (YS E P (k + 1)) e) → (∀ j, j < d → okJ (u j)) → ∃ s', f_X6_isPut_b152 N (fun x4_ σ_ => f_X6_isPut_h47 N (nt (l : Nat)) (nt ((21 * l : Nat) : Int)) n x4_ σ_) (nt (l : Nat)) (nt ((21 * l : Nat) : Int)) (nt (k : Nat)) (oJ σ 1078 (21 * l) d (fun j => jl (u j))) = f_X6_isPut_h47 N (nt (l : Nat)) (nt ((21 * l : Nat) : Int)) n (nt ((k + 1 : Nat) : Int)) s' ∧ ∃ v, s' = oJ σ 1078 (21 * l) d (fun j => jl (v j)) ∧ alg d v (TS φ (YS E P (k + 1)) e) ∧ ∀ j, j < d → (v j).natAbs ≤ 67108864 := fun u hu hu2 => by
      have hsh := m_shorten (N := N) (σ := oJ σ 1078 (21 * l) d (fun j => jl (u j))) hN (d := d) (b := 21 * l) (by omega) (by omega) h10 (v := u) Ro_oJ hu2
      obtain ⟨a1, a2⟩ := alg_shv hu (B := 67108864) (fun j hj => TS_bd w (SP_lt hS.1 (show k + 1 ≤ l by omega)) he (by omega))
      rw [f_X6_isPut_b152, hsh, obd_some, oJ_oJ, n_1, nt_add, bd_eq]
      exact ⟨_, rfl, _, rfl, a1, a2⟩
    have hmuch : (v (P k)).natAbs ≤ 67108864 := h2 _ hPd
    have htop : (V k (P k)).natAbs ≤ 67108864 := s4 _ t2
    try dsimp only
    rw [f_X6_isPut_h47, le_f (by omega) (by omega) (by omega), ck_inb (by omega) (by omega) (by omega), n_21, nt_mul, nat_k (by omega), g1, nt_add, ck_inb (by omega) (by omega) (by omega), nat_nt (by omega) (by omega), show ((21 : Int) * (k : Nat) + (P k : Nat)).toNat = 21 * k + P k by omega, g2' _ hPd, bd_eq, ck_inb (by omega) (by omega) (by omega), nt_add, ck_inb (by omega) (by omega) (by omega), nat_nt (by omega) (by omega), show (((21 * l : Nat) : Int) + (P k : Nat)).toNat = 21 * l + P k by omega, g3' _ (by omega) hPd, bd_eq]
    by_cases q : v (P k) = 0
    · have h92 : ∀ m, f_X6_isPut_h92 N (fun x4_ σ_ => f_X6_isPut_h47 N (nt (l : Nat)) (nt ((21 * l : Nat) : Int)) n x4_ σ_) (nt (l : Nat)) (nt ((21 * l : Nat) : Int)) (nt (k : Nat)) (jl (V k (P k))) (jl (v (P k))) (m + 1) (0 : Int32) (oJ σ 1078 (21 * l) d (fun j => jl (v j))) = f_X6_isPut_b152 N (fun x4_ σ_ => f_X6_isPut_h47 N (nt (l : Nat)) (nt ((21 * l : Nat) : Int)) n x4_ σ_) (nt (l : Nat)) (nt ((21 * l : Nat) : Int)) (nt (k : Nat)) (oJ σ 1078 (21 * l) d (fun j => jl (v j))) := fun m => by
        rw [f_X6_isPut_h92, j_0, jeq_t q]
        exact ite_self _
      obtain ⟨m, em⟩ : ∃ m, N = m + 1 := ⟨N - 1, by omega⟩
      have h92 := h92 m
      rw [← em] at h92
      obtain ⟨s', f1, f2⟩ := b152 v (hel.1 q) (fun j hj => by have := h2 j hj; unfold okJ; omega)
      exact ⟨s', h92.trans f1, f2⟩
    · have u0 := lp_go (fun m j (s : ZS) => f_X6_isPut_h92 N (fun x4_ σ_ => f_X6_isPut_h47 N (nt (l : Nat)) (nt ((21 * l : Nat) : Int)) n x4_ σ_) (nt (l : Nat)) (nt ((21 * l : Nat) : Int)) (nt (k : Nat)) (jl (V k (P k))) (jl (v (P k))) m (nt (j : Nat)) s) (fun j => oJ (oJ σ 1078 (21 * l) d (fun j => jl (v j))) 1078 (21 * l) j (fun j => jl (v j * V k (P k) - V k j * v (P k)))) d (fun m j hj => by
        have h10' : gI (oJ (oJ σ 1078 (21 * l) d (fun j => jl (v j))) 1078 (21 * l) j (fun j => jl (v j * V k (P k) - V k j * v (P k)))) 1067 10 = nt (d : Nat) := h10
        rw [f_X6_isPut_h92, h10', le_f (by omega) (by omega) (by omega), j_0, jeq_f q (by omega) (by omega) (by omega) (by omega), nt_add, ck_inb (by omega) (by omega) (by omega), n_21, nt_mul, nt_add, ck_inb (by omega) (by omega) (by omega), nat_nt (by omega) (by omega), nat_nt (by omega) (by omega), show (((21 * l : Nat) : Int) + (j : Nat)).toNat = 21 * l + j by omega, show ((21 : Int) * (k : Nat) + (j : Nat)).toNat = 21 * k + j by omega, g3 j (fun j => v j * V k (P k) - V k j * v (P k)) j (by omega) hj, g2 j (fun j => v j * V k (P k) - V k j * v (P k)) j hj, jl_mul, jl_mul, jl_sub, bd_eq, ck_inb (by omega) (by omega) (by omega), bd_eq, n_1, nt_add, bd_eq, oJ_s (oJ σ 1078 (21 * l) d (fun j => jl (v j))) 1078 (21 * l) j (fun j => jl (v j * V k (P k) - V k j * v (P k)))]
        rfl) d 0 N (by omega) (by omega)
      have u0 : f_X6_isPut_h92 N (fun x4_ σ_ => f_X6_isPut_h47 N (nt (l : Nat)) (nt ((21 * l : Nat) : Int)) n x4_ σ_) (nt (l : Nat)) (nt ((21 * l : Nat) : Int)) (nt (k : Nat)) (jl (V k (P k))) (jl (v (P k))) N (0 : Int32) (oJ (oJ σ 1078 (21 * l) d (fun j => jl (v j))) 1078 (21 * l) 0 (fun j => jl (v j * V k (P k) - V k j * v (P k)))) = f_X6_isPut_h92 N (fun x4_ σ_ => f_X6_isPut_h47 N (nt (l : Nat)) (nt ((21 * l : Nat) : Int)) n x4_ σ_) (nt (l : Nat)) (nt ((21 * l : Nat) : Int)) (nt (k : Nat)) (jl (V k (P k))) (jl (v (P k))) (N - d) (nt (d : Nat)) (oJ (oJ σ 1078 (21 * l) d (fun j => jl (v j))) 1078 (21 * l) d (fun j => jl (v j * V k (P k) - V k j * v (P k)))) := u0
      rw [oJ_0, oJ_oJ] at u0
      have h10' : gI (oJ σ 1078 (21 * l) d (fun j => jl (v j * V k (P k) - V k j * v (P k)))) 1067 10 = nt (d : Nat) := h10
      rw [en0, f_X6_isPut_h92, h10', le_t (by omega) (by omega) (by omega)] at u0
      obtain ⟨s', f1, f2⟩ := b152 (fun j => v j * V k (P k) - V k j * v (P k)) hel.2 (fun j hj => by
        have a1 := mul_bd (h2 j hj) htop
        have a2 := mul_bd (s4 j (by omega)) hmuch
        show okJ (v j * V k (P k) - V k j * v (P k))
        unfold okJ
        omega)
      exact ⟨s', u0.trans f1, f2⟩) l 0 N (oJ σ 1078 (21 * l) d (fun j => jl (Rz φ e j))) (by omega) (by omega) ⟨Rz φ e, rfl, ⟨1, 1, by decide, by decide, fun j hj => by rw [TS_0 (by omega)]⟩, fun j hj => by
        have := TS_bd w (l := 0) (E := E) (P := P) (fun k hk => by omega) he (j := j) (by omega)
        rw [TS_0 (by omega)] at this
        exact this⟩
  have es : f_X6_isPut_h47 N (nt (l : Nat)) (nt ((21 * l : Nat) : Int)) N (nt 0) (oJ σ 1078 (21 * l) d (fun j => jl (Rz φ e j))) = f_X6_isPut_h47 N (nt (l : Nat)) (nt ((21 * l : Nat) : Int)) (N - l) (nt (l : Nat)) (oJ σ 1078 (21 * l) d (fun j => jl (v j))) := es
  obtain ⟨n1, en1⟩ : ∃ n, N - l = n + 1 := ⟨N - l - 1, by omega⟩
  rw [en1, f_X6_isPut_h47, le_t (by omega) (by omega) (by omega)] at es
  have hput : f_X6_isPut N (nt (e : Nat)) (nt (l : Nat)) σ = f_X6_isPut_h166 N (nt (l : Nat)) (nt ((21 * l : Nat) : Int)) N (0 : Int32) (oJ σ 1078 (21 * l) d (fun j => jl (v j))) := by
    unfold f_X6_isPut
    rw [n_21, nt_mul, bd_eq, show (21 : Int) * (l : Nat) = ((21 * l : Nat) : Int) by omega]
    exact k0.trans es
  -- whether anything is left
  have hv : ∀ j, j < d → gJ (oJ σ 1078 (21 * l) d (fun j => jl (v j))) 1078 (21 * l + j) = jl (v j) := fun j hj => Ro_oJ j hj
  have h10' : gI (oJ σ 1078 (21 * l) d (fun j => jl (v j))) 1067 10 = nt (d : Nat) := h10
  have scan : ∀ (m k n : Nat), k + m = d → m + 1 ≤ n → (∀ j, j < k → v j = 0) → (∃ j, j < d ∧ v j ≠ 0 ∧ f_X6_isPut_h166 N (nt (l : Nat)) (nt ((21 * l : Nat) : Int)) n (nt (k : Nat)) (oJ σ 1078 (21 * l) d (fun j => jl (v j))) = some (nt 1, sI (oJ σ 1078 (21 * l) d (fun j => jl (v j))) 1079 l (nt (j : Nat)))) ∨ ((∀ j, j < d → v j = 0) ∧ f_X6_isPut_h166 N (nt (l : Nat)) (nt ((21 * l : Nat) : Int)) n (nt (k : Nat)) (oJ σ 1078 (21 * l) d (fun j => jl (v j))) = some (nt 0, oJ σ 1078 (21 * l) d (fun j => jl (v j)))) := by
    intro m
    induction m with
    | zero =>
      intro k n hk hn hz
      obtain ⟨n, rfl⟩ : ∃ m, n = m + 1 := ⟨n - 1, by omega⟩
      right
      refine ⟨fun j hj => hz j (by omega), ?_⟩
      rw [f_X6_isPut_h166, h10', le_t (by omega) (by omega) (by omega)]; rfl
    | succ m ih =>
      intro k n hk hn hz
      obtain ⟨n, rfl⟩ : ∃ m, n = m + 1 := ⟨n - 1, by omega⟩
      have hkd : k < d := by omega
      have hb := h2 k hkd
      rw [f_X6_isPut_h166, h10', le_f (by omega) (by omega) (by omega), nt_add, ck_inb (by omega) (by omega) (by omega), nat_nt (by omega) (by omega), show (((21 * l : Nat) : Int) + (k : Nat)).toNat = 21 * l + k by omega, hv k hkd, j_0]
      by_cases q : v k = 0
      · rw [jeq_t q, n_1, nt_add, bd_eq]
        exact ih (k + 1) n (by omega) (by omega) (fun j hj => by
          by_cases q2 : j = k
          · rw [q2]; exact q
          · exact hz j (by omega))
      · left
        refine ⟨k, hkd, q, ?_⟩
        rw [jeq_f q (by omega) (by omega) (by omega) (by omega), ck_inb (by omega) (by omega) (by omega), nat_k (by omega), bd_eq]; rfl
  rw [← hd]
  refine ⟨v, h1, h2, ?_⟩
  rw [hput]
  exact scan d 0 N (by omega) (by omega) (fun j hj => by omega)
end
