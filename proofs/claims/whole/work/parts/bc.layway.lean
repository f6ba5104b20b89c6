-- ===== the reference lays its way =====
theorem oJ_s0 (σ : ZS) (c n : Nat) (v : Nat → Int64) : sJ (oJ σ c 0 n v) c n (v n) = oJ σ c 0 (n + 1) v := by
  have := oJ_s σ c 0 n v
  rw [Nat.zero_add] at this
  exact this
theorem oJ_put0 {σ : ZS} {c n f : Nat} {v : Nat → Int64} {x : Int64} (hf : f < n) : sJ (oJ σ c 0 n v) c f x = oJ σ c 0 n (fun j => if j = f then x else v j) := by
  have := oJ_put (σ := σ) (c := c) (b := 0) (v := v) (x := x) hf
  rw [Nat.zero_add] at this
  exact this
theorem gJ_oJ0 {σ : ZS} {c n j : Nat} {v : Nat → Int64} (hj : j < n) : gJ (oJ σ c 0 n v) c j = v j := by
  rw [gJ_oJ, if_pos ⟨rfl, by omega, by omega⟩, Nat.sub_zero]
theorem gJ_oJ1 {σ : ZS} {c n j : Nat} {v : Nat → Int64} (hj : n ≤ j) : gJ (oJ σ c 0 n v) c j = gJ σ c j := by
  rw [gJ_oJ, if_neg (by omega)]
section
variable {N : Nat} {σ : ZS} {φ : FR}
/-- the place that the stair leaves -/
theorem m_way_free {l j f : Nat} {P : Nat → Nat} (hl : l ≤ 11) (hj : j ≤ 21) (hP : ∀ k, k < l → gI σ 1079 k = nt (P k : Nat)) (hPb : ∀ k, k < l → P k ≤ 21) (hm : ∀ k, k < l → P k ≠ f) (hall : j ≠ f → ∃ k, k < l ∧ P k = j) (kb : Int32 → Int32 → ZS → Option (Unit × ZS)) (fr : Int) : ∀ (m k n : Nat) (b : Int), k + m = l → m + 1 ≤ n → ((b = 1 ∧ ∀ i, i < k → P i ≠ j) ∨ (b = 0 ∧ ∃ i, i < l ∧ P i = j)) → f_X6_layWay_h18 N kb (nt (l : Nat)) (nt fr) (nt (j : Nat)) n (nt b) (nt (k : Nat)) σ = f_X6_layWay_b63 N kb (nt (l : Nat)) (nt (j : Nat)) (nt (if j = f then (j : Int) else fr)) σ := by
  intro m
  induction m with
  | zero =>
    intro k n b hk hn hb
    obtain ⟨n, rfl⟩ : ∃ m, n = m + 1 := ⟨n - 1, by omega⟩
    rw [f_X6_layWay_h18, le_t (by omega) (by omega) (by omega)]
    rcases hb with ⟨rfl, h⟩ | ⟨rfl, i, h1, h2⟩
    · have hjf : j = f := by
        apply Classical.byContradiction
        intro q
        obtain ⟨i, h1, h2⟩ := hall q
        exact h i (by omega) h2
      rw [if_neg (by decide), if_pos hjf]
    · have hjf : ¬ j = f := fun q => hm i h1 (by rw [h2, q])
      rw [if_pos (by decide), if_neg hjf]
  | succ m ih =>
    intro k n b hk hn hb
    obtain ⟨n, rfl⟩ : ∃ m, n = m + 1 := ⟨n - 1, by omega⟩
    have h44 : f_X6_layWay_b44 N (fun x4_ x5_ σ_ => f_X6_layWay_h18 N kb (nt (l : Nat)) (nt fr) (nt (j : Nat)) n x4_ x5_ σ_) (nt (l : Nat)) (nt fr) (nt (j : Nat)) (nt (k : Nat)) σ = f_X6_layWay_h18 N kb (nt (l : Nat)) (nt fr) (nt (j : Nat)) n (nt 0) (nt ((k + 1 : Nat) : Int)) σ := by
      rw [f_X6_layWay_b44, f_X6_layWay_b45, n_1, nt_add, bd_eq]; rfl
    have h45 : f_X6_layWay_b45 N (fun x4_ x5_ σ_ => f_X6_layWay_h18 N kb (nt (l : Nat)) (nt fr) (nt (j : Nat)) n x4_ x5_ σ_) (nt (l : Nat)) (nt fr) (nt (j : Nat)) (nt (k : Nat)) (1 : Int32) σ = f_X6_layWay_h18 N kb (nt (l : Nat)) (nt fr) (nt (j : Nat)) n (nt 1) (nt ((k + 1 : Nat) : Int)) σ := by
      rw [f_X6_layWay_b45, n_1, nt_add, bd_eq]; rfl
    rw [f_X6_layWay_h18, le_f (by omega) (by omega) (by omega)]
    rcases hb with ⟨rfl, h⟩ | ⟨rfl, hi⟩
    · have hpk := hPb k (by omega)
      rw [if_neg (by decide), ck_inb (by omega) (by omega) (by omega), nat_k (by omega), hP k (by omega)]
      by_cases q : P k = j
      · rw [eq_t (by omega), h44]
        exact ih (k + 1) n 0 (by omega) (by omega) (Or.inr ⟨rfl, k, by omega, q⟩)
      · rw [eq_f (by omega) (by omega) (by omega) (by omega) (by omega), h45]
        exact ih (k + 1) n 1 (by omega) (by omega) (Or.inl ⟨rfl, fun i hi => by
          by_cases q2 : i = k
          · rw [q2]; exact q
          · exact h i (by omega)⟩)
    · rw [if_pos (by decide), h44]
      exact ih (k + 1) n 0 (by omega) (by omega) (Or.inr ⟨rfl, hi⟩)
theorem m_layWay (w : WF φ) (hN : 200 ≤ N) (h10 : gI σ 1067 10 = nt (dd φ : Nat)) {l : Nat} {E P : Nat → Nat} {V : Nat → Nat → Int} (hS : STR φ σ l E P V) (hl : l + 1 = dd φ) (hd12 : dd φ ≤ 12) : ∃ f u, f < dd φ ∧ YS E P l f = 12 + f ∧ gz (dd φ) u = 1 ∧ alg (dd φ) u (xv φ (YS E P l) f) ∧ f_X6_layWay N (nt (l : Nat)) σ = some ((), oJ σ 1084 0 (dd φ) (fun j => jl (u j))) := by
  have hw2 := w.2.1
  obtain ⟨f, hf, hm, hall⟩ := inj_miss (SP_inj w hS.1) (fun k hk => by have := (hS.1 k hk).2.1; omega)
  have hfu : YS E P l f = 12 + f := by
    rcases YS_slot w hS.1 f with h | ⟨k, h1, h2, _⟩
    · exact h
    · exact absurd h2 (hm k h1)
  have hfd : f < dd φ := by omega
  have hxb : ∀ j, j < dd φ → (xv φ (YS E P l) f j).natAbs ≤ 67108864 := fun j hj => by
    unfold xv
    rw [← Mx_un]
    exact dt_any w (okc_up (YS_ok w hS.1) (Or.inr ⟨by omega, by omega⟩))
  have hxf : xv φ (YS E P l) f f = Dt φ (YS E P l) := by
    unfold xv Dt
    refine dt_congr (fun i hi j hj => ?_)
    unfold up
    by_cases q : i = f
    · rw [if_pos q, q]
      unfold Mx
      rw [hfu]
      unfold fu
      rw [if_neg (by omega), show 12 + f - 12 = f by omega]
    · rw [if_neg q]
  have hD := Dt_YS w hS.1
  obtain ⟨d, hd⟩ : ∃ d, d = dd φ := ⟨_, rfl⟩
  rw [← hd] at h10 hl hd12 hfd
  -- zeros, and 1 at the place left
  have k0 := lp_go (fun n j (t : Int × ZS) => f_X6_layWay_h4 N (nt (l : Nat)) n (nt t.1) (nt (j : Nat)) t.2) (fun j => ((if f < j then (f : Int) else 0), oJ σ 1084 0 j (fun _ => jl 0))) d (fun n j hj => by
    have h10' : gI (oJ σ 1084 0 j (fun _ => jl 0)) 1067 10 = nt (d : Nat) := h10
    have hfr := m_way_free (N := N) (σ := oJ σ 1084 0 j (fun _ => jl 0)) (l := l) (j := j) (f := f) (P := P) (by omega) (by omega) (fun k hk => (hS.2 k hk).1) (fun k hk => by have := (hS.1 k hk).2.1; omega) hm (fun q => hall j (by omega) q) (fun x2_ x3_ σ_ => f_X6_layWay_h4 N (nt (l : Nat)) n x2_ x3_ σ_) (if f < j then (f : Int) else 0) l 0 N 1 (by omega) (by omega) (Or.inl ⟨rfl, fun i hi => absurd hi (Nat.not_lt_zero _)⟩)
    have hfr : f_X6_layWay_h18 N (fun x2_ x3_ σ_ => f_X6_layWay_h4 N (nt (l : Nat)) n x2_ x3_ σ_) (nt (l : Nat)) (nt (if f < j then (f : Int) else 0)) (nt (j : Nat)) N (1 : Int32) (0 : Int32) (oJ σ 1084 0 j (fun _ => jl 0)) = _ := hfr
    show f_X6_layWay_h4 N (nt (l : Nat)) (n + 1) (nt (if f < j then (f : Int) else 0)) (nt (j : Nat)) (oJ σ 1084 0 j (fun _ => jl 0)) = f_X6_layWay_h4 N (nt (l : Nat)) n (nt (if f < j + 1 then (f : Int) else 0)) (nt ((j + 1 : Nat) : Int)) (oJ σ 1084 0 (j + 1) (fun _ => jl 0))
    rw [f_X6_layWay_h4, h10', le_f (by omega) (by omega) (by omega), hfr, f_X6_layWay_b63, ck_inb (by omega) (by omega) (by omega), nat_k (by omega), bd_eq, n_1, nt_add, bd_eq, j_0, oJ_s0 σ 1084 j (fun _ => jl 0)]
    have e1 : (if j = f then (j : Int) else if f < j then (f : Int) else 0) = if f < j + 1 then (f : Int) else 0 := by
      by_cases q : j = f
      · rw [if_pos q, if_pos (by omega), q]
      · rw [if_neg q]
        by_cases q2 : f < j
        · rw [if_pos q2, if_pos (by omega)]
        · rw [if_neg q2, if_neg (by omega)]
    rw [e1]
    rfl) d 0 N (by omega) (by omega)
  have k0 : f_X6_layWay_h4 N (nt (l : Nat)) N (0 : Int32) (0 : Int32) (oJ σ 1084 0 0 (fun _ => jl 0)) = f_X6_layWay_h4 N (nt (l : Nat)) (N - d) (nt (if f < d then (f : Int) else 0)) (nt (d : Nat)) (oJ σ 1084 0 d (fun _ => jl 0)) := k0
  rw [oJ_0, if_pos hfd] at k0
  obtain ⟨n0, en0⟩ : ∃ n, N - d = n + 1 := ⟨N - d - 1, by omega⟩
  have h10d : gI (oJ σ 1084 0 d (fun _ => jl 0)) 1067 10 = nt (d : Nat) := h10
  have hput : sJ (oJ σ 1084 0 d (fun _ => jl 0)) 1084 f (jl 1) = oJ σ 1084 0 d (fun j => jl (un f j)) := by
    rw [oJ_put0 hfd]
    refine oJ_congr (fun j _ => ?_)
    try dsimp only
    unfold un
    by_cases q : j = f
    · rw [if_pos q, if_pos q]
    · rw [if_neg q, if_neg q]
  rw [en0, f_X6_layWay_h4, h10d, le_t (by omega) (by omega) (by omega), ck_inb (by omega) (by omega) (by omega), nat_k (by omega), bd_eq, n_1, nt_sub, bd_eq, j_1, hput] at k0
  -- back over the rows
  have hrd : ∀ (u : Nat → Int) (j : Nat), j < d → gJ (oJ σ 1084 0 d (fun j => jl (u j))) 1084 j = jl (u j) := fun u j hj => gJ_oJ0 hj
  have back : ∀ (k : Nat), k ≤ l → ∀ (n : Nat) (u : Nat → Int), k + 1 ≤ n → WI φ E P (xv φ (YS E P l) f) k u → ∃ u', WI φ E P (xv φ (YS E P l) f) 0 u' ∧ f_X6_layWay_h88 N n (nt ((k : Nat) - 1)) (oJ σ 1084 0 d (fun j => jl (u j))) = f_X6_layWay_h241 N N (jl 0) (nt 0) (oJ σ 1084 0 d (fun j => jl (u' j))) := by
    intro k
    induction k with
    | zero =>
      intro _ n u hn hu
      obtain ⟨n, rfl⟩ : ∃ m, n = m + 1 := ⟨n - 1, by omega⟩
      refine ⟨u, hu, ?_⟩
      rw [f_X6_layWay_h88, n_0, lt_t (by omega) (by omega) (by omega)]; rfl
    | succ k ih =>
      intro hk n u hn hu
      obtain ⟨n, rfl⟩ : ∃ m, n = m + 1 := ⟨n - 1, by omega⟩
      have hk2 : k < l := by omega
      obtain ⟨p1, p2, p3⟩ := hS.1 k hk2
      obtain ⟨s1, s2, s3, s4⟩ := hS.2 k hk2
      have hsp := STR_p hS hk2
      have hPd : P k < d := by omega
      have hub := WI_bd (φ := φ) (u := u) hxb hu
      obtain ⟨S, hSd⟩ : ∃ S, S = sZ d (fun j => V k j * u j) := ⟨_, rfl⟩
      have hSb : S.natAbs ≤ d * (67108864 * 67108864) := by
        rw [hSd]
        exact sZ_bd (fun j hj => mul_bd (s4 j (by omega)) (hub j (by omega)))
      have hSb2 : S.natAbs ≤ 12 * (67108864 * 67108864) := Nat.le_trans hSb (Nat.mul_le_mul_right _ hd12)
      have htb := s4 _ p2
      have hg0 : 0 < (Int.gcd S (V k (P k)) : Int) := by
        have : Int.gcd S (V k (P k)) ≠ 0 := fun q => hsp (Int.gcd_eq_zero_iff.mp q).2
        omega
      obtain ⟨sq, hsq⟩ := Int.gcd_dvd_left (a := S) (b := V k (P k))
      obtain ⟨tq, htq⟩ := Int.gcd_dvd_right (a := S) (b := V k (P k))
      have hgb : (Int.gcd S (V k (P k)) : Int) ≤ 67108864 := by
        have h1 : Int.gcd S (V k (P k)) ∣ (V k (P k)).natAbs := Int.natAbs_dvd_natAbs.mpr (Int.gcd_dvd_right (a := S) (b := V k (P k)))
        have := Nat.le_of_dvd (by omega) h1
        omega
      obtain ⟨g, hgd⟩ : ∃ g : Int, g = (Int.gcd S (V k (P k)) : Int) := ⟨_, rfl⟩
      have hst : Int.gcd sq tq = 1 := by
        have h1 : Int.gcd S (V k (P k)) = Int.gcd (g * sq) (g * tq) := by
          rw [hgd, ← hsq, ← htq]
        rw [Int.gcd_mul_left] at h1
        have h2 : g.natAbs = Int.gcd S (V k (P k)) := by omega
        rw [h2] at h1
        have h3 : Int.gcd S (V k (P k)) * 1 = Int.gcd S (V k (P k)) * Int.gcd sq tq := by omega
        exact (Nat.eq_of_mul_eq_mul_left (by omega) h3).symm
      rw [← hgd] at hsq htq hg0 hgb
      have hdS : S.tdiv g = sq := by rw [hsq, Int.mul_tdiv_cancel_left _ (by omega)]
      have hdT : (V k (P k)).tdiv g = tq := by rw [htq, Int.mul_tdiv_cancel_left _ (by omega)]
      obtain ⟨hu0, hWI⟩ := WI_step w hS hk2 (by omega) hfu hu hg0 (by rw [← hd, ← hSd]; exact hsq) htq hst
      obtain ⟨u', f1, f2⟩ := ih (by omega) n _ (by omega) hWI
      refine ⟨u', f1, ?_⟩
      have gP : ∀ v : Nat → Int64, gI (oJ σ 1084 0 d v) 1079 k = nt (P k : Nat) := fun v => s1
      have gV : ∀ (v : Nat → Int64) (j : Nat), j < d → gJ (oJ σ 1084 0 d v) 1078 (21 * k + j) = jl (V k j) := fun v j hj => by
        rw [gJ_oJ, if_neg (by omega)]; exact s2 j (by omega)
      have h10' : ∀ v : Nat → Int64, gI (oJ σ 1084 0 d v) 1067 10 = nt (d : Nat) := fun v => h10
      -- the sum
      have b144 : ∀ (m : Nat) (x y : Int) (j : Nat), f_X6_layWay_b144 N (fun x4_ x6_ σ_ => f_X6_layWay_h98 N (fun x3_ σ_ => f_X6_layWay_h88 N n x3_ σ_) (nt (k : Nat)) m x4_ x6_ σ_) (nt (k : Nat)) (nt (j : Nat)) (jl x) (jl y) (oJ σ 1084 0 d (fun j => jl (u j))) = f_X6_layWay_h98 N (fun x3_ σ_ => f_X6_layWay_h88 N n x3_ σ_) (nt (k : Nat)) m (jl (x + y)) (nt ((j + 1 : Nat) : Int)) (oJ σ 1084 0 d (fun j => jl (u j))) := fun m x y j => by
        rw [f_X6_layWay_b144, jl_add, bd_eq, n_1, nt_add, bd_eq]; rfl
      have q1 := lp_go (fun m j (t : Int64) => f_X6_layWay_h98 N (fun x3_ σ_ => f_X6_layWay_h88 N n x3_ σ_) (nt (k : Nat)) m t (nt (j : Nat)) (oJ σ 1084 0 d (fun j => jl (u j)))) (fun j => jl (sZ j (fun j => V k j * u j))) d (fun m j hj => by
        show f_X6_layWay_h98 N (fun x3_ σ_ => f_X6_layWay_h88 N n x3_ σ_) (nt (k : Nat)) (m + 1) (jl (sZ j (fun j => V k j * u j))) (nt (j : Nat)) (oJ σ 1084 0 d (fun j => jl (u j))) = f_X6_layWay_h98 N (fun x3_ σ_ => f_X6_layWay_h88 N n x3_ σ_) (nt (k : Nat)) m (jl (sZ (j + 1) (fun j => V k j * u j))) (nt ((j + 1 : Nat) : Int)) (oJ σ 1084 0 d (fun j => jl (u j)))
        rw [f_X6_layWay_h98, h10', le_f (by omega) (by omega) (by omega), ck_inb (by omega) (by omega) (by omega), nat_k (by omega), gP]
        by_cases q : j = P k
        · rw [eq_t (by omega), j_0, b144]
          have : sZ j (fun j => V k j * u j) + 0 = sZ (j + 1) (fun j => V k j * u j) := by
            rw [sZ_s, q, hu0, Int.mul_zero]
          rw [this]
        · rw [eq_f (by omega) (by omega) (by omega) (by omega) (by omega), n_21, nt_mul, nt_add, ck_inb (by omega) (by omega) (by omega), ck_inb (by omega) (by omega) (by omega), nat_nt (by omega) (by omega), nat_k (by omega), show ((21 : Int) * (k : Nat) + (j : Nat)).toNat = 21 * k + j by omega, gV _ j hj, hrd u j hj, jl_mul, b144]
          rfl) d 0 N (by omega) (by omega)
      have q1 : f_X6_layWay_h98 N (fun x3_ σ_ => f_X6_layWay_h88 N n x3_ σ_) (nt (k : Nat)) N (0 : Int64) (0 : Int32) (oJ σ 1084 0 d (fun j => jl (u j))) = f_X6_layWay_h98 N (fun x3_ σ_ => f_X6_layWay_h88 N n x3_ σ_) (nt (k : Nat)) (N - d) (jl (sZ d (fun j => V k j * u j))) (nt (d : Nat)) (oJ σ 1084 0 d (fun j => jl (u j))) := q1
      rw [← hSd, en0, f_X6_layWay_h98, h10', le_t (by omega) (by omega) (by omega), ck_inb (by omega) (by omega) (by omega), nat_k (by omega), gP, n_21, nt_mul, nt_add, ck_inb (by omega) (by omega) (by omega), nat_nt (by omega) (by omega), show ((21 : Int) * (k : Nat) + (P k : Nat)).toNat = 21 * k + P k by omega, gV _ _ hPd, bd_eq, m_common hN ⟨by omega, by omega⟩ ⟨by omega, by omega⟩, obd_some, ← hgd] at q1
      -- times the row's top
      have q2 := lp_go (fun m j (s : ZS) => f_X6_layWay_h183 N (fun x3_ σ_ => f_X6_layWay_h88 N n x3_ σ_) (nt (k : Nat)) (jl S) (jl (V k (P k))) (jl g) m (nt (j : Nat)) s) (fun j => oJ (oJ σ 1084 0 d (fun j => jl (u j))) 1084 0 j (fun j => jl (u j * tq))) d (fun m j hj => by
        have h10'' : gI (oJ (oJ σ 1084 0 d (fun j => jl (u j))) 1084 0 j (fun j => jl (u j * tq))) 1067 10 = nt (d : Nat) := h10
        have hg2 : gJ (oJ (oJ σ 1084 0 d (fun j => jl (u j))) 1084 0 j (fun j => jl (u j * tq))) 1084 j = jl (u j) := by
          rw [gJ_oJ1 (Nat.le_refl _)]; exact hrd u j hj
        rw [f_X6_layWay_h183, h10'', le_f (by omega) (by omega) (by omega), ck_inb (by omega) (by omega) (by omega), ck_j0 (by omega) (by omega) (by omega), nat_k (by omega), hg2, jl_div ⟨by omega, by omega⟩ ⟨by omega, by omega⟩, hdT, jl_mul, bd_eq, ck_inb (by omega) (by omega) (by omega), bd_eq, n_1, nt_add, bd_eq, oJ_s0 (oJ σ 1084 0 d (fun j => jl (u j))) 1084 j (fun j => jl (u j * tq))]
        rfl) d 0 N (by omega) (by omega)
      have q2 : f_X6_layWay_h183 N (fun x3_ σ_ => f_X6_layWay_h88 N n x3_ σ_) (nt (k : Nat)) (jl S) (jl (V k (P k))) (jl g) N (0 : Int32) (oJ (oJ σ 1084 0 d (fun j => jl (u j))) 1084 0 0 (fun j => jl (u j * tq))) = f_X6_layWay_h183 N (fun x3_ σ_ => f_X6_layWay_h88 N n x3_ σ_) (nt (k : Nat)) (jl S) (jl (V k (P k))) (jl g) (N - d) (nt (d : Nat)) (oJ (oJ σ 1084 0 d (fun j => jl (u j))) 1084 0 d (fun j => jl (u j * tq))) := q2
      rw [oJ_0, oJ_oJ] at q2
      have hlast : sJ (oJ σ 1084 0 d (fun j => jl (u j * tq))) 1084 (P k) (jl (-sq)) = oJ σ 1084 0 d (fun j => jl (if j = P k then -sq else u j * tq)) := by
        rw [oJ_put0 hPd]
        refine oJ_congr (fun j _ => ?_)
        try dsimp only
        by_cases q : j = P k
        · rw [if_pos q, if_pos q]
        · rw [if_neg q, if_neg q]
      rw [en0, f_X6_layWay_h183, h10', le_t (by omega) (by omega) (by omega), ck_inb (by omega) (by omega) (by omega), ck_j0 (by omega) (by omega) (by omega), jl_div ⟨by omega, by omega⟩ ⟨by omega, by omega⟩, hdS, jl_neg, bd_eq, nat_k (by omega), gP, ck_inb (by omega) (by omega) (by omega), nat_k (by omega), bd_eq, n_m1, nt_add, bd_eq, hlast, show ((k : Nat) : Int) + -1 = (k : Nat) - 1 by omega] at q2
      rw [f_X6_layWay_h88, show (((k + 1 : Nat) : Int) - 1) = (k : Nat) by omega, n_0, lt_f (by omega) (by omega) (by omega)]
      exact (q1.trans q2).trans f2
  have hW0 : WI φ E P (xv φ (YS E P l) f) l (un f) := by
    refine ⟨?_, xv φ (YS E P l) f f, 1, by rw [hxf]; exact hD, by decide, fun j hj => ?_⟩
    · have h1 := gz_dvd (v := un f) (n := dd φ) (k := f) (by omega)
      unfold un at h1
      rw [if_pos rfl] at h1
      have := Int.natAbs_dvd_natAbs.mpr h1
      exact Nat.dvd_one.mp this
    · unfold mk un
      by_cases q : j = f
      · rw [if_pos q, q, if_pos hfu, Int.mul_one, Int.one_mul]
      · obtain ⟨k, h1, h2⟩ := hall j (by omega) q
        have h3 := YS_at w hS.1 k h1
        have h4 := (hS.1 k h1).1
        rw [if_neg q, if_neg (by rw [← h2, h3]; omega), Int.mul_zero, Int.mul_zero]
  obtain ⟨u, ⟨hu1, hu2⟩, eu⟩ := back l (Nat.le_refl _) N (un f) (by omega) hW0
  have hu3 : alg (dd φ) u (xv φ (YS E P l) f) := by
    obtain ⟨a, b, a0, b0, e⟩ := hu2
    refine ⟨a, b, a0, b0, fun j hj => ?_⟩
    have := e j hj
    unfold mk at this
    rw [if_pos (show YS E P 0 j = 12 + j from rfl)] at this
    exact this
  refine ⟨f, u, by omega, hfu, hu1, hu3, ?_⟩
  have hub := WI_bd (φ := φ) (u := u) hxb ⟨hu1, hu2⟩
  -- all, once more
  have h10' : gI (oJ σ 1084 0 d (fun j => jl (u j))) 1067 10 = nt (d : Nat) := h10
  have r1 := lp_go (fun m j (t : Int64) => f_X6_layWay_h241 N m t (nt (j : Nat)) (oJ σ 1084 0 d (fun j => jl (u j)))) (fun j => jl (gz j u : Nat)) d (fun m j hj => by
    have hb1 : gz j u ≤ 67108864 := gz_le (fun k hk => hub k (by omega))
    have hb2 := hub j (by omega)
    rw [f_X6_layWay_h241, h10', le_f (by omega) (by omega) (by omega), ck_inb (by omega) (by omega) (by omega), nat_k (by omega), hrd u j hj, m_common hN ⟨by omega, by omega⟩ ⟨by omega, by omega⟩, obd_some, n_1, nt_add, bd_eq]
    rfl) d 0 N (by omega) (by omega)
  have r1 : f_X6_layWay_h241 N N (jl 0) (nt 0) (oJ σ 1084 0 d (fun j => jl (u j))) = f_X6_layWay_h241 N (N - d) (jl (gz d u : Nat)) (nt (d : Nat)) (oJ σ 1084 0 d (fun j => jl (u j))) := r1
  have hu1d : gz d u = 1 := by rw [hd]; exact hu1
  rw [hu1d, en0, f_X6_layWay_h241, h10', le_t (by omega) (by omega) (by omega)] at r1
  have r2 := lp_go (fun m j (s : ZS) => f_X6_layWay_h271 N (jl ((1 : Nat) : Int)) m (nt (j : Nat)) s) (fun _ => oJ σ 1084 0 d (fun j => jl (u j))) d (fun m j hj => by
    have hb2 := hub j (by omega)
    have hself : sJ (oJ σ 1084 0 d (fun j => jl (u j))) 1084 j (jl (u j)) = oJ σ 1084 0 d (fun j => jl (u j)) := by
      rw [← hrd u j hj, sJ_self]
    rw [f_X6_layWay_h271, h10', le_f (by omega) (by omega) (by omega), ck_inb (by omega) (by omega) (by omega), ck_j0 (by omega) (by omega) (by omega), nat_k (by omega), hrd u j hj, jl_div ⟨by omega, by omega⟩ ⟨by omega, by omega⟩, show (u j).tdiv ((1 : Nat) : Int) = u j from Int.tdiv_one _, bd_eq, ck_inb (by omega) (by omega) (by omega), bd_eq, n_1, nt_add, bd_eq, hself]
    rfl) d 0 N (by omega) (by omega)
  have r2 : f_X6_layWay_h271 N (jl ((1 : Nat) : Int)) N (0 : Int32) (oJ σ 1084 0 d (fun j => jl (u j))) = f_X6_layWay_h271 N (jl ((1 : Nat) : Int)) (N - d) (nt (d : Nat)) (oJ σ 1084 0 d (fun j => jl (u j))) := r2
  rw [en0, f_X6_layWay_h271, h10', le_t (by omega) (by omega) (by omega)] at r2
  rw [← hd]
  unfold f_X6_layWay
  exact k0.trans (eu.trans (r1.trans r2))
end
