-- ===== the reference finds the factors of a case =====
section
variable {N : Nat} {σ : ZS} {φ : FR}
/-- factors at corners of sets before one -/
def Vis (φ : FR) (c : Nat) (S : Nat → Int) (x : Nat) (f : Rat) : Prop := ∃ Cm, Cm < x ∧ cn 12 (bt Cm) + 1 = dd φ ∧ IndC φ (Cm ||| 2 ^ (12 + c)) c ∧ ∃ y, CrS φ (Cm ||| 2 ^ (12 + c)) c S (pq φ 0) y (-f)
theorem m_lookAll (w : WF φ) (hN : 30000 ≤ N) (hd12 : dd φ ≤ 12) (hnb : 0 < nb φ) {c : Nat} (hc : c < 3) {S : Nat → Int} : ∀ (m x n : Nat) (s : ZS) (a : Int), x + m = 2 ^ (2 * nb φ) → m + 1 ≤ n → PRE φ S T1c 1 s → AN φ c S a s (Vis φ c S x) → ∃ a' τ, f_X6_lookFor_h85 N (nt (c : Nat)) n (nt a) (nt (x : Nat)) s = some (nt (if a' = 0 then 2 else 0), τ) ∧ frQ s τ ∧ AN φ c S a' τ (Vis φ c S (2 ^ (2 * nb φ))) := by
  have hw2 := w.2.1
  have hpow : 2 ^ (2 * nb φ) ≤ 2 ^ 12 := Nat.pow_le_pow_right (by decide) (by omega)
  have hpow2 : (2 : Nat) ^ 12 = 4096 := by decide
  have n1e : (1 : Int32) = nt 1 := rfl
  intro m
  induction m with
  | zero =>
    intro x n s a hx hn hP hA
    obtain ⟨n, rfl⟩ : ∃ m, n = m + 1 := ⟨n - 1, by omega⟩
    have hxe : x = 2 ^ (2 * nb φ) := by omega
    refine ⟨a, s, ?_, frQ_rf s, by rw [← hxe]; exact hA⟩
    rw [f_X6_lookFor_h85, MFr_b hP.1, n_2, nt_mul, show (2 : Int) * (nb φ : Nat) = ((2 * nb φ : Nat) : Int) by omega, n1e, nt_powL (by omega), le_t (by omega) (by omega) (by omega)]
    rcases AN_01 hA with rfl | rfl
    · rw [if_pos (by decide), if_pos rfl]
    · rw [if_neg (by decide), if_neg (by decide)]; rfl
  | succ m ih =>
    intro x n s a hx hn hP hA
    obtain ⟨n, rfl⟩ : ∃ m, n = m + 1 := ⟨n - 1, by omega⟩
    have hxl : x < 2 ^ (2 * nb φ) := by omega
    have b288 : ∀ (y : Int) t, f_X6_lookFor_b288 N (fun x3_ x4_ σ_ => f_X6_lookFor_h85 N (nt (c : Nat)) n x3_ x4_ σ_) (nt (c : Nat)) (nt y) (nt (x : Nat)) t = f_X6_lookFor_h85 N (nt (c : Nat)) n (nt y) (nt ((x + 1 : Nat) : Int)) t := fun y t => by
      rw [f_X6_lookFor_b288, n_1, nt_add, bd_eq]; rfl
    obtain ⟨Cx, hCx⟩ : ∃ Cx, Cx = x ||| 2 ^ (12 + c) := ⟨_, rfl⟩
    have hob : ∀ k, Cx.testBit k = (x.testBit k || decide (k = 12 + c)) := fun k => by rw [hCx]; exact or_bit (c := c) (n := 2 * nb φ) (by omega) hxl k
    have hCxl : Cx < 32768 := by
      have h1 : Cx < 2 ^ 15 := by
        rw [hCx]
        exact Nat.or_lt_two_pow (by omega) (Nat.pow_lt_pow_right (by decide) (by omega))
      exact h1
    have hends : ∀ k, k < 12 → Cx.testBit k = true → k < 2 * nb φ := fun k hk hb => by
      rw [hob, decide_eq_false (by omega), Bool.or_false] at hb
      exact bits_lt hxl hb
    have hL : ∀ k, 12 ≤ k → k < 15 → (Cx.testBit k = true ↔ k = 12 + c) := fun k h1 _ => by
      rw [hob, big_bit hxl (by omega), Bool.false_or, decide_eq_true_eq]
    have hOne : OneL Cx c := fun k h1 h2 h3 => (hL k h1 h2).mp h3
    have hbL : Cx.testBit (12 + c) = true := (hL (12 + c) (by omega) (by omega)).mpr rfl
    have hcn : cn 12 (bt Cx) = cn 12 (bt x) := cn_congr (fun k hk => by
      show Cx.testBit k = x.testBit k
      rw [hob, decide_eq_false (by omega), Bool.or_false])
    have hc12 := cn_bd (bt x) 12
    have hdd := dd_le (φ := φ)
    have hpre : f_X6_lookFor_h85 N (nt (c : Nat)) (n + 1) (nt a) (nt (x : Nat)) s = (if nt (cn 12 (bt x) : Nat) = nt ((dd φ : Nat) - 1) then obd (f_X6_isSolved N (nt (Cx : Nat)) s) fun v13 σ14 => (if v13 = 0 then f_X6_lookFor_b288 N (fun x3_ x4_ σ_ => f_X6_lookFor_h85 N (nt (c : Nat)) n x3_ x4_ σ_) (nt (c : Nat)) (nt a) (nt (x : Nat)) σ14 else obd (f_X6_begin N (nt (Cx : Nat)) σ14) fun _ σ17 => f_X6_lookFor_h144 N (fun x3_ x4_ σ_ => f_X6_lookFor_h85 N (nt (c : Nat)) n x3_ x4_ σ_) (nt (c : Nat)) (nt (x : Nat)) N (nt a) (nt 1) σ17) else f_X6_lookFor_b288 N (fun x3_ x4_ σ_ => f_X6_lookFor_h85 N (nt (c : Nat)) n x3_ x4_ σ_) (nt (c : Nat)) (nt a) (nt (x : Nat)) s) := by
      rw [f_X6_lookFor_h85, MFr_b hP.1, n_2, nt_mul, show (2 : Int) * (nb φ : Nat) = ((2 * nb φ : Nat) : Int) by omega, n1e, nt_powL (by omega), le_f (by omega) (by omega) (by omega), m_bits (by omega) (by omega), obd_some, hP.2.1, nt_sub, n_12, nt_add, show (12 : Int) + (c : Nat) = ((12 + c : Nat) : Int) by omega, nt_powL (by omega), nt_or, ← hCx]
    rw [hpre]
    have hskip : (Vis φ c S (x + 1) = Vis φ c S x) → ∀ (τ : ZS), PRE φ S T1c 1 τ → frQ s τ → τ.2 1094 = s.2 1094 → τ.2 1095 = s.2 1095 → ∃ a' τ2, f_X6_lookFor_h85 N (nt (c : Nat)) n (nt a) (nt ((x + 1 : Nat) : Int)) τ = some (nt (if a' = 0 then 2 else 0), τ2) ∧ frQ s τ2 ∧ AN φ c S a' τ2 (Vis φ c S (2 ^ (2 * nb φ))) := fun hV τ h1 h2 h3 h4 => by
      obtain ⟨a', τ2, b1, b2, b3⟩ := ih (x + 1) n τ a (by omega) (by omega) h1 (AN_o hA h3 h4 (fun f hf => by rw [← hV]; exact hf))
      exact ⟨a', τ2, b1, frQ_tr h2 b2, b3⟩
    by_cases q : cn 12 (bt x) + 1 = dd φ
    · rw [eq_t (by omega)]
      rcases m_isSolvedL (N := N) w (by omega) hd12 hnb hP.2.1 hP.2.2.1 hc hCxl hends hL (by rw [hcn]; exact q) with ⟨d1, τ, d2, d3⟩ | ⟨τ, P, pi, d1, d2, d3⟩
      · rw [d2, obd_some, if_pos (by decide), b288]
        refine hskip ?_ τ (PRE_I d3 hP) (frI_Q d3) (d3.2.1 _ (by decide) (by decide)) (d3.2.1 _ (by decide) (by decide))
        funext f
        refine propext ⟨fun ⟨Cm, c1, c2, c3, c4⟩ => ?_, fun ⟨Cm, c1, c2⟩ => ⟨Cm, by omega, c2⟩⟩
        by_cases q2 : Cm = x
        · rw [q2, ← hCx] at c3
          exact absurd d1 (ind_dep w hc hends hOne c3)
        · exact ⟨Cm, by omega, c2, c3, c4⟩
      · rw [d1, obd_some, if_neg (by decide)]
        obtain ⟨s2, g1, g2, g3⟩ := m_start (N := N) w (by omega) hd12 hCxl (PRE_I d3 hP) d2
        rw [g1, obd_some]
        have hfb := cn_bd (ff Cx) (2 * nb φ)
        have hF1 : 2 ^ cn (2 * nb φ) (ff Cx) ≤ 2 ^ 12 := Nat.pow_le_pow_right (by decide) (by omega)
        have hF0 : 1 ≤ 2 ^ cn (2 * nb φ) (ff Cx) := Nat.one_le_two_pow
        have hA2 : AN φ c S a s2 (Vis φ c S x) := AN_o hA ((g3.2.2 _ (by decide) (by decide)).trans (d3.2.1 _ (by decide) (by decide))) ((g3.2.2 _ (by decide) (by decide)).trans (d3.2.1 _ (by decide) (by decide))) (fun f hf => hf)
        obtain ⟨a', τ2, k1, k2, k3, k4⟩ := m_lookIn (N := N) w (by omega) hd12 hc hends hOne hbL d2 (fun x3_ x4_ σ_ => f_X6_lookFor_h85 N (nt (c : Nat)) n x3_ x4_ σ_) x (by omega) (2 ^ cn (2 * nb φ) (ff Cx) - 1) 0 N s2 a _ (by omega) (by omega) g2 hA2
        rw [k1, b288]
        obtain ⟨a2, τ3, l1, l2, l3⟩ := ih (x + 1) n τ2 a' (by omega) (by omega) k2 (AN_o k3 rfl rfl (fun f ⟨Cm, c1, c2, c3, y, hy⟩ => by
          by_cases q2 : Cm = x
          · right
            rw [q2, ← hCx] at c3 hy
            obtain ⟨g, r1, r2, r3⟩ := crn_all w hc hends hOne d2 c3 (S := S) T1c (by_ := 1) (by decide) hy.2.2.1 hy.2.2.2 (fun j hj => by
              rw [hy.2.1 j hj]
              exact (pT_1 j).symm)
            obtain ⟨t', r4, r5⟩ := gr_all (f := cn (2 * nb φ) (ff Cx)) (by omega) r1
            refine ⟨t', Nat.zero_le _, r4, ?_, ?_⟩
            · rw [r5]
              exact (crn_win w d2 (fun b hb => (Stg_S hP.2.2.2.1 b hb).1) T1c (by decide) g).mpr (fun e he => by rw [r2 e he]; exact hy.1 e he)
            · rw [r5, r3]; grind
          · exact Or.inl ⟨Cm, by omega, c2, c3, y, hy⟩))
        exact ⟨a2, τ3, l1, frQ_tr (frI_Q d3) (frQ_tr (frB_Q g3) (frQ_tr k4 l2)), l3⟩
    · rw [eq_f (by omega) (by omega) (by omega) (by omega) (by omega), b288]
      refine hskip ?_ s hP (frQ_rf s) rfl rfl
      funext f
      refine propext ⟨fun ⟨Cm, c1, c2, c3⟩ => ?_, fun ⟨Cm, c1, c2⟩ => ⟨Cm, by omega, c2⟩⟩
      by_cases q2 : Cm = x
      · rw [q2] at c2; exact absurd c2 q
      · exact ⟨Cm, by omega, c2, c3⟩
/-- what the reference finds of a case -/
def LkO (φ : FR) (c : Nat) (S : Nat → Int) (τ : ZS) (rc : Int) : Prop := (rc = 2 ∧ ∀ f, ¬ FS φ c S f) ∨ (rc = 1 ∧ ∀ f, FS φ c S f) ∨ (rc = 0 ∧ ∃ x0 x1, SD τ 0 x0 ∧ SD τ 1 x1 ∧ Grt (FS φ c S) x0 ∧ Lst (FS φ c S) x1)
theorem pz_70 (w : WF φ) {c j : Nat} (hc : c < 3) (hj : j < dd φ) : (pz φ c j).natAbs ≤ 70 := by
  have h1 := pz_sum w hc
  have h2 := sZ_term (f := fun j => ((pz φ c j).natAbs : Int)) (k := j) (n := dd φ) (fun i _ => show (0 : Int) ≤ ((pz φ c i).natAbs : Int) by omega) hj
  try dsimp only at h2
  omega
theorem m_lookFor (w : WF φ) (hN : 30000 ≤ N) (hre : rk φ = dd φ) (h : MFr σ φ) (hk : RSp φ σ) {S : Nat → Int} (hS : Stg φ σ S) {c : Nat} (hc1 : 1 ≤ c ∧ c ≤ 2) : ∃ τ rc, f_X6_lookFor N (nt (c : Nat)) σ = some (nt rc, τ) ∧ frQ σ τ ∧ LkO φ c S τ rc := by
  have hw2 := w.2.1
  have hc : c < 3 := by omega
  have hrl := rk_le (φ := φ)
  have hd12 : dd φ ≤ 12 := by omega
  have hNL := (ex_rk w).2.1 hre
  have hSn : ∀ b, b < nb φ → 0 ≤ S b := fun b hb => (Stg_S hS b hb).1
  obtain ⟨s, e1, hru, j1, j2⟩ := m_layRules (N := N) w (by omega) h hk hd12
  have hm : MFr s φ := MFr_same h (by unfold gI; rw [j1]) (by unfold gI; rw [j1]) (fun c _ _ => by rw [j1])
  have h10 : gI s 1067 10 = nt (dd φ : Nat) := by unfold gI; rw [j1]; exact hk.1
  have hSs : Stg φ s S := Stg_o hS (by unfold gI; rw [j1]) (by unfold gI; rw [j1])
  have f1 : frQ σ s := ⟨fun c _ _ _ => by rw [j1], fun k _ _ _ _ => by unfold gI; rw [j1], fun c hc => j2 c (by omega)⟩
  have works : ∀ (m j n : Nat) (b : Int), j + m = dd φ → m + 1 ≤ n → ((b = 0 ∧ ∀ i, i < j → pz φ c i = 0) ∨ (b = 1 ∧ ∃ i, i < dd φ ∧ pz φ c i ≠ 0)) → ∃ (b' : Int) (n' : Nat), f_X6_lookFor_h8 N (nt (c : Nat)) n (nt b) (nt (j : Nat)) s = f_X6_lookFor_h8 N (nt (c : Nat)) (n' + 1) (nt b') (nt (dd φ : Nat)) s ∧ ((b' = 0 ∧ ∀ i, i < dd φ → pz φ c i = 0) ∨ (b' = 1 ∧ ∃ i, i < dd φ ∧ pz φ c i ≠ 0)) := by
    intro m
    induction m with
    | zero =>
      intro j n b hj hn hb
      obtain ⟨n, rfl⟩ : ∃ m, n = m + 1 := ⟨n - 1, by omega⟩
      obtain rfl : j = dd φ := by omega
      exact ⟨b, n, rfl, hb⟩
    | succ m ih =>
      intro j n b hj hn hb
      obtain ⟨n, rfl⟩ : ∃ m, n = m + 1 := ⟨n - 1, by omega⟩
      have n15 : (15 : Int32) = nt 15 := rfl
      have b44 : ∀ y : Int, f_X6_lookFor_b44 N (fun x2_ x3_ σ_ => f_X6_lookFor_h8 N (nt (c : Nat)) n x2_ x3_ σ_) (nt (c : Nat)) (nt (j : Nat)) (nt y) s = f_X6_lookFor_h8 N (nt (c : Nat)) n (nt y) (nt ((j + 1 : Nat) : Int)) s := fun y => by
        rw [f_X6_lookFor_b44, n_1, nt_add, bd_eq]; rfl
      have b39 : f_X6_lookFor_b39 N (fun x2_ x3_ σ_ => f_X6_lookFor_h8 N (nt (c : Nat)) n x2_ x3_ σ_) (nt (c : Nat)) (nt (j : Nat)) s = f_X6_lookFor_h8 N (nt (c : Nat)) n (nt 1) (nt ((j + 1 : Nat) : Int)) s := by
        unfold f_X6_lookFor_b39
        exact b44 1
      rw [f_X6_lookFor_h8, h10, le_f (by omega) (by omega) (by omega)]
      rcases hb with ⟨rfl, hz⟩ | ⟨rfl, hx⟩
      · have hg := hru j (12 + c) (by omega) (by omega)
        rw [rcl_ld] at hg
        have hp := pz_70 w hc (show j < dd φ by omega)
        rw [if_pos (by decide), n15, nt_mul, n_12, nt_add, nt_add, ck_inb (by omega) (by omega) (by omega), nat_nt (by omega) (by omega), show ((15 : Int) * (j : Nat) + 12 + (c : Nat)).toNat = 15 * j + (12 + c) by omega, hg, j_0]
        by_cases q : pz φ c j = 0
        · rw [jeq_t q, n_0, b44]
          exact ih (j + 1) n 0 (by omega) (by omega) (Or.inl ⟨rfl, fun i hi => by
            by_cases q2 : i = j
            · rw [q2]; exact q
            · exact hz i (by omega)⟩)
        · rw [jeq_f q (by omega) (by omega) (by omega) (by omega), b39]
          exact ih (j + 1) n 1 (by omega) (by omega) (Or.inr ⟨rfl, j, by omega, q⟩)
      · rw [if_neg (by decide), b39]
        exact ih (j + 1) n 1 (by omega) (by omega) (Or.inr ⟨rfl, hx⟩)
  obtain ⟨b', n', e2, hb'⟩ := works (dd φ) 0 N 0 (by omega) (by omega) (Or.inl ⟨rfl, fun i hi => by omega⟩)
  have e2 : f_X6_lookFor_h8 N (nt (c : Nat)) N (0 : Int32) (0 : Int32) s = f_X6_lookFor_h8 N (nt (c : Nat)) (n' + 1) (nt b') (nt (dd φ : Nat)) s := e2
  rw [f_X6_lookFor_h8, h10, le_t (by omega) (by omega) (by omega)] at e2
  unfold f_X6_lookFor
  rw [e1, obd_some, e2]
  rcases hb' with ⟨rfl, hz⟩ | ⟨rfl, i, hi, hzi⟩
  · rw [if_pos (by decide), j_0, j_1]
    obtain ⟨τ, rc, k1, k2, k3⟩ := m_isBorne (N := N) (S := S) (t0 := 1) (t1 := 0) (t2 := 0) (by_ := 1) w hNL hN hd12 hm h10 hru hSs (by decide) (by decide)
    have hFE : ∀ f, FS φ c S f ↔ FEA φ S (pT φ T1c 1) := fun f => by
      rw [FS_z w hNL hSn f]
      have hpf : ∀ j, j < dd φ → PF φ c f j = pT φ T1c 1 j := fun j hj => by
        have h0 : pq φ c j = 0 := by unfold pq; rw [hz j hj]; rfl
        rw [pT_1]
        unfold PF
        rw [h0]; grind
      constructor
      · intro ⟨z, z1, z2⟩; exact ⟨z, z1, fun j hj => by rw [z2 j hj, hpf j hj]⟩
      · intro ⟨z, z1, z2⟩; exact ⟨z, z1, fun j hj => by rw [z2 j hj, hpf j hj]⟩
    have k4 : rc = 1 ∧ FEA φ S (pT φ T1c 1) ∨ rc = 0 ∧ ¬ FEA φ S (pT φ T1c 1) := k3
    clear k3
    rw [k1, obd_some]
    rcases k4 with ⟨rfl, k3⟩ | ⟨rfl, k3⟩
    · rw [if_neg (by decide)]
      exact ⟨τ, 1, rfl, frQ_tr f1 k2, Or.inr (Or.inl ⟨rfl, fun f => (hFE f).mpr k3⟩)⟩
    · rw [if_pos (by decide)]
      exact ⟨τ, 2, rfl, frQ_tr f1 k2, Or.inl ⟨rfl, fun f hf => k3 ((hFE f).mp hf)⟩⟩
  · rw [if_neg (by decide), j_0, j_1]
    obtain ⟨s0, k0, hP0, f0, _, _⟩ := m_take (N := N) 1 0 0 1 hm h10 hru hSs
    have hP0 : PRE φ S T1c 1 s0 := hP0
    have hpc : ∃ j, j < dd φ ∧ pq φ c j ≠ 0 := ⟨i, hi, fun q => hzi (q_0.mp q)⟩
    obtain ⟨a', τ, k1, k2, k3⟩ := m_lookAll (N := N) w hN hd12 (by omega) hc (2 ^ (2 * nb φ)) 0 N s0 0 (by omega) (by
      have hpow : 2 ^ (2 * nb φ) ≤ 2 ^ 12 := Nat.pow_le_pow_right (by decide) (by omega)
      have hpow2 : (2 : Nat) ^ 12 = 4096 := by decide
      omega) hP0 (Or.inl ⟨rfl, fun f ⟨Cm, h1, _⟩ => absurd h1 (Nat.not_lt_zero _)⟩)
    have k1 : f_X6_lookFor_h85 N (nt (c : Nat)) N (0 : Int32) (0 : Int32) s0 = some (nt (if a' = 0 then 2 else 0), τ) := k1
    rw [k0, obd_some, k1]
    have hcv : ∀ (sg f : Rat), FS φ c S f → ∃ f', Vis φ c S (2 ^ (2 * nb φ)) f' ∧ sg * f ≤ sg * f' := fun sg f hf => by
      obtain ⟨z, hz⟩ := (FS_z w hNL hSn f).mp hf
      obtain ⟨Cm, y, f', r1, r2, r3, r4, r5, r6⟩ := cornerL w hNL hpc (sg := sg) hz
      exact ⟨f', ⟨Cm, r1, r2, r3, y, r4⟩, r6⟩
    rcases k3 with ⟨rfl, k3⟩ | ⟨rfl, x0, x1, r1, r2, r3, r4, r5⟩
    · refine ⟨τ, 2, rfl, frQ_tr f1 (frQ_tr f0 k2), Or.inl ⟨rfl, fun f hf => ?_⟩⟩
      obtain ⟨f', h1, _⟩ := hcv 1 f hf
      exact k3 f' h1
    · refine ⟨τ, 0, rfl, frQ_tr f1 (frQ_tr f0 k2), Or.inr (Or.inr ⟨rfl, x0, x1, r1, r2, ⟨(FS_z w hNL hSn x0).mpr r3, fun f hf => ?_⟩, ⟨(FS_z w hNL hSn x1).mpr r4, fun f hf => ?_⟩⟩)⟩
      · obtain ⟨f', h1, h2⟩ := hcv 1 f hf
        rw [Rat.one_mul, Rat.one_mul] at h2
        exact Rat.le_trans h2 (r5 f' h1).2
      · obtain ⟨f', h1, h2⟩ := hcv (-1) f hf
        have h3 := (r5 f' h1).1
        have h4 : f' ≤ f := by grind
        exact Rat.le_trans h3 h4
end
