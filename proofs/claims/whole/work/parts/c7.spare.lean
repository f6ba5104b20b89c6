-- ===== the reference answers: spare strength, weakest bar =====
section
variable {N : Nat} {σ : ZS} {φ : FR}
theorem sdV_G (w : WF φ) {c : Nat} (hc : 1 ≤ c ∧ c ≤ 2) (hre : ¬ rk φ < dd φ) (hr : rgF φ c = 0) : IsG φ c (φ.1 5) (sdV φ c 0) := by
  obtain ⟨τ, hτ⟩ := ex_CK w
  have he : erF φ (c : Nat) 0 = 0 := by
    unfold erF
    rw [if_pos ⟨by omega, by omega, by omega⟩, if_neg hre]
    have : ((c : Nat) : Int).toNat = c := rfl
    rw [this, if_pos hr]
  obtain ⟨t, _, _, h3⟩ := s_limitError (N := 1200) w (Nat.le_refl _) hτ (c := (c : Nat)) (sd := 0) ⟨by omega, by omega⟩ ⟨by omega, by omega⟩
  obtain ⟨g, h, l, k, _, _, q3, q4, q5, q6, q7⟩ := h3 he
  have hct : ((c : Nat) : Int).toNat = c := rfl
  rw [hct] at q3
  obtain ⟨v1, v2⟩ := Lim_V q3
  obtain ⟨G1, G2, _⟩ := Lim_G q3
  unfold sdV
  rw [if_pos rfl, v1]
  exact G1
/-- the limits known, one strength to be changed -/
def RKx (φ : FR) (c : Nat) (b : Int) (s : ZS) : Prop := gI s 1067 9 = nt 0 ∧ RSp φ s ∧ RFd φ s ∧ gI s 1067 30 = nt b ∧ MFr s φ ∧ FndC φ s c
theorem set_k {s : ZS} {k : Nat} (hk : k = 30 ∨ k = 31) (v : Int32) : frH s (sI s 1067 k v) ∧ frR s (sI s 1067 k v) ∧ (∀ c, c ≠ 1067 → (sI s 1067 k v).1 c = s.1 c) ∧ (∀ j, j ≠ k → gI (sI s 1067 k v) 1067 j = gI s 1067 j) ∧ (sI s 1067 k v).2 = s.2 :=
  ⟨⟨fun j hj => gI_sI_k (show j ≠ k by omega) _ _ _ _, fun c hc => sI_o (by omega), fun _ _ => rfl⟩, ⟨fun c hc => sI_o (by omega), gI_sI_k (show 0 ≠ k by omega) _ _ _ _, gI_sI_k (show 4 ≠ k by omega) _ _ _ _, fun _ _ => rfl⟩, fun c hc => sI_o hc, fun j hj => gI_sI_k hj _ _ _ _, rfl⟩
theorem RKx_30 {s : ZS} {c : Nat} {b : Int} (h : RKx φ c b s) (b' : Int) : RKx φ c b' (sI s 1067 30 (nt b')) := by
  obtain ⟨f1, f2, f3, f4, f5⟩ := set_k (s := s) (k := 30) (Or.inl rfl) (nt b')
  obtain ⟨a1, a2, a3, a4, a5, a6⟩ := h
  exact ⟨by rw [f4 9 (by decide)]; exact a1, RSp_o a2 f1, RFd_o a3 (f3 _ (by decide)) (f3 _ (by decide)) (by rw [f5]) (by rw [f5]), gI_sI_at _ _ _ _, frR_M f2 a5, a6⟩
theorem RKx_31 {s : ZS} {c : Nat} {b : Int} (h : RKx φ c b s) (v : Int32) : RKx φ c b (sI s 1067 31 v) := by
  obtain ⟨f1, f2, f3, f4, f5⟩ := set_k (s := s) (k := 31) (Or.inr rfl) v
  obtain ⟨a1, a2, a3, a4, a5, a6⟩ := h
  exact ⟨by rw [f4 9 (by decide)]; exact a1, RSp_o a2 f1, RFd_o a3 (f3 _ (by decide)) (f3 _ (by decide)) (by rw [f5]) (by rw [f5]), by rw [f4 30 (by decide)]; exact a4, frR_M f2 a5, a6⟩
theorem RKx_Q {s τ : ZS} {c : Nat} {b : Int} (h : RKx φ c b s) (f : frQ s τ) : RKx φ c b τ := by
  obtain ⟨a1, a2, a3, a4, a5, a6⟩ := h
  refine ⟨by rw [f.2.1 9 (by decide) (by decide) (by decide) (by decide)]; exact a1, RSp_o a2 (frQ_H f), RFd_o a3 (f.1 1096 (by decide) (by decide) (by decide)) (f.1 1097 (by decide) (by decide) (by decide)) (f.2.2 1098 (by decide)) (f.2.2 1099 (by decide)), by rw [f.2.1 30 (by decide) (by decide) (by decide) (by decide)]; exact a4, frR_M (frQ_R f) a5, fun hr sd hsd => ?_⟩
  unfold gJ
  rw [f.2.2 1098 (by decide), f.2.2 1099 (by decide)]
  exact a6 hr sd hsd
theorem RKx_1 {s : ZS} {c : Nat} (h : RKx φ c (-1) s) : RK1 φ s := ⟨h.1, h.2.1, h.2.2.1, h.2.2.2.1⟩
theorem RKx_of {s : ZS} {c : Nat} (h : RK1 φ s) (hm : MFr s φ) (hf : FndC φ s c) : RKx φ c (-1) s := ⟨h.1, h.2.1, h.2.2.1, h.2.2.2, hm, hf⟩
theorem Stg_x (w : WF φ) {s : ZS} {c b : Nat} {x : Int} (hb : b < nb φ) (h : RKx φ c (b : Nat) s) (h31 : gI s 1067 31 = nt (φ.1 5 b + x)) (hx : 0 ≤ φ.1 5 b + x ∧ φ.1 5 b + x ≤ 13) : Stg φ s (Sx φ b x) := by
  have hw2 := w.2.1
  refine ⟨(b : Nat), φ.1 5 b + x, ⟨by omega, by omega⟩, ⟨by omega, by omega⟩, h.2.2.2.1, h31, fun k hk => ?_, fun k hk => ?_⟩
  · unfold Sx
    by_cases q : k = b
    · rw [if_pos q, if_pos (by omega), q]
    · rw [if_neg q, if_neg (by omega)]
  · unfold Sx
    obtain ⟨_, _, _, _, q1, q2, _⟩ := w.2.2.2.1 k hk
    by_cases q : k = b
    · rw [if_pos q, q]; exact hx
    · rw [if_neg q]; omega
theorem m_spare (w : WF φ) (hN : 30000 ≤ N) (h : MFr σ φ) (hk : RK φ σ) {c b : Int} (hc : iR c) (hb : iR b) : ∃ τ r, f_X6_spare N (nt c) (nt b) σ = some (nt r, τ) ∧ MAsk φ σ τ ∧ aSpare φ c b r := by
  have n0 : (0 : Int32) = nt 0 := rfl
  have hw2 := w.2.1
  unfold f_X6_spare aSpare
  rw [m_isBar h w hb, obd_some, br_p]
  by_cases d : 0 ≤ b ∧ b ≤ nb φ - 1
  rotate_left
  · rw [if_neg d]; exact ⟨σ, -1, rfl, MAsk_rf hk, by rw [if_neg d]⟩
  rw [if_pos d, m_isCase hc, obd_some, br_p]
  by_cases c1 : 1 ≤ c ∧ c ≤ 2
  rotate_left
  · rw [if_neg c1]
    exact ⟨σ, -2, rfl, MAsk_rf hk, by rw [if_pos d, erF_out (Or.inl c1), if_neg (by decide)]⟩
  rw [if_pos c1]
  obtain ⟨c, rfl⟩ : ∃ j : Nat, c = (j : Int) := ⟨c.toNat, by omega⟩
  obtain ⟨b, rfl⟩ : ∃ j : Nat, b = (j : Int) := ⟨b.toNat, by omega⟩
  have hct : ((c : Nat) : Int).toNat = c := rfl
  have hbt : ((b : Nat) : Int).toNat = b := rfl
  obtain ⟨t, r1, k1, k2, k3, k4⟩ := m_refusal w hN h hk (c := c) (by omega)
  have hre : erF φ (c : Nat) 0 = rfV φ c := erF_in (sd := 0) (by omega) (by omega)
  have r1 : f_X6_refusal N (nt (c : Nat)) σ = some (nt (rfV φ c), t) := r1
  have hrb := rfV_rg φ c
  rw [hre, r1, obd_some, n0, hct, hbt]
  by_cases q : rfV φ c = 0
  rotate_left
  · rw [eq_f q (by omega) (by omega) (by omega) (by omega)]
    exact ⟨t, rfV φ c, rfl, ⟨RK1_K k1, k3⟩, by rw [if_pos d, if_neg q]⟩
  obtain ⟨q1, q2⟩ := rfV_0 q
  have hrd : rk φ = dd φ := by have := (ex_rk w).1; omega
  have hb2 : b < nb φ := by omega
  have hst := (w.2.2.2.1 b hb2).2.2.2.2
  have hG := sdV_G w (c := c) (by omega) q1 q2
  obtain ⟨v, hv⟩ : ∃ v, v = sdV φ c 0 := ⟨_, rfl⟩
  rw [← hv] at hG
  obtain ⟨S, hS⟩ : ∃ S, S = φ.1 5 b := ⟨_, rfl⟩
  rw [← hS] at hst ⊢
  rw [eq_t q]
  obtain ⟨s0, hs0⟩ : ∃ s0, s0 = sI t 1067 30 (nt (b : Nat)) := ⟨_, rfl⟩
  have hx0 : RKx φ c (b : Nat) s0 := by rw [hs0]; exact RKx_30 (RKx_of k1 k2 (k4 q1)) _
  have hf0 : frR t s0 := by rw [hs0]; exact (set_k (Or.inl rfl) _).2.1
  rw [← hs0, bd_eq]
  -- the end
  have fin : ∀ (s : ZS) (r : Nat), RKx φ c (b : Nat) s → ∃ τ, f_X6_spare_b135 N (nt (r : Nat)) s = some (nt (r : Nat), τ) ∧ RK1 φ τ ∧ frR s τ := fun s r hs => by
    refine ⟨sI s 1067 30 (nt (-1)), ?_, RKx_1 (RKx_30 hs (-1)), (set_k (Or.inl rfl) _).2.1⟩
    rw [f_X6_spare_b135, n_m1, bd_eq]
  have anti : ∀ j k : Nat, j ≤ k → Spr φ c b (k : Nat) → Spr φ c b (j : Nat) := fun j k hjk ⟨x, x1, x2⟩ => ⟨x, FS_mono w (fun b' _ => by unfold Sx; split <;> omega) x1, x2⟩
  have key : ∀ (m k n : Nat) (s : ZS), (k : Int) + 1 + m ≥ S → (k : Int) ≤ S - 1 → m + 3 ≤ n → (k = 0 ∨ Spr φ c b (k : Nat)) → RKx φ c (b : Nat) s → ∃ τ r, f_X6_spare_h43 N (nt (c : Nat)) (nt (b : Nat)) n (nt (k : Nat)) (nt ((k + 1 : Nat) : Int)) s = some (nt (r : Nat), τ) ∧ RK1 φ τ ∧ frR s τ ∧ mxn (fun n => Spr φ c b (n : Nat)) (S - 1).toNat r := by
    intro m
    induction m with
    | zero =>
      intro k n s hm hkS hn hsp hs
      obtain ⟨n, rfl⟩ : ∃ m, n = m + 1 := ⟨n - 1, by omega⟩
      obtain ⟨τ, g1, g2, g3⟩ := fin s k hs
      refine ⟨τ, k, ?_, g2, g3, hsp, by omega, fun j a1 a2 => by omega⟩
      rw [f_X6_spare_h43, ck_inb (by omega) (by omega) (by omega), nat_k (by omega), MFr_s hs.2.2.2.2.1 hb2, ← hS, le_t (by omega) (by omega) (by omega), g1]
    | succ m ih =>
      intro k n s hm hkS hn hsp hs
      obtain ⟨n, rfl⟩ : ∃ m, n = m + 1 := ⟨n - 1, by omega⟩
      rw [f_X6_spare_h43, ck_inb (by omega) (by omega) (by omega), nat_k (by omega), MFr_s hs.2.2.2.2.1 hb2, ← hS]
      by_cases z : S ≤ ((k + 1 : Nat) : Int)
      · obtain ⟨τ, g1, g2, g3⟩ := fin s k hs
        refine ⟨τ, k, ?_, g2, g3, hsp, by omega, fun j a1 a2 => by omega⟩
        rw [le_t (by omega) (by omega) (by omega), g1]
      have e0 : ((k + 1 : Nat) : Int) - 1 = (k : Nat) := by omega
      rw [le_f (by omega) (by omega) (by omega), n_1, nt_sub, e0, eq_t rfl, ck_inb (by omega) (by omega) (by omega), nt_sub, bd_eq, bd_eq]
      obtain ⟨s1, hs1⟩ : ∃ s1, s1 = sI s 1067 31 (nt (S - ((k + 1 : Nat) : Int))) := ⟨_, rfl⟩
      have hx1 : RKx φ c (b : Nat) s1 := by rw [hs1]; exact RKx_31 hs _
      have hf1 : frR s s1 := by rw [hs1]; exact (set_k (Or.inr rfl) _).2.1
      have hg31 : gI s1 1067 31 = nt (φ.1 5 b + (-((k + 1 : Nat) : Int))) := by rw [hs1, ← hS]; exact gI_sI_at _ _ _ _
      rw [← hs1]
      obtain ⟨t1, rc, l1, l2, l3⟩ := m_lookFor (N := N) w hN hrd hx1.2.2.2.2.1 hx1.2.1 (Stg_x w hb2 hx1 hg31 (by omega)) (c := c) (by omega)
      have hx2 := RKx_Q hx1 l2
      have hfn := hx2.2.2.2.2.2 q2 0 (by omega)
      have hfn : gJ t1 1098 (2 * c) = jl v.num ∧ gJ t1 1099 (2 * c) = jl ((v.den : Nat) : Int) := by rw [hv]; exact hfn
      have hsub : ∀ f, FS φ c (Sx φ b (-((k + 1 : Nat) : Int))) f → FS φ c (φ.1 5) f := fun f hf => FS_mono w (fun b' _ => by unfold Sx; split <;> omega) hf
      -- when it fails
      have hno : ¬ Spr φ c b ((k + 1 : Nat) : Int) → ∃ τ r, f_X6_spare_b125 N (fun x4_ x5_ σ_ => f_X6_spare_h43 N (nt (c : Nat)) (nt (b : Nat)) n x4_ x5_ σ_) (nt (c : Nat)) (nt (b : Nat)) (nt (k : Nat)) (nt ((k + 1 : Nat) : Int)) t1 = some (nt (r : Nat), τ) ∧ RK1 φ τ ∧ frR s τ ∧ mxn (fun n => Spr φ c b (n : Nat)) (S - 1).toNat r := fun hn0 => by
        obtain ⟨n, rfl⟩ : ∃ m, n = m + 1 := ⟨n - 1, by omega⟩
        obtain ⟨τ, g1, g2, g3⟩ := fin t1 k hx2
        refine ⟨τ, k, ?_, g2, frR_tr hf1 (frR_tr (frQ_R l2) g3), hsp, by omega, fun j a1 a2 hj => hn0 (anti (k + 1) j (by omega) hj)⟩
        rw [f_X6_spare_b125, f_X6_spare_b127, n_1, nt_add, bd_eq]
        show f_X6_spare_h43 N (nt (c : Nat)) (nt (b : Nat)) (n + 1) (nt (k : Nat)) (nt (((k + 1 : Nat) : Int) + 1)) t1 = _
        rw [f_X6_spare_h43, ck_inb (by omega) (by omega) (by omega), nat_k (by omega), MFr_s hx2.2.2.2.2.1 hb2, ← hS]
        by_cases z2 : S ≤ ((k + 1 : Nat) : Int) + 1
        · rw [le_t (by omega) (by omega) (by omega), g1]
        · rw [le_f (by omega) (by omega) (by omega), n_1, nt_sub, eq_f (by omega) (by omega) (by omega) (by omega) (by omega), g1]
      rw [l1, obd_some, n0]
      rcases l3 with ⟨rfl, r4⟩ | ⟨rfl, r4⟩ | ⟨rfl, x0, x1, y1, y2, y3, y4⟩
      · rw [eq_f (by omega) (by omega) (by omega) (by omega) (by omega)]
        exact hno (fun ⟨x, hx, _⟩ => r4 x hx)
      · exfalso
        have := hG.2 _ (hsub _ (r4 (v + 1)))
        grind
      · have hsame : x0 = v ↔ Spr φ c b ((k + 1 : Nat) : Int) := by
          constructor
          · intro e
            exact ⟨x0, y3.1, fun f hf => by rw [e]; exact hG.2 f hf⟩
          · rintro ⟨x, u1, u2⟩
            have a1 := y3.2 x u1
            have a2 := u2 _ hG.1
            have a3 := hG.2 _ (hsub _ y3.1)
            grind
        obtain ⟨z1, z2, z3, z4⟩ := y1
        obtain ⟨b1, b2, _⟩ := sdV_bd w (c := c) (sd := 0) (by omega) (by omega) q1 q2
        rw [← hv] at b1 b2
        have z0 : ((nt 0).toNatClampNeg) = 0 := rfl
        rw [eq_t rfl, ck_of (by decide), n_2, nt_mul, ck_inb (by omega) (by omega) (by omega), z0, nat_nt (by omega) (by omega), show ((2 : Int) * (c : Nat)).toNat = 2 * c by omega, z1, hfn.1]
        by_cases a : x0.num = v.num
        rotate_left
        · rw [jeq_f a (by omega) (by omega) (by omega) (by omega)]
          exact hno (fun e => a (by rw [hsame.mpr e]))
        rw [jeq_t a, ck_of (by decide), ck_inb (by omega) (by omega) (by omega), z2, hfn.2]
        by_cases a2 : x0.den = v.den
        rotate_left
        · rw [jeq_f (by omega) (by omega) (by omega) (by omega) (by omega)]
          exact hno (fun e => a2 (by rw [hsame.mpr e]))
        rw [jeq_t (by omega)]
        have hxv : x0 = v := Rat.ext a a2
        obtain ⟨τ, r, g1, g2, g3, g4⟩ := ih (k + 1) n t1 (by omega) (by omega) (by omega) (Or.inr (hsame.mp hxv)) hx2
        refine ⟨τ, r, ?_, g2, frR_tr hf1 (frR_tr (frQ_R l2) g3), g4⟩
        rw [f_X6_spare_b127, n_1, nt_add, bd_eq]
        exact g1
  obtain ⟨τ, r, g1, g2, g3, g4⟩ := key S.toNat 0 N s0 (by omega) (by omega) (by omega) (Or.inl rfl) hx0
  refine ⟨τ, (r : Nat), g1, ⟨RK1_K g2, frR_tr k3 (frR_tr hf0 g3)⟩, ?_⟩
  rw [if_pos d, if_pos q]
  exact ⟨by omega, g4⟩
theorem m_weakest (w : WF φ) (hN : 30000 ≤ N) (h : MFr σ φ) (hk : RK φ σ) {c : Int} (hc : iR c) : ∃ τ, f_X6_weakest N (nt c) σ = some (nt (aWeakest φ c), τ) ∧ MAsk φ σ τ := by
  have n0 : (0 : Int32) = nt 0 := rfl
  have hw2 := w.2.1
  unfold f_X6_weakest aWeakest
  rw [m_isCase hc, obd_some, br_p]
  by_cases c1 : 1 ≤ c ∧ c ≤ 2
  rotate_left
  · rw [if_neg c1, erF_out (Or.inl c1), if_neg (by decide)]
    exact ⟨σ, rfl, MAsk_rf hk⟩
  rw [if_pos c1]
  obtain ⟨c, rfl⟩ : ∃ j : Nat, c = (j : Int) := ⟨c.toNat, by omega⟩
  have hct : ((c : Nat) : Int).toNat = c := rfl
  obtain ⟨t, r1, k1, k2, k3, k4⟩ := m_refusal w hN h hk (c := c) (by omega)
  have hre : erF φ (c : Nat) 0 = rfV φ c := erF_in (sd := 0) (by omega) (by omega)
  have r1 : f_X6_refusal N (nt (c : Nat)) σ = some (nt (rfV φ c), t) := r1
  have hrb := rfV_rg φ c
  rw [hre, r1, obd_some, n0, hct]
  by_cases q : rfV φ c = 0
  rotate_left
  · rw [eq_f q (by omega) (by omega) (by omega) (by omega), if_neg q]
    exact ⟨t, rfl, RK1_K k1, k3⟩
  obtain ⟨q1, q2⟩ := rfV_0 q
  have hrd : rk φ = dd φ := by have := (ex_rk w).1; omega
  have hG := sdV_G w (c := c) (by omega) q1 q2
  obtain ⟨b1, b2, _⟩ := sdV_bd w (c := c) (sd := 0) (by omega) (by omega) q1 q2
  have hfn := k4 q1 q2 0 (by omega)
  obtain ⟨v, hv⟩ : ∃ v, v = sdV φ c 0 := ⟨_, rfl⟩
  have hfn : gJ t 1098 (2 * c) = jl v.num ∧ gJ t 1099 (2 * c) = jl ((v.den : Nat) : Int) := by rw [hv]; exact hfn
  rw [← hv] at hG b1 b2
  rw [if_pos q, eq_t q, n_2, nt_mul, ck_inb (by omega) (by omega) (by omega), nat_nt (by omega) (by omega), show ((2 : Int) * (c : Nat)).toNat = 2 * c by omega, hfn.1, bd_eq, ck_inb (by omega) (by omega) (by omega), hfn.2, bd_eq, GV_of hG]
  have key : ∀ (j b n : Nat) (s : ZS) (x : Rat) (r : Int) (ch : Int), b + j = nb φ → j + 1 ≤ n → x.num.natAbs ≤ 4000000000000000000 → x.den ≤ 4000000000000000000 → RKx φ c ch s → ∃ τ, f_X6_weakest_h48 N (nt (c : Nat)) n (jl x.num) (jl ((x.den : Nat) : Int)) (nt r) (nt (b : Nat)) s = some (nt (wkf (fun b => GV φ c (Sx φ b 1)) j b x r), τ) ∧ RK1 φ τ ∧ frR s τ := by
    intro j
    induction j with
    | zero =>
      intro b n s x r ch hj hn hx hy hs
      obtain ⟨n, rfl⟩ : ∃ m, n = m + 1 := ⟨n - 1, by omega⟩
      refine ⟨sI s 1067 30 (nt (-1)), ?_, RKx_1 (RKx_30 hs (-1)), (set_k (Or.inl rfl) _).2.1⟩
      rw [f_X6_weakest_h48, MFr_b hs.2.2.2.2.1, le_t (by omega) (by omega) (by omega), n_m1, bd_eq]
      rfl
    | succ j ih =>
      intro b n s x r ch hj hn hx hy hs
      obtain ⟨n, rfl⟩ : ∃ m, n = m + 1 := ⟨n - 1, by omega⟩
      have hb2 : b < nb φ := by omega
      have hst := (w.2.2.2.1 b hb2).2.2.2.2
      obtain ⟨s0, hs0⟩ : ∃ s0, s0 = sI s 1067 30 (nt (b : Nat)) := ⟨_, rfl⟩
      have hx0 : RKx φ c (b : Nat) s0 := by rw [hs0]; exact RKx_30 hs _
      have hf0 : frR s s0 := by rw [hs0]; exact (set_k (Or.inl rfl) _).2.1
      rw [f_X6_weakest_h48, MFr_b hs.2.2.2.2.1, le_f (by omega) (by omega) (by omega), ← hs0, bd_eq, ck_inb (by omega) (by omega) (by omega), nat_k (by omega), MFr_s hx0.2.2.2.2.1 hb2, n_1, nt_add, bd_eq]
      obtain ⟨s1, hs1⟩ : ∃ s1, s1 = sI s0 1067 31 (nt (φ.1 5 b + 1)) := ⟨_, rfl⟩
      have hx1 : RKx φ c (b : Nat) s1 := by rw [hs1]; exact RKx_31 hx0 _
      have hf1 : frR s0 s1 := by rw [hs1]; exact (set_k (Or.inr rfl) _).2.1
      have hg31 : gI s1 1067 31 = nt (φ.1 5 b + 1) := by rw [hs1]; exact gI_sI_at _ _ _ _
      rw [← hs1, bd_eq]
      obtain ⟨t1, rc, l1, l2, l3⟩ := m_lookFor (N := N) w hN hrd hx1.2.2.2.2.1 hx1.2.1 (Stg_x w hb2 hx1 hg31 (by omega)) (c := c) (by omega)
      have hx2 := RKx_Q hx1 l2
      have hfr := frR_tr hf0 (frR_tr hf1 (frQ_R l2))
      have hsub : ∀ f, FS φ c (φ.1 5) f → FS φ c (Sx φ b 1) f := fun f hf => FS_mono w (fun b' _ => by unfold Sx; split <;> omega) hf
      have z0 : ((nt 0).toNatClampNeg) = 0 := rfl
      rw [l1, obd_some]
      rcases l3 with ⟨rfl, r4⟩ | ⟨rfl, r4⟩ | ⟨rfl, x0, x1, y1, y2, y3, y4⟩
      · exact absurd (hsub _ hG.1) (r4 _)
      · exfalso
        have := hG.2 _ (FS_all r4 hG.1 (v + 1))
        grind
      · have hGb : GV φ c (Sx φ b 1) = x0 := GV_of ⟨y3.1, y3.2⟩
        obtain ⟨z1, z2, z3, z4⟩ := y1
        have hxd := x.den_pos
        have h0d := x0.den_pos
        have hlt : x.num * (x0.den : Int) < x0.num * (x.den : Int) ↔ x < x0 := by
          rw [q_mul_lt (by omega) (by omega), rat_q, rat_q]
        rw [n0, ck_of (by decide), ck_of (by decide), z0, z1, z2, m_compare (by omega) (okJ_of (by omega)) (okJ_of (by omega)) (okJ_of (by omega)) (okJ_of (by omega)) (by omega) (by omega), obd_some, wkf, hGb]
        have b122 : ∀ (x' : Rat) (r' : Int) (s' : ZS), f_X6_weakest_b122 N (fun x3_ x5_ x7_ x8_ σ_ => f_X6_weakest_h48 N (nt (c : Nat)) n x3_ x5_ x7_ x8_ σ_) (nt (c : Nat)) (jl x'.num) (jl ((x'.den : Nat) : Int)) (nt r') (nt (b : Nat)) s' = f_X6_weakest_h48 N (nt (c : Nat)) n (jl x'.num) (jl ((x'.den : Nat) : Int)) (nt r') (nt ((b + 1 : Nat) : Int)) s' := fun x' r' s' => by
          rw [f_X6_weakest_b122, n_1, nt_add, bd_eq]; rfl
        unfold cm3
        by_cases a : x < x0
        · have a2 := hlt.mpr a
          rw [if_pos a, if_neg (show ¬ x0.num * (x.den : Int) < x.num * (x0.den : Int) by omega), if_neg (show ¬ x0.num * (x.den : Int) = x.num * (x0.den : Int) by omega), le_f (by omega) (by omega) (by omega), ck_of (by decide), z1, bd_eq, ck_of (by decide), z2, bd_eq, b122]
          obtain ⟨τ, g1, g2, g3⟩ := ih (b + 1) n t1 x0 (b : Nat) (b : Nat) (by omega) (by omega) z3 z4 hx2
          exact ⟨τ, g1, g2, frR_tr hfr g3⟩
        · have a2 : ¬ x.num * (x0.den : Int) < x0.num * (x.den : Int) := fun e => a (hlt.mp e)
          obtain ⟨τ, g1, g2, g3⟩ := ih (b + 1) n t1 x r (b : Nat) (by omega) (by omega) hx hy hx2
          rw [if_neg a]
          by_cases a3 : x0.num * (x.den : Int) < x.num * (x0.den : Int)
          · rw [if_pos a3, le_t (by omega) (by omega) (by omega), b122]
            exact ⟨τ, g1, g2, frR_tr hfr g3⟩
          · rw [if_neg a3, if_pos (show x0.num * (x.den : Int) = x.num * (x0.den : Int) by omega), le_t (by omega) (by omega) (by omega), b122]
            exact ⟨τ, g1, g2, frR_tr hfr g3⟩
  obtain ⟨τ, g1, g2, g3⟩ := key (nb φ) 0 N t v (-6) (-1) (by omega) (by omega) (by omega) (by omega) (RKx_of k1 k2 (k4 q1))
  exact ⟨τ, g1, RK1_K g2, frR_tr k3 g3⟩
end
