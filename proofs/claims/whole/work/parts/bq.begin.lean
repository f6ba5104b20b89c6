-- ===== the reference begins with a set of columns =====
section
variable {N : Nat} {σ : ZS} {φ : FR}
/-- strengths as they are, or with one changed -/
def Stg (φ : FR) (σ : ZS) (S : Nat → Int) : Prop := ∃ ch v : Int, iR ch ∧ iR v ∧ gI σ 1067 30 = nt ch ∧ gI σ 1067 31 = nt v ∧ (∀ b, b < nb φ → S b = if (b : Int) = ch then v else φ.1 5 b) ∧ ∀ b, b < nb φ → 0 ≤ S b ∧ S b ≤ 13
theorem m_strengthOf (h : MFr σ φ) (w : WF φ) {S : Nat → Int} (hS : Stg φ σ S) {e : Nat} (he : e < 2 * nb φ) : f_X6_strengthOf N (nt (e : Nat)) σ = some (jl (S (e / 2)), σ) := by
  have hw2 := w.2.1
  obtain ⟨ch, v, c1, c2, c3, c4, c5, c6⟩ := hS
  have hb : e / 2 < nb φ := by omega
  have hdiv : ((e : Nat) : Int).tdiv 2 = ((e / 2 : Nat) : Int) := by
    rw [Int.tdiv_eq_ediv_of_nonneg (by omega)]; omega
  have h5 := c5 (e / 2) hb
  have h6 := c6 (e / 2) hb
  obtain ⟨_, _, _, _, q1, q2, _⟩ := w.2.2.2.1 (e / 2) hb
  have hc1 := c1.1
  have hc2 := c1.2
  unfold f_X6_strengthOf
  rw [n_2, nt_div ⟨by omega, by omega⟩ ⟨by omega, by omega⟩, hdiv, c3, c4]
  by_cases q : ((e / 2 : Nat) : Int) = ch
  · rw [if_pos q] at h5
    rw [eq_t q, long_nt c2.1 c2.2, h5]
  · rw [if_neg q] at h5
    rw [eq_f q (by omega) (by omega) (by omega) (by omega), ck_inb (by omega) (by omega) (by omega), nat_k (by omega), MFr_s h hb, long_nt (by omega) (by omega), h5]
/-- the ends that stay at their strengths -/
def ff (Cm : Nat) : Nat → Bool := fun e => !Cm.testBit e
noncomputable def fre (φ : FR) (Cm k : Nat) : Nat := @dite _ (∃ e, e < 2 * nb φ ∧ ff Cm e = true ∧ cn e (ff Cm) = k) (Classical.propDecidable _) (fun h => Classical.choose h) (fun _ => 0)
theorem fre_ok {Cm k : Nat} (hk : k < cn (2 * nb φ) (ff Cm)) : fre φ Cm k < 2 * nb φ ∧ ff Cm (fre φ Cm k) = true ∧ cn (fre φ Cm k) (ff Cm) = k := by
  have h : ∃ e, e < 2 * nb φ ∧ ff Cm e = true ∧ cn e (ff Cm) = k := by
    obtain ⟨i, a, b, c⟩ := cn_at (ff Cm) (2 * nb φ) k hk
    exact ⟨i, a, b, c⟩
  unfold fre
  rw [dif_pos h]
  exact Classical.choose_spec h
theorem fre_at {Cm e : Nat} (he : e < 2 * nb φ) (hf : ff Cm e = true) : cn e (ff Cm) < cn (2 * nb φ) (ff Cm) ∧ fre φ Cm (cn e (ff Cm)) = e := by
  have h := cn_up (s := ff Cm) he hf
  obtain ⟨_, b, c⟩ := fre_ok (φ := φ) h
  exact ⟨h, cn_inj b hf c⟩
noncomputable def tco (φ : FR) (S : Nat → Int) (by_ : Int) (e : Nat) : Int := by_ * (12 / lenB φ (e / 2)) * S (e / 2)
/-- by how much a told column turns with a free end -/
noncomputable def tn (φ : FR) (Cm : Nat) (P : Nat → Nat → Int) (pi : Nat → Nat) (S : Nat → Int) (by_ : Int) (i k : Nat) : Int := tco φ S by_ (fre φ Cm k) * dt (dd φ) (up P (pi i) (rcl φ (fre φ Cm k)))
noncomputable def v0 (φ : FR) (P : Nat → Nat → Int) (pi : Nat → Nat) (T : Nat → Int) (i : Nat) : Int := 12 * (T 0 * dt (dd φ) (up P (pi i) (rcl φ 12)) + T 1 * dt (dd φ) (up P (pi i) (rcl φ 13)) + T 2 * dt (dd φ) (up P (pi i) (rcl φ 14)))
/-- a told column at some signs -/
noncomputable def val (φ : FR) (Cm : Nat) (P : Nat → Nat → Int) (pi : Nat → Nat) (S : Nat → Int) (T : Nat → Int) (by_ : Int) (i g : Nat) : Int := v0 φ P pi T i - sZ (cn (2 * nb φ) (ff Cm)) (fun k => (if g.testBit k = true then -1 else 1) * tn φ Cm P pi S by_ i k)
/-- what going through signs leaves -/
def frB (s τ : ZS) : Prop := (∀ c, c ≠ 1067 → c ≠ 1091 → τ.1 c = s.1 c) ∧ (∀ k, k ≠ 34 → k ≠ 36 → k ≠ 39 → k ≠ 40 → gI τ 1067 k = gI s 1067 k) ∧ ∀ c, c ≠ 1092 → c ≠ 1093 → τ.2 c = s.2 c
theorem frB_rf (s : ZS) : frB s s := ⟨fun _ _ _ => rfl, fun _ _ _ _ _ => rfl, fun _ _ _ => rfl⟩
theorem frB_tr {a b c : ZS} (h : frB a b) (h2 : frB b c) : frB a c := ⟨fun k a1 a2 => (h2.1 k a1 a2).trans (h.1 k a1 a2), fun k a1 a2 a3 a4 => (h2.2.1 k a1 a2 a3 a4).trans (h.2.1 k a1 a2 a3 a4), fun k a1 a2 => (h2.2.2 k a1 a2).trans (h.2.2 k a1 a2)⟩
/-- columns so far -/
def BV (φ : FR) (Cm : Nat) (P : Nat → Nat → Int) (pi : Nat → Nat) (S : Nat → Int) (T : Nat → Int) (by_ : Int) (g : Nat) (s : ZS) (col : Nat) : Prop := ∀ col', col' < col → Cm.testBit col' = true → gJ s 1093 col' = jl (val φ Cm P pi S T by_ (cn col' (bt Cm)) g) ∧ ∀ k, k < cn (2 * nb φ) (ff Cm) → gJ s 1092 (12 * col' + k) = jl (tn φ Cm P pi S by_ (cn col' (bt Cm)) k)
/-- free ends, signs and step -/
def BF (φ : FR) (Cm t g : Nat) (s : ZS) : Prop := gI s 1067 36 = nt (cn (2 * nb φ) (ff Cm) : Nat) ∧ (∀ k, k < cn (2 * nb φ) (ff Cm) → gI s 1091 k = nt (fre φ Cm k : Nat)) ∧ gI s 1067 39 = nt (g : Nat) ∧ gI s 1067 40 = nt (t : Nat)
theorem frB_M {s τ : ZS} (h : MFr s φ) (f : frB s τ) : MFr τ φ := MFr_same h (f.2.1 0 (by decide) (by decide) (by decide) (by decide)) (f.2.1 4 (by decide) (by decide) (by decide) (by decide)) (fun c a b => f.1 c (by omega) (by omega))
theorem Stg_o {s τ : ZS} {S : Nat → Int} (h : Stg φ s S) (h1 : gI τ 1067 30 = gI s 1067 30) (h2 : gI τ 1067 31 = gI s 1067 31) : Stg φ τ S := by
  obtain ⟨ch, v, c1, c2, c3, c4, c5⟩ := h
  exact ⟨ch, v, c1, c2, by rw [h1]; exact c3, by rw [h2]; exact c4, c5⟩
theorem m_begin (w : WF φ) (hN : 200 ≤ N) (h : MFr σ φ) {S : Nat → Int} (hS : Stg φ σ S) (hd12 : dd φ ≤ 12) {Cm : Nat} (hCm : Cm < 32768) {P : Nat → Nat → Int} {pi : Nat → Nat} {B1 B2 : Nat} (hV : SLV φ σ Cm P pi B1 B2) {T : Nat → Int} {by_ : Int} (hT : ∀ c, c < 3 → gJ σ 1090 c = jl (T c)) (hby : gJ σ 1067 33 = jl by_) : ∃ τ, f_X6_begin N (nt (Cm : Nat)) σ = some ((), τ) ∧ BV φ Cm P pi S T by_ 0 τ 15 ∧ BF φ Cm 0 0 τ ∧ frB σ τ := by
  have hw2 := w.2.1
  have n15 : (15 : Int32) = nt 15 := rfl
  obtain ⟨s0, hs0⟩ : ∃ s0, s0 = sI (sI (sI (sI σ 1067 34 (nt (Cm : Nat))) 1067 36 (nt 0)) 1067 39 (nt 0)) 1067 40 (nt 0) := ⟨_, rfl⟩
  have f0 : frB σ s0 := ⟨fun c a b => by rw [hs0, sI_o a, sI_o a, sI_o a, sI_o a], fun k a1 a2 a3 a4 => by rw [hs0, gI_sI_k a4, gI_sI_k a3, gI_sI_k a2, gI_sI_k a1], fun c _ _ => by rw [hs0]; rfl⟩
  -- free ends
  obtain ⟨s1, e1, f1, g1, g2, g3, g4⟩ := lp_inv (fun n e s => f_X6_begin_h22 N (nt (Cm : Nat)) n (nt (e : Nat)) s) (fun e s => frB σ s ∧ gI s 1067 36 = nt (cn e (ff Cm) : Nat) ∧ (∀ e', e' < e → ff Cm e' = true → gI s 1091 (cn e' (ff Cm)) = nt (e' : Nat)) ∧ gI s 1067 39 = nt 0 ∧ gI s 1067 40 = nt 0) (2 * nb φ) (fun n e s he hs => by
    obtain ⟨f1, g1, g2, g3, g4⟩ := hs
    have he : e < 2 * nb φ := he
    have hm := frB_M h f1
    have hcb := cn_bd (ff Cm) e
    have hcs : cn (e + 1) (ff Cm) = cn e (ff Cm) + (if ff Cm e = true then 1 else 0) := cn_s e (ff Cm)
    have b57 : ∀ t, f_X6_begin_b57 N (fun x2_ σ_ => f_X6_begin_h22 N (nt (Cm : Nat)) n x2_ σ_) (nt (Cm : Nat)) (nt (e : Nat)) t = f_X6_begin_h22 N (nt (Cm : Nat)) n (nt ((e + 1 : Nat) : Int)) t := fun t => by
      rw [f_X6_begin_b57, n_1, nt_add, bd_eq]; rfl
    show ∃ s', f_X6_begin_h22 N (nt (Cm : Nat)) (n + 1) (nt (e : Nat)) s = f_X6_begin_h22 N (nt (Cm : Nat)) n (nt ((e + 1 : Nat) : Int)) s' ∧ _
    rw [f_X6_begin_h22, MFr_b hm, n_2, nt_mul, le_f (by omega) (by omega) (by omega), nt_bit (by omega) (by omega)]
    by_cases q : Cm.testBit e = true
    · have hf : ¬ ff Cm e = true := by unfold ff; rw [q]; decide
      rw [if_neg hf] at hcs
      rw [if_pos q, b57]
      refine ⟨s, rfl, f1, by rw [hcs]; exact g1, fun e' he' hfe => ?_, g3, g4⟩
      by_cases q2 : e' = e
      · rw [q2] at hfe; exact absurd hfe hf
      · exact g2 e' (by omega) hfe
    · have hf : ff Cm e = true := by
        unfold ff
        cases hq : Cm.testBit e with
        | false => rfl
        | true => exact absurd hq q
      rw [if_pos hf] at hcs
      rw [if_neg q, g1, bd_eq, n_1, nt_add, bd_eq, bd_eq, ck_inb (by omega) (by omega) (by omega), nat_k (by omega), bd_eq, b57]
      refine ⟨_, rfl, ⟨fun c a b => by rw [sI_o b, sI_o a]; exact f1.1 c a b, fun k a1 a2 a3 a4 => by rw [gI_sI_c (by decide), gI_sI_k a2]; exact f1.2.1 k a1 a2 a3 a4, f1.2.2⟩, ?_, fun e' he' hfe => ?_, by rw [gI_sI_c (by decide), gI_sI_k (by decide)]; exact g3, by rw [gI_sI_c (by decide), gI_sI_k (by decide)]; exact g4⟩
      · rw [gI_sI_c (by decide), gI_sI_at, hcs]; rfl
      · by_cases q2 : e' = e
        · rw [q2, gI_sI_at]
        · have hlt := cn_up (s := ff Cm) (show e' < e by omega) hfe
          rw [gI_sI_k (by omega), gI_sI_c (by decide)]
          exact g2 e' (by omega) hfe) (2 * nb φ) 0 N s0 (by omega) (by omega) ⟨f0, by rw [hs0, gI_sI_k (by decide), gI_sI_k (by decide), gI_sI_at]; rfl, fun e' he' => by omega, by rw [hs0, gI_sI_k (by decide), gI_sI_at], by rw [hs0, gI_sI_at]⟩
  obtain ⟨m1, em1⟩ : ∃ m, N - 2 * nb φ = m + 1 := ⟨N - 2 * nb φ - 1, by omega⟩
  have e1 : f_X6_begin_h22 N (nt (Cm : Nat)) N (nt 0) s0 = f_X6_begin_h22 N (nt (Cm : Nat)) (N - 2 * nb φ) (nt (2 * nb φ : Nat)) s1 := e1
  have hm1 := frB_M h f1
  rw [em1, f_X6_begin_h22, MFr_b hm1, n_2, nt_mul, le_t (by omega) (by omega) (by omega), n_0] at e1
  have hF : ∀ s, frB σ s → s.1 = s1.1 → BF φ Cm 0 0 s := fun s _ hs => ⟨by unfold gI; rw [hs]; exact g1, fun k hk => by
    obtain ⟨a, b, c⟩ := fre_ok (φ := φ) hk
    have := g2 _ a b
    rw [c] at this
    unfold gI
    rw [hs]
    exact this, by unfold gI; rw [hs]; exact g3, by unfold gI; rw [hs]; exact g4⟩
  -- columns
  obtain ⟨s2, e2, f2, j2, k2⟩ := lp_inv (fun n col s => f_X6_begin_h65 N n (nt (col : Nat)) s) (fun col s => frB σ s ∧ s.1 = s1.1 ∧ BV φ Cm P pi S T by_ 0 s col) 15 (fun n col s hcol hs => by
    obtain ⟨f2, j2, k2⟩ := hs
    have hcol : col < 15 := hcol
    obtain ⟨b1, b2, b3, b4⟩ := hF s f2 j2
    have hm := frB_M h f2
    have htold := hV.2.1 col hcol
    have htold : gI s 1089 col = nt (if Cm.testBit col = true then ((cn col (bt Cm) : Nat) : Int) else -1) := by
      unfold gI; rw [f2.1 1089 (by decide) (by decide)]; exact htold
    have b250 : ∀ t, f_X6_begin_b250 N (fun x2_ σ_ => f_X6_begin_h65 N n x2_ σ_) (nt (col : Nat)) t = f_X6_begin_h65 N n (nt ((col + 1 : Nat) : Int)) t := fun t => by
      rw [f_X6_begin_b250, n_1, nt_add, bd_eq]; rfl
    show ∃ s', f_X6_begin_h65 N (n + 1) (nt (col : Nat)) s = f_X6_begin_h65 N n (nt ((col + 1 : Nat) : Int)) s' ∧ _
    rw [f_X6_begin_h65, n15, le_f (by omega) (by omega) (by omega), ck_inb (by omega) (by omega) (by omega), nat_k (by omega), htold, n_0]
    by_cases q : Cm.testBit col = true
    · rw [if_pos q]
      obtain ⟨i, hi⟩ : ∃ i, i = cn col (bt Cm) := ⟨_, rfl⟩
      have hid : i < dd φ := by
        have h1 := cn_up (s := bt Cm) hcol q
        rw [hV.2.2.1] at h1
        omega
      rw [← hi]
      have hL : ∀ t : ZS, frB σ t → ∀ k, k < 15 → gJ t 1088 (15 * i + k) = jl (dt (dd φ) (up P (pi i) (rcl φ k))) := fun t ft k hk => by
        unfold gJ; rw [ft.2.2 1088 (by decide) (by decide)]; exact hV.1.1 i k hid hk
      have hTt : ∀ t : ZS, frB σ t → ∀ c, c < 3 → gJ t 1090 c = jl (T c) := fun t ft c hc => by
        unfold gJ; rw [ft.2.2 1090 (by decide) (by decide)]; exact hT c hc
      obtain ⟨sa, hsa⟩ : ∃ sa, sa = sJ s 1093 col (jl (v0 φ P pi T i)) := ⟨_, rfl⟩
      have fsa : frB σ sa := ⟨by rw [hsa]; exact f2.1, by rw [hsa]; exact f2.2.1, fun c c1 c2 => by rw [hsa, sJ_o c2]; exact f2.2.2 c c1 c2⟩
      obtain ⟨u, eu, u1, u2, u3, u4, u5⟩ := lp_inv (fun m k t => f_X6_begin_h153 N (fun x2_ σ_ => f_X6_begin_h65 N n x2_ σ_) (nt (col : Nat)) (nt ((15 * i : Nat) : Int)) m (nt (k : Nat)) t) (fun k t => frB σ t ∧ t.1 = s1.1 ∧ gJ t 1093 col = jl (v0 φ P pi T i - sZ k (fun k => tn φ Cm P pi S by_ i k)) ∧ (∀ k', k' < k → gJ t 1092 (12 * col + k') = jl (tn φ Cm P pi S by_ i k')) ∧ ∀ col', col' < col → gJ t 1093 col' = gJ s 1093 col' ∧ ∀ k', k' < 12 → gJ t 1092 (12 * col' + k') = gJ s 1092 (12 * col' + k')) (cn (2 * nb φ) (ff Cm)) (fun m k t hk ht => by
        obtain ⟨t1, t2, t3, t4, t5⟩ := ht
        have hk : k < cn (2 * nb φ) (ff Cm) := hk
        have hcb := cn_bd (ff Cm) (2 * nb φ)
        obtain ⟨c1, c2, c3, c4⟩ := hF t t1 t2
        obtain ⟨r1, r2, r3⟩ := fre_ok (φ := φ) hk
        have hmt := frB_M h t1
        have hSt : Stg φ t S := Stg_o hS (t1.2.1 30 (by decide) (by decide) (by decide) (by decide)) (t1.2.1 31 (by decide) (by decide) (by decide) (by decide))
        have hfk := c2 k hk
        obtain ⟨e, he⟩ : ∃ e, e = fre φ Cm k := ⟨_, rfl⟩
        rw [← he] at r1 r2 r3 hfk
        have hb2 : e / 2 < nb φ := by omega
        have hdiv : ((e : Nat) : Int).tdiv 2 = ((e / 2 : Nat) : Int) := by
          rw [Int.tdiv_eq_ediv_of_nonneg (by omega)]; omega
        have hlen := len_rg w hb2
        have hdiv2 : (12 : Int).tdiv (lenB φ (e / 2)) = 12 / lenB φ (e / 2) := Int.tdiv_eq_ediv_of_nonneg (by omega)
        have h12 := (len_12 w hb2).2
        have hbyt : gJ t 1067 33 = jl by_ := by unfold gJ; rw [t1.2.2 1067 (by decide) (by decide)]; exact hby
        have hLe := hL t t1 e (by omega)
        have htn : tn φ Cm P pi S by_ i k = by_ * (12 / lenB φ (e / 2)) * S (e / 2) * dt (dd φ) (up P (pi i) (rcl φ e)) := by
          unfold tn tco
          rw [← he]
        refine ⟨sJ (sJ t 1092 (12 * col + k) (jl (tn φ Cm P pi S by_ i k))) 1093 col (jl (v0 φ P pi T i - sZ (k + 1) (fun k => tn φ Cm P pi S by_ i k))), ?_, ⟨t1.1, t1.2.1, fun c c1 c2 => by rw [sJ_o c2, sJ_o c1]; exact t1.2.2 c c1 c2⟩, t2, by rw [gJ_sJ_at], fun k' hk' => ?_, fun col' hcol' => ⟨?_, fun k' hk' => ?_⟩⟩
        · show f_X6_begin_h153 N (fun x2_ σ_ => f_X6_begin_h65 N n x2_ σ_) (nt (col : Nat)) (nt ((15 * i : Nat) : Int)) (m + 1) (nt (k : Nat)) t = _
          have hval : jl (v0 φ P pi T i - sZ k (fun k => tn φ Cm P pi S by_ i k)) - jl (tn φ Cm P pi S by_ i k) = jl (v0 φ P pi T i - sZ (k + 1) (fun k => tn φ Cm P pi S by_ i k)) := by
            rw [jl_sub, sZ_s]
            exact congrArg jl (by omega)
          rw [f_X6_begin_h153, c1, le_f (by omega) (by omega) (by omega), ck_inb (by omega) (by omega) (by omega), nat_k (by omega), hfk, n_2, nt_div ⟨by omega, by omega⟩ ⟨by omega, by omega⟩, hdiv, m_length hmt w hb2, obd_some, ck_n0 (by omega) (by omega) (by omega), ck_inb (by omega) (by omega) (by omega), hfk, m_strengthOf hmt w hSt r1, obd_some, ck_inb (by omega) (by omega) (by omega), hfk, nt_add, ck_inb (by omega) (by omega) (by omega), nat_nt (by omega) (by omega), show (((15 * i : Nat) : Int) + (e : Nat)).toNat = 15 * i + e by omega, hbyt, hLe, n_12, nt_div ⟨by omega, by omega⟩ ⟨by omega, by omega⟩, hdiv2, long_nt (by omega) (by omega), jl_mul, jl_mul, jl_mul, ← htn, bd_eq, nt_mul, nt_add, ck_inb (by omega) (by omega) (by omega), nat_nt (by omega) (by omega), show ((12 : Int) * (col : Nat) + (k : Nat)).toNat = 12 * col + k by omega, bd_eq, ck_inb (by omega) (by omega) (by omega), ck_inb (by omega) (by omega) (by omega), nat_k (by omega), gJ_sJ_c (by decide), t3, gJ_sJ_at, hval, bd_eq, ck_inb (by omega) (by omega) (by omega), bd_eq, n_1, nt_add, bd_eq]
          rfl
        · rw [gJ_sJ_c (by decide)]
          by_cases q2 : k' = k
          · rw [q2, gJ_sJ_at]
          · rw [gJ_sJ_k (by omega)]; exact t4 k' (by omega)
        · rw [gJ_sJ_k (by omega), gJ_sJ_c (by decide)]; exact (t5 col' hcol').1
        · rw [gJ_sJ_c (by decide), gJ_sJ_k (by omega)]; exact (t5 col' hcol').2 k' hk') (cn (2 * nb φ) (ff Cm)) 0 N sa (by omega) (by have := cn_bd (ff Cm) (2 * nb φ); omega) ⟨fsa, by rw [hsa]; exact j2, by rw [hsa, gJ_sJ_at, show sZ 0 (fun k => tn φ Cm P pi S by_ i k) = 0 from rfl, Int.sub_zero], fun k' hk' => by omega, fun col' hcol' => ⟨by rw [hsa, gJ_sJ_k (by omega)], fun k' _ => by rw [hsa, gJ_sJ_c (by decide)]⟩⟩
      have hcb := cn_bd (ff Cm) (2 * nb φ)
      obtain ⟨m2, em2⟩ : ∃ m, N - cn (2 * nb φ) (ff Cm) = m + 1 := ⟨N - cn (2 * nb φ) (ff Cm) - 1, by omega⟩
      have eu : f_X6_begin_h153 N (fun x2_ σ_ => f_X6_begin_h65 N n x2_ σ_) (nt (col : Nat)) (nt ((15 * i : Nat) : Int)) N (nt 0) sa = f_X6_begin_h153 N (fun x2_ σ_ => f_X6_begin_h65 N n x2_ σ_) (nt (col : Nat)) (nt ((15 * i : Nat) : Int)) (N - cn (2 * nb φ) (ff Cm)) (nt (cn (2 * nb φ) (ff Cm) : Nat)) u := eu
      rw [em2, f_X6_begin_h153, (hF u u1 u2).1, le_t (by omega) (by omega) (by omega), b250] at eu
      refine ⟨u, ?_, u1, u2, fun col' hcol' hb' => ?_⟩
      · have z0 : ((nt 0).toNatClampNeg) = 0 := rfl
        have z1 : ((1 : Int32).toNatClampNeg) = 1 := rfl
        have z2 : ((2 : Int32).toNatClampNeg) = 2 := rfl
        have n13 : (13 : Int32) = nt 13 := rfl
        have n14 : (14 : Int32) = nt 14 := rfl
        rw [lt_f (by omega) (by omega) (by omega), ck_inb (by omega) (by omega) (by omega), nt_mul, bd_eq, ck_of (show inb (nt 0) 3 = true by decide), n_12, nt_add, ck_inb (by omega) (by omega) (by omega), ck_of (show inb (1 : Int32) 3 = true by decide), n13, nt_add, ck_inb (by omega) (by omega) (by omega), ck_of (show inb (2 : Int32) 3 = true by decide), n14, nt_add, ck_inb (by omega) (by omega) (by omega), z0, z1, z2, hTt s f2 0 (by omega), hTt s f2 1 (by omega), hTt s f2 2 (by omega), nat_nt (by omega) (by omega), nat_nt (by omega) (by omega), nat_nt (by omega) (by omega), show ((15 : Int) * (i : Nat) + 12).toNat = 15 * i + 12 by omega, show ((15 : Int) * (i : Nat) + 13).toNat = 15 * i + 13 by omega, show ((15 : Int) * (i : Nat) + 14).toNat = 15 * i + 14 by omega, hL s f2 12 (by omega), hL s f2 13 (by omega), hL s f2 14 (by omega), jl_mul, jl_mul, jl_mul, jl_add, jl_add, j_12, jl_mul, bd_eq, ck_inb (by omega) (by omega) (by omega), bd_eq]
        have hv : (12 : Int) * (T 0 * dt (dd φ) (up P (pi i) (rcl φ 12)) + T 1 * dt (dd φ) (up P (pi i) (rcl φ 13)) + T 2 * dt (dd φ) (up P (pi i) (rcl φ 14))) = v0 φ P pi T i := rfl
        rw [hv, ← hsa, show (15 : Int) * (i : Nat) = ((15 * i : Nat) : Int) by omega]
        exact eu
      · by_cases q2 : col' = col
        · subst q2
          rw [← hi]
          refine ⟨?_, u4⟩
          rw [u3]
          unfold val
          refine congrArg jl ?_
          congr 1
          refine sZ_congr (fun k _ => ?_)
          try dsimp only
          rw [if_neg (by rw [Nat.zero_testBit]; decide), Int.one_mul]
        · obtain ⟨w1, w2⟩ := u5 col' (by omega)
          obtain ⟨x1, x2⟩ := k2 col' (by omega) hb'
          exact ⟨by rw [w1]; exact x1, fun k hk => by rw [w2 k (by omega)]; exact x2 k hk⟩
    · rw [if_neg q, lt_t (by omega) (by omega) (by omega), b250]
      refine ⟨s, rfl, f2, j2, fun col' hcol' hb' => ?_⟩
      by_cases q2 : col' = col
      · rw [q2] at hb'; exact absurd hb' q
      · exact k2 col' (by omega) hb') 15 0 N s1 (by omega) (by omega) ⟨f1, rfl, fun col' hcol' => by omega⟩
  obtain ⟨m3, em3⟩ : ∃ m, N - 15 = m + 1 := ⟨N - 15 - 1, by omega⟩
  have e2 : f_X6_begin_h65 N N (nt 0) s1 = f_X6_begin_h65 N (N - 15) (nt 15) s2 := e2
  rw [em3, f_X6_begin_h65, n15, le_t (by omega) (by omega) (by omega)] at e2
  refine ⟨s2, ?_, k2, hF s2 f2 j2, f2⟩
  unfold f_X6_begin
  rw [n_0, bd_eq, bd_eq, bd_eq, bd_eq, ← hs0]
  exact e1.trans e2
end
