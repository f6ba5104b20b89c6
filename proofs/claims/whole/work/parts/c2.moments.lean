-- ===== the reference takes all moments of a corner =====
theorem q_sgn {B m x : Int} (hB : B ≠ 0) (hm : 0 < m) : ((if B < 0 then -x else x : Int) : Rat) * ((m * (if B < 0 then -B else B) : Int) : Rat)⁻¹ = (x : Rat) * ((m * B : Int) : Rat)⁻¹ := by
  have hD : ((m * B : Int) : Rat) ≠ 0 := fun q => Int.mul_ne_zero (by omega) hB (q_0.mp q)
  by_cases q : B < 0
  · rw [if_pos q, if_pos q]
    have e1 : ((m * -B : Int) : Rat) = -((m * B : Int) : Rat) := by rw [← Rat.intCast_neg, Int.mul_neg]
    rw [e1, Rat.intCast_neg]
    have h2 := Rat.mul_inv_cancel _ hD
    have h3 : -((m * B : Int) : Rat) ≠ 0 := fun z => hD (by grind)
    have h4 := Rat.mul_inv_cancel _ h3
    generalize ((m * B : Int) : Rat)⁻¹ = i at *
    generalize (-((m * B : Int) : Rat))⁻¹ = i2 at *
    generalize ((m * B : Int) : Rat) = D at *
    have h5 : i2 = -i := by
      have : i2 * (D * i) = -(i * (-D * i2)) := by grind
      rw [h2, h4] at this
      grind
    rw [h5]; grind
  · rw [if_neg q, if_neg q]
section
variable {N : Nat} {σ : ZS} {φ : FR}
/-- an end's moment at a corner -/
noncomputable def mmq (φ : FR) (Cm : Nat) (P : Nat → Nat → Int) (pi : Nat → Nat) (S T : Nat → Int) (by_ : Int) (g e : Nat) : Rat := zq φ Cm P pi S T by_ g e * ((lenB φ (e / 2) : Int) : Rat)
theorem mmq_free (w : WF φ) {s : ZS} {Cm : Nat} {P : Nat → Nat → Int} {pi : Nat → Nat} {B1 B2 : Nat} (hV : SLV φ s Cm P pi B1 B2) (S T : Nat → Int) {by_ : Int} (hby : 0 < by_) (g : Nat) {e : Nat} (he : e < 2 * nb φ) (hb : ¬ Cm.testBit e = true) : mmq φ Cm P pi S T by_ g e = ((sgn g (cn e (ff Cm)) * S (e / 2) : Int) : Rat) * (((1 : Int)) : Rat)⁻¹ := by
  have hl := len_q w (b := e / 2) (by omega)
  have hi := Rat.mul_inv_cancel _ hl
  unfold mmq
  rw [crn_free w hV S T hby g he hb]
  unfold cS
  have h1 : (((1 : Int)) : Rat)⁻¹ = 1 := by
    have h := Rat.mul_inv_cancel (1 : Rat) (by decide)
    rw [Rat.one_mul] at h
    exact h
  rw [h1, Rat.mul_one, Rat.intCast_mul]
  generalize ((lenB φ (e / 2) : Int) : Rat)⁻¹ = i at *
  generalize ((lenB φ (e / 2) : Int) : Rat) = l at *
  have : (sgn g (cn e (ff Cm)) : Rat) * ((S (e / 2) : Rat) * i) * l = (sgn g (cn e (ff Cm)) : Rat) * (S (e / 2) : Rat) * (l * i) := by grind
  rw [this, hi, Rat.mul_one]
theorem mmq_told (w : WF φ) {s : ZS} {Cm : Nat} {P : Nat → Nat → Int} {pi : Nat → Nat} {B1 B2 : Nat} (hV : SLV φ s Cm P pi B1 B2) (S T : Nat → Int) {by_ : Int} (hby : 0 < by_) (g : Nat) {e : Nat} (hb : Cm.testBit e = true) : mmq φ Cm P pi S T by_ g e = ((if dt (dd φ) P < 0 then -(lenB φ (e / 2) * val φ Cm P pi S T by_ (cn e (bt Cm)) g) else lenB φ (e / 2) * val φ Cm P pi S T by_ (cn e (bt Cm)) g : Int) : Rat) * ((12 * by_ * (if dt (dd φ) P < 0 then -(dt (dd φ) P) else dt (dd φ) P) : Int) : Rat)⁻¹ := by
  rw [q_sgn hV.1.2.2.1 (by omega)]
  unfold mmq zq zIn DnI
  rw [if_pos hb, Rat.intCast_mul]
  grind
/-- the new extremes of an end -/
def MDn (fi : Int) (x y v : Rat) (s : ZS) (e : Nat) : Prop := MD s e (if fi = 0 then mxq x v else v) (if fi = 0 then mnq y v else v)
theorem MD_o {s τ : ZS} {e : Nat} {x y : Rat} (h : MD s e x y) (h1 : ∀ c, gJ τ c e = gJ s c e) : MD τ e x y := by
  obtain ⟨a, b, c, d, f⟩ := h
  exact ⟨by rw [h1]; exact a, by rw [h1]; exact b, by rw [h1]; exact c, by rw [h1]; exact d, f⟩
theorem m_takeMoments (w : WF φ) (hN : 200 ≤ N) (hd12 : dd φ ≤ 12) {Cm t : Nat} {P : Nat → Nat → Int} {pi : Nat → Nat} {B1 B2 : Nat} {T : Nat → Int} {by_ : Int} (hby : 0 < by_) {s s0 : ZS} (hs : SES φ Cm P pi (φ.1 5) T by_ t s) (hV : SLV φ s0 Cm P pi B1 B2) (hCm : Cm < 32768) (hb : 12 * ((T 0).natAbs + (T 1).natAbs + (T 2).natAbs) * B2 + 1872 * by_.natAbs * B1 ≤ 2000000000000000000) (hb1 : B1 ≤ 4000000000000000000) (ht : t < 4096) {fi : Int} (hfi : fi = 0 ∨ fi = 1) {X Y : Nat → Rat} (hX : fi = 0 → ∀ e, e < 2 * nb φ → MD s e (X e) (Y e)) : ∃ τ, f_X6_takeMoments N (nt fi) s = some ((), τ) ∧ frT s τ ∧ ∀ e, e < 2 * nb φ → MDn fi (X e) (Y e) (mmq φ Cm P pi (φ.1 5) T by_ (gr2 t) e) τ e := by
  have hw2 := w.2.1
  obtain ⟨p1, p2, p3, p4, p5⟩ := id hs
  obtain ⟨g, hg⟩ : ∃ g, g = gr2 t := ⟨_, rfl⟩
  have hgb : g < 2147483648 := by
    have : gr2 t < 2 ^ 12 := Nat.xor_lt_two_pow (by omega) (Nat.lt_of_le_of_lt (Nat.shiftRight_le _ _) (by omega))
    omega
  rw [← hg] at p2 p3 ⊢
  have hcb := cn_bd (ff Cm) (2 * nb φ)
  have hgI : ∀ s', frT s s' → ∀ c k, gI s' c k = gI s c k := fun s' f c k => by unfold gI; rw [f.1]
  have hstr : ∀ e, e < 2 * nb φ → 1 ≤ φ.1 5 (e / 2) ∧ φ.1 5 (e / 2) ≤ 12 := fun e he => by
    obtain ⟨_, _, _, _, a, b, _⟩ := w.2.2.2.1 (e / 2) (by omega)
    exact ⟨a, b⟩
  -- the free ends
  obtain ⟨s1, e1, f1, g1⟩ := lp_inv (fun n k s' => f_X6_takeMoments_h2 N (nt fi) n (nt (k : Nat)) s') (fun k s' => frT s s' ∧ ∀ e, e < 2 * nb φ → ((ff Cm e = true ∧ cn e (ff Cm) < k → MDn fi (X e) (Y e) (mmq φ Cm P pi (φ.1 5) T by_ g e) s' e) ∧ (¬ (ff Cm e = true ∧ cn e (ff Cm) < k) → ∀ c, gJ s' c e = gJ s c e))) (cn (2 * nb φ) (ff Cm)) (fun n k s' hk hs' => by
    obtain ⟨f1, g1⟩ := hs'
    have hk : k < cn (2 * nb φ) (ff Cm) := hk
    obtain ⟨r1, r2, r3⟩ := fre_ok (φ := φ) hk
    have hfk := p3.2.1 k hk
    obtain ⟨e, he⟩ : ∃ e, e = fre φ Cm k := ⟨_, rfl⟩
    rw [← he] at r1 r2 r3 hfk
    have hb2 : e / 2 < nb φ := by omega
    have hdiv : ((e : Nat) : Int).tdiv 2 = ((e / 2 : Nat) : Int) := by
      rw [Int.tdiv_eq_ediv_of_nonneg (by omega)]; omega
    have hstr' := hstr e r1
    have hnb : ¬ Cm.testBit e = true := by
      intro q
      unfold ff at r2
      rw [q] at r2
      exact absurd r2 (by decide)
    have hmm := mmq_free w hV (φ.1 5) T hby g r1 hnb
    rw [r3] at hmm
    have hu : (sgn g k * φ.1 5 (e / 2)).natAbs ≤ 9000000000000000000 := by unfold sgn; split <;> omega
    have hold : fi = 0 → MD s' e (X e) (Y e) := fun hf => MD_o (hX hf e r1) ((g1 e r1).2 (fun q => by omega))
    obtain ⟨s2, k1, k2, k3, k4⟩ := m_takeMoment (N := N) (σ := s') hN (e := e) (by omega) hfi (u := sgn g k * φ.1 5 (e / 2)) (l := 1) hu ⟨by decide, by decide⟩ hold
    rw [← hmm] at k2
    refine ⟨s2, ?_, frT_tr f1 k3, fun e' he' => ⟨fun q => ?_, fun q c => ?_⟩⟩
    · show f_X6_takeMoments_h2 N (nt fi) (n + 1) (nt (k : Nat)) s' = _
      have b54 : ∀ y : Int, y = sgn g k * φ.1 5 (e / 2) → f_X6_takeMoments_b54 N (fun x2_ σ_ => f_X6_takeMoments_h2 N (nt fi) n x2_ σ_) (nt fi) (nt (k : Nat)) (nt (e : Nat)) (nt fi) (jl y) s' = f_X6_takeMoments_h2 N (nt fi) n (nt ((k + 1 : Nat) : Int)) s2 := fun y hy => by
        rw [f_X6_takeMoments_b54, j_1, hy, k1, obd_some, n_1, nt_add, bd_eq]; rfl
      have g73 : gI s' 1073 (e / 2) = nt (φ.1 5 (e / 2)) := by rw [hgI s' f1]; exact MFr_s p1.1 hb2
      have g39 : gI s' 1067 39 = nt (g : Nat) := by rw [hgI s' f1]; exact p3.2.2.1
      rw [f_X6_takeMoments_h2, hgI s' f1 1067 36, p3.1, le_f (by omega) (by omega) (by omega), ck_inb (by omega) (by omega) (by omega), nat_k (by omega), hgI s' f1 1091 k, hfk, bd_eq, g39, nt_bit1 hgb (by omega), n_2, nt_div ⟨by omega, by omega⟩ ⟨by omega, by omega⟩, hdiv, nat_k (by omega), g73, nt_neg, long_nt (by omega) (by omega), long_nt (by omega) (by omega)]
      by_cases q : g.testBit k = true
      · rw [if_pos q, ck_inb (by omega) (by omega) (by omega), b54 _ (by unfold sgn; rw [if_pos q]; omega)]
      · rw [if_neg q, ck_inb (by omega) (by omega) (by omega), b54 _ (by unfold sgn; rw [if_neg q]; omega)]
    · by_cases q2 : e' = e
      · rw [q2]; exact k2
      · have q3 : cn e' (ff Cm) ≠ k := fun z => q2 (cn_inj q.1 r2 (by rw [z, r3]))
        exact MD_o ((g1 e' he').1 ⟨q.1, by omega⟩) (fun c => k4 e' c q2)
    · have q2 : e' ≠ e := fun z => q (by rw [z]; exact ⟨r2, by omega⟩)
      rw [k4 e' c q2]
      exact (g1 e' he').2 (fun z => q ⟨z.1, by omega⟩) c) (cn (2 * nb φ) (ff Cm)) 0 N s (by omega) (by omega) ⟨frT_rf s, fun e he => ⟨fun q => by omega, fun _ _ => rfl⟩⟩
  obtain ⟨m1, em1⟩ : ∃ m, N - cn (2 * nb φ) (ff Cm) = m + 1 := ⟨N - cn (2 * nb φ) (ff Cm) - 1, by omega⟩
  have e1 : f_X6_takeMoments_h2 N (nt fi) N (0 : Int32) s = f_X6_takeMoments_h2 N (nt fi) (N - cn (2 * nb φ) (ff Cm)) (nt (cn (2 * nb φ) (ff Cm) : Nat)) s1 := e1
  rw [em1, f_X6_takeMoments_h2, hgI s1 f1 1067 36, p3.1, le_t (by omega) (by omega) (by omega)] at e1
  -- the told ends
  obtain ⟨s2, e2, f2, g2⟩ := lp_inv (fun n e s' => f_X6_takeMoments_h66 N (nt fi) n (nt (e : Nat)) s') (fun e s' => frT s s' ∧ ∀ e', e' < 2 * nb φ → ((ff Cm e' = true ∨ e' < e → MDn fi (X e') (Y e') (mmq φ Cm P pi (φ.1 5) T by_ g e') s' e') ∧ (¬ (ff Cm e' = true ∨ e' < e) → ∀ c, gJ s' c e' = gJ s c e'))) (2 * nb φ) (fun n e s' he hs' => by
    obtain ⟨f2, g2⟩ := hs'
    have he : e < 2 * nb φ := he
    have hb2 : e / 2 < nb φ := by omega
    have hdiv : ((e : Nat) : Int).tdiv 2 = ((e / 2 : Nat) : Int) := by
      rw [Int.tdiv_eq_ediv_of_nonneg (by omega)]; omega
    have hm : MFr s' φ := MFr_same p1.1 (hgI s' f2 _ _) (hgI s' f2 _ _) (fun c _ _ => by rw [f2.1])
    have htold : gI s' 1089 e = nt (if Cm.testBit e = true then ((cn e (bt Cm) : Nat) : Int) else -1) := by rw [hgI s' f2]; exact p4 e (by omega)
    have hcc := cn_bd (bt Cm) e
    have b152 : ∀ x, f_X6_takeMoments_b152 N (fun x2_ σ_ => f_X6_takeMoments_h66 N (nt fi) n x2_ σ_) (nt fi) (nt (e : Nat)) x = f_X6_takeMoments_h66 N (nt fi) n (nt ((e + 1 : Nat) : Int)) x := fun x => by
      rw [f_X6_takeMoments_b152, n_1, nt_add, bd_eq]; rfl
    show ∃ s'', f_X6_takeMoments_h66 N (nt fi) (n + 1) (nt (e : Nat)) s' = f_X6_takeMoments_h66 N (nt fi) n (nt ((e + 1 : Nat) : Int)) s'' ∧ _
    rw [f_X6_takeMoments_h66, MFr_b hm, n_2, nt_mul, le_f (by omega) (by omega) (by omega), ck_inb (by omega) (by omega) (by omega), nat_k (by omega), htold, n_0]
    by_cases q : Cm.testBit e = true
    · have hnf : ¬ ff Cm e = true := by unfold ff; rw [q]; decide
      have hi : cn e (bt Cm) < dd φ := by
        have := cn_up (s := bt Cm) (show e < 15 by omega) q
        rw [hV.2.2.1] at this
        exact this
      have hvb := val_bd w hV (Stg_S p1.2.2.2.1) T (by_ := by_) hi g
      have hval : gJ s' 1093 e = jl (val φ Cm P pi (φ.1 5) T by_ (cn e (bt Cm)) g) := by
        unfold gJ; rw [f2.2 1093 (by decide)]; exact (p2 e (by omega) q).1
      have hB : gJ s' 1067 29 = jl (dt (dd φ) P) := by unfold gJ; rw [f2.2 1067 (by decide)]; exact p5
      have hBy : gJ s' 1067 33 = jl by_ := by unfold gJ; rw [f2.2 1067 (by decide)]; exact p1.2.2.2.2.2
      have hmm := mmq_told w hV (φ.1 5) T hby g q
      have hBb := hV.2.2.2.2.1
      have hB0 := hV.1.2.2.1
      have hlen := len_rg w hb2
      have hm12 := mul_bd (Nat.le_refl by_.natAbs) (b := dt (dd φ) P) (B := B1) hBb
      have hlv := mul_bd (a := lenB φ (e / 2)) (A := 4) (by omega) hvb
      obtain ⟨v, hv⟩ : ∃ v, v = val φ Cm P pi (φ.1 5) T by_ (cn e (bt Cm)) g := ⟨_, rfl⟩
      obtain ⟨B, hBd⟩ : ∃ B, B = dt (dd φ) P := ⟨_, rfl⟩
      rw [← hv] at hval hmm hlv
      rw [← hBd] at hB hmm hBb hB0 hm12
      have hm1872 : by_.natAbs * B1 * 1872 = 1872 * by_.natAbs * B1 := by rw [Nat.mul_comm _ 1872, ← Nat.mul_assoc]
      have hprod : 12 * by_ * (if B < 0 then -B else B) = 12 * ((by_ * B).natAbs : Int) := by
        rw [Int.natAbs_mul, Int.natCast_mul]
        have h1 : ((by_.natAbs : Nat) : Int) = by_ := by omega
        have h2 : ((B.natAbs : Nat) : Int) = if B < 0 then -B else B := by split <;> omega
        rw [h1, h2, Int.mul_assoc]
      have hpb0 : by_ * B ≠ 0 := Int.mul_ne_zero (by omega) hB0
      have hl : 0 < 12 * by_ * (if B < 0 then -B else B) ∧ 12 * by_ * (if B < 0 then -B else B) ≤ 20000000000000000 := by
        rw [hprod]
        omega
      have hu : (if B < 0 then -(lenB φ (e / 2) * v) else lenB φ (e / 2) * v : Int).natAbs ≤ 9000000000000000000 := by
        split <;> omega
      have hold : fi = 0 → MD s' e (X e) (Y e) := fun hf => MD_o (hX hf e he) ((g2 e he).2 (fun z => by
        rcases z with z | z
        · exact hnf z
        · omega))
      obtain ⟨s3, k1, k2, k3, k4⟩ := m_takeMoment (N := N) (σ := s') hN (e := e) (by omega) hfi (u := (if B < 0 then -(lenB φ (e / 2) * v) else lenB φ (e / 2) * v : Int)) (l := 12 * by_ * (if B < 0 then -B else B)) hu hl hold
      rw [← hmm] at k2
      refine ⟨s3, ?_, frT_tr f2 k3, fun e' he' => ⟨fun z => ?_, fun z c => ?_⟩⟩
      · have b119 : f_X6_takeMoments_b119 N (fun x2_ σ_ => f_X6_takeMoments_h66 N (nt fi) n x2_ σ_) (nt fi) (nt (e : Nat)) (nt (e : Nat)) (nt fi) (jl (if B < 0 then -(lenB φ (e / 2) * v) else lenB φ (e / 2) * v : Int)) s' = f_X6_takeMoments_h66 N (nt fi) n (nt ((e + 1 : Nat) : Int)) s3 := by
          unfold f_X6_takeMoments_b119 f_X6_takeMoments_b148
          rw [hB, hBy, j_0, j_12, jl_mul, jl_neg, jl_mul, jl_mul]
          by_cases z : B < 0
          · rw [jlt_t z (by omega) (by omega)]
            rw [if_pos z, if_pos z] at k1
            rw [if_pos z, k1, obd_some, b152]
          · rw [jlt_f (by omega) (by omega) (by omega)]
            rw [if_neg z, if_neg z] at k1
            rw [if_neg z, k1, obd_some, b152]
        rw [if_pos q, lt_f (by omega) (by omega) (by omega), nt_div ⟨by omega, by omega⟩ ⟨by omega, by omega⟩, hdiv, m_length hm w hb2, obd_some, ck_inb (by omega) (by omega) (by omega), hval, hB, long_nt (by omega) (by omega), jl_mul, bd_eq, j_0, jl_neg]
        by_cases z : B < 0
        · rw [if_pos z] at b119
          rw [jlt_t z (by omega) (by omega), b119]
        · rw [if_neg z] at b119
          rw [jlt_f (by omega) (by omega) (by omega), b119]
      · by_cases q2 : e' = e
        · rw [q2]; exact k2
        · exact MD_o ((g2 e' he').1 (by
            rcases z with z | z
            · exact Or.inl z
            · exact Or.inr (by omega))) (fun c => k4 e' c q2)
      · have q2 : e' ≠ e := fun z2 => z (Or.inr (by omega))
        rw [k4 e' c q2]
        exact (g2 e' he').2 (fun z2 => z (by
          rcases z2 with z2 | z2
          · exact Or.inl z2
          · exact Or.inr (by omega))) c
    · have hff : ff Cm e = true := by
        unfold ff
        cases hq : Cm.testBit e with
        | false => rfl
        | true => exact absurd hq q
      rw [if_neg q, lt_t (by omega) (by omega) (by omega), b152]
      refine ⟨s', rfl, f2, fun e' he' => ⟨fun z => (g2 e' he').1 ?_, fun z => (g2 e' he').2 (fun z2 => z (by
        rcases z2 with z2 | z2
        · exact Or.inl z2
        · exact Or.inr (by omega)))⟩⟩
      rcases z with z | z
      · exact Or.inl z
      · by_cases q2 : e' = e
        · rw [q2]; exact Or.inl hff
        · exact Or.inr (by omega)) (2 * nb φ) 0 N s1 (by omega) (by omega) ⟨f1, fun e' he' => ⟨fun z => (g1 e' he').1 (by
      rcases z with z | z
      · exact ⟨z, cn_up he' z⟩
      · omega), fun z => (g1 e' he').2 (fun z2 => z (Or.inl z2.1))⟩⟩
  obtain ⟨m2, em2⟩ : ∃ m, N - 2 * nb φ = m + 1 := ⟨N - 2 * nb φ - 1, by omega⟩
  have e2 : f_X6_takeMoments_h66 N (nt fi) N (0 : Int32) s1 = f_X6_takeMoments_h66 N (nt fi) (N - 2 * nb φ) (nt (2 * nb φ : Nat)) s2 := e2
  have hb2 : gI s2 1067 4 = nt (nb φ : Nat) := by rw [hgI s2 f2]; exact MFr_b p1.1
  rw [em2, f_X6_takeMoments_h66, hb2, n_2, nt_mul, le_t (by omega) (by omega) (by omega)] at e2
  refine ⟨s2, ?_, f2, fun e he => (g2 e he).1 (Or.inr he)⟩
  unfold f_X6_takeMoments
  exact e1.trans e2
end
