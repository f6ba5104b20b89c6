-- ===== the class: moments of ends =====
/-- the moments of an end that elementary motions leave -/
def MoS (φ : FR) (c : Nat) (f : Rat) (e : Nat) (m : Rat) : Prop := ab m ≤ (φ.1 5 (e / 2) : Rat) ∧ ∀ q, ElF φ q → dq (dd φ) (Rq φ e) q ≠ 0 → ab (dq (dd φ) (PF φ c f) q - m * ((lenB φ (e / 2) : Int) : Rat)⁻¹ * dq (dd φ) (Rq φ e) q) ≤ stn (dd φ) (Rq φ) (cq φ) (2 * nb φ) q - cq φ e * ab (dq (dd φ) (Rq φ e) q)
/-- the same for one motion -/
def cm (φ : FR) (c : Nat) (f : Rat) (e : Nat) (m : Rat) (q : Nat → Rat) : Prop := dq (dd φ) (Rq φ e) q ≠ 0 → ab (dq (dd φ) (PF φ c f) q - m * ((lenB φ (e / 2) : Int) : Rat)⁻¹ * dq (dd φ) (Rq φ e) q) ≤ stn (dd φ) (Rq φ) (cq φ) (2 * nb φ) q - cq φ e * ab (dq (dd φ) (Rq φ e) q)
section
variable {N : Nat} {φ : FR} {pi : Nat → Nat}
theorem MoS_list {σ : ZS} {L : List Nat} (hM : CMe φ pi σ L) {Q : Nat → Nat → Rat} {R : Nat → Nat → Int} {ST : Nat → Int} {WW : Nat → Nat → Int} (hA : CA φ pi σ L.length Q R ST WW) (hs : ∀ k s, L[k]? = some s → s = mq φ (Q k)) (c : Nat) (f : Rat) {e : Nat} (he : e < 2 * nb φ) (m : Rat) : MoS φ c f e m ↔ ab m ≤ (φ.1 5 (e / 2) : Rat) ∧ ∀ k, k < L.length → cm φ c f e m (Q k) := by
  constructor
  · rintro ⟨h0, h⟩
    refine ⟨h0, fun k hk => ?_⟩
    obtain ⟨s, hw⟩ := hA k hk
    exact h _ hw.2.2.1
  · rintro ⟨h0, h⟩
    refine ⟨h0, fun q hq hne => ?_⟩
    obtain ⟨k, s, hk, hs2⟩ := el_list hM hq
    have hkl : k < L.length := (List.getElem?_eq_some_iff.mp hk).1
    obtain ⟨s', hw⟩ := hA k hkl
    obtain ⟨l, hl⟩ := el_same hw.2.2.1 ((hs k s hk).symm.trans hs2)
    have hr : dq (dd φ) (Rq φ e) q = l * dq (dd φ) (Rq φ e) (Q k) := by rw [← dq_mul]; exact dq_congr (fun _ _ => rfl) hl
    have h1 := h k hkl (fun w => hne (by rw [hr, w, Rat.mul_zero]))
    rw [PF_mul hl, hr, cq_S, stn_mul hl, ab_mul]
    rw [cq_S] at h1
    have e : l * dq (dd φ) (PF φ c f) (Q k) - m * ((lenB φ (e / 2) : Int) : Rat)⁻¹ * (l * dq (dd φ) (Rq φ e) (Q k)) = l * (dq (dd φ) (PF φ c f) (Q k) - m * ((lenB φ (e / 2) : Int) : Rat)⁻¹ * dq (dd φ) (Rq φ e) (Q k)) := by grind
    rw [e, ab_mul]
    have := Rat.mul_le_mul_of_nonneg_left h1 (ab_nn l)
    grind
/-- in whole numbers -/
theorem cm_iff (w : WF φ) {σ : ZS} {k s c : Nat} (hc : c < 3) {q : Nat → Rat} {r : Nat → Int} {St : Int} {W : Nat → Int} (h : CW φ pi σ k s q r St W) {u v : Int} (hv : 0 < v) {e : Nat} (he : e < 2 * nb φ) (m : Rat) : cm φ c ((u : Rat) * (v : Rat)⁻¹) e m q ↔ (r e ≠ 0 → m * (((r e).natAbs * v : Int) : Rat) ≤ (((if r e < 0 then -(W 0 * v + W c * u) else W 0 * v + W c * u) + (St - φ.1 5 (e / 2) * (r e).natAbs) * v : Int) : Rat) ∧ (((if r e < 0 then -(W 0 * v + W c * u) else W 0 * v + W c * u) - (St - φ.1 5 (e / 2) * (r e).natAbs) * v : Int) : Rat) ≤ m * (((r e).natAbs * v : Int) : Rat)) := by
  obtain ⟨_, _, _, _, hmq, ⟨_, a2, _, _⟩, a5⟩ := h
  have hq := lw_q (c := c) (u := u) hv (a5 0 (by omega)).2.1 (a5 c hc).2.1
  have hvq := q_pos.mpr hv
  have hl := len_q w (b := e / 2) (by omega)
  have hl2 := len_rg w (b := e / 2) (by omega)
  have hre := hmq.1 e he
  have hne : dq (dd φ) (Rq φ e) q ≠ 0 ↔ r e ≠ 0 := by
    rw [← hre]
    constructor
    · intro h h0; apply h; rw [h0, Rat.intCast_zero, Rat.zero_mul]
    · intro h h0
      rcases Rat.mul_eq_zero.mp h0 with h1 | h1
      · exact h (q_0.mp h1)
      · exact hl h1
  unfold cm
  rw [hne]
  refine imp_congr Iff.rfl ?_
  rw [← a2]
  have e1 : m * ((lenB φ (e / 2) : Int) : Rat)⁻¹ * dq (dd φ) (Rq φ e) q = m * (r e : Rat) := by
    rw [← hre]
    have hi : ((lenB φ (e / 2) : Int) : Rat) * ((lenB φ (e / 2) : Int) : Rat)⁻¹ = 1 := Rat.mul_inv_cancel _ hl
    generalize ((lenB φ (e / 2) : Int) : Rat)⁻¹ = i at *
    generalize ((lenB φ (e / 2) : Int) : Rat) = l at *
    have : m * i * ((r e : Rat) * l) = m * (r e : Rat) * (l * i) := by grind
    rw [this, hi, Rat.mul_one]
  have e2 : cq φ e * ab (dq (dd φ) (Rq φ e) q) = ((φ.1 5 (e / 2) * (r e).natAbs : Int) : Rat) := by
    rw [← hre, ab_mul, ab_int, Rat.intCast_mul]
    have : ab ((lenB φ (e / 2) : Int) : Rat) = ((lenB φ (e / 2) : Int) : Rat) := ab_of (Rat.intCast_nonneg.mpr (by omega))
    rw [this]
    unfold cq
    have hi : ((lenB φ (e / 2) : Int) : Rat) * ((lenB φ (e / 2) : Int) : Rat)⁻¹ = 1 := Rat.mul_inv_cancel _ hl
    generalize ((lenB φ (e / 2) : Int) : Rat)⁻¹ = i at *
    generalize ((lenB φ (e / 2) : Int) : Rat) = l at *
    generalize (φ.1 5 (e / 2) : Rat) = s
    generalize (((r e).natAbs : Int) : Rat) = a
    have : s * i * (a * l) = s * a * (l * i) := by grind
    rw [this, hi, Rat.mul_one]
  rw [e1, e2]
  generalize W 0 * v + W c * u = T at *
  generalize dq (dd φ) (PF φ c ((u : Rat) * (v : Rat)⁻¹)) q = D at *
  obtain ⟨o, ho⟩ : ∃ o : Int, o = St - φ.1 5 (e / 2) * (r e).natAbs := ⟨_, rfl⟩
  have ho2 : (St : Rat) - ((φ.1 5 (e / 2) * (r e).natAbs : Int) : Rat) = (o : Rat) := by rw [ho, Rat.intCast_sub]
  rw [ho2, ← ho]
  -- times v
  have e3 : ab (D - m * (r e : Rat)) ≤ (o : Rat) ↔ ab ((T : Rat) - m * (r e : Rat) * (v : Rat)) ≤ ((o * v : Int) : Rat) := by
    have e4 : (T : Rat) - m * (r e : Rat) * (v : Rat) = (D - m * (r e : Rat)) * (v : Rat) := by rw [hq]; grind
    rw [e4, ab_mul, ab_of (Rat.le_of_lt hvq), Rat.intCast_mul]
    exact ⟨fun h => Rat.mul_le_mul_of_nonneg_right h (Rat.le_of_lt hvq), fun h => Rat.le_of_mul_le_mul_right h hvq⟩
  rw [e3, ab_iff]
  by_cases hn : r e < 0
  · rw [if_pos hn]
    have e5 : (((r e).natAbs * v : Int) : Rat) = -((r e : Rat) * (v : Rat)) := by
      have : ((r e).natAbs * v : Int) = -(r e * v) := by
        have : ((r e).natAbs : Int) = - r e := by omega
        rw [this, Int.neg_mul]
      rw [this, Rat.intCast_neg, Rat.intCast_mul]
    rw [e5, Rat.intCast_add, Rat.intCast_sub, Rat.intCast_neg]
    constructor
    · rintro ⟨a, b⟩; constructor <;> grind
    · rintro ⟨a, b⟩; constructor <;> grind
  · rw [if_neg hn]
    have e5 : (((r e).natAbs * v : Int) : Rat) = (r e : Rat) * (v : Rat) := by
      have : ((r e).natAbs : Int) = r e := by omega
      rw [this, Rat.intCast_mul]
    rw [e5, Rat.intCast_add, Rat.intCast_sub]
    constructor
    · rintro ⟨a, b⟩; constructor <;> grind
    · rintro ⟨a, b⟩; constructor <;> grind
theorem s_findMoments (w : WF φ) (hN : 1200 ≤ N) {σ : ZS} {L : List Nat} (hM : CMe φ pi σ L) (hB : CBl φ pi σ L) {c : Nat} (hc : c < 3) {u v : Int} (hl : LmL σ c u v) {e : Nat} (he : e < 2 * nb φ) : ∃ τ g h l k, f_X0_findMoments N (nt (e : Nat)) σ = some ((), τ) ∧ fr9 σ τ ∧ Fq τ 9 g h ∧ Fq τ 10 l k ∧ 0 < h ∧ 0 < k ∧ g.natAbs ≤ 2000000000000000000 ∧ l.natAbs ≤ 2000000000000000000 ∧ h ≤ 2770827000000000 ∧ k ≤ 2770827000000000 ∧ ∀ m : Rat, MoS φ c ((u : Rat) * (v : Rat)⁻¹) e m ↔ m * (h : Rat) ≤ (g : Rat) ∧ (l : Rat) ≤ m * (k : Rat) := by
  have hL := hM.2.2.1
  have hw2 := w.2.1
  have hst := (w.2.2.2.1 (e / 2) (by omega)).2.2.2.2
  obtain ⟨Q, R, ST, WW, hA, hs⟩ := CA_ex hB
  have hF := fun m => MoS_list hM hA hs c ((u : Rat) * (v : Rat)⁻¹) he m
  obtain ⟨S, hS⟩ : ∃ S, S = φ.1 5 (e / 2) := ⟨_, rfl⟩
  have key : ∀ (j t n : Nat) (s : ZS), t + j = L.length → j + 1 ≤ n → fr9 σ s → (∃ g h l k : Int, Fq s 9 g h ∧ Fq s 10 l k ∧ 0 < h ∧ 0 < k ∧ g.natAbs ≤ 2000000000000000000 ∧ l.natAbs ≤ 2000000000000000000 ∧ h ≤ 2770827000000000 ∧ k ≤ 2770827000000000 ∧ ∀ m : Rat, (ab m ≤ (S : Rat) ∧ ∀ i, i < t → cm φ c ((u : Rat) * (v : Rat)⁻¹) e m (Q i)) ↔ m * (h : Rat) ≤ (g : Rat) ∧ (l : Rat) ≤ m * (k : Rat)) → ∃ τ g h l k, f_X0_findMoments_h32 N (nt (e : Nat)) (nt S) n (nt (t : Nat)) s = some ((), τ) ∧ fr9 σ τ ∧ Fq τ 9 g h ∧ Fq τ 10 l k ∧ 0 < h ∧ 0 < k ∧ g.natAbs ≤ 2000000000000000000 ∧ l.natAbs ≤ 2000000000000000000 ∧ h ≤ 2770827000000000 ∧ k ≤ 2770827000000000 ∧ ∀ m : Rat, MoS φ c ((u : Rat) * (v : Rat)⁻¹) e m ↔ m * (h : Rat) ≤ (g : Rat) ∧ (l : Rat) ≤ m * (k : Rat) := by
    intro j
    induction j with
    | zero =>
      intro t n s ht hn hfr hI
      obtain rfl : t = L.length := by omega
      obtain ⟨n, rfl⟩ : ∃ m, n = m + 1 := ⟨n - 1, by omega⟩
      obtain ⟨g, h, l, k, q1, q2, q3, q4, q5, q6, q7, q8, q9⟩ := hI
      have g63 : gI s 6 3 = nt ((L.length : Nat) : Int) := by unfold gI; rw [hfr.1]; exact hM.2.2.2.1
      refine ⟨s, g, h, l, k, ?_, hfr, q1, q2, q3, q4, q5, q6, q7, q8, fun m => (hF m).trans (by rw [← hS]; exact q9 m)⟩
      rw [f_X0_findMoments_h32, g63, le_t (by omega) (by omega) (by omega)]
    | succ j ih =>
      intro t n s ht hn hfr hI
      obtain ⟨n, rfl⟩ : ∃ m, n = m + 1 := ⟨n - 1, by omega⟩
      obtain ⟨g, h, l, k, q1, q2, q3, q4, q5, q6, q7, q8, q9⟩ := hI
      have g63 : gI s 6 3 = nt ((L.length : Nat) : Int) := by unfold gI; rw [hfr.1]; exact hM.2.2.2.1
      obtain ⟨sm, hw0⟩ := hA t (by omega)
      have hw := CW_fr9 hw0 hfr
      have hlw := s_limitWork (N := N) (k := t) (by omega) hc hw (LmL_9 hl hfr)
      have hcm := fun m => cm_iff w hc hw (u := u) hl.2.2.2.1 he m
      obtain ⟨hr1, hr2, _, _, _, ⟨hst1, hst2, hst3, hst4⟩, hW⟩ := hw
      have hrb := hr2.2.2.2.1 e (by unfold wd; omega)
      obtain ⟨_, _, b3⟩ := hW c hc
      obtain ⟨_, _, c3⟩ := hW 0 (by omega)
      have hbT := lw_bd c3 b3 ⟨hl.2.2.2.1, hl.2.2.2.2.1⟩ hl.2.2.2.2.2
      have hv := hl.2.2.2
      rw [← hS] at hst hcm
      generalize WW t 0 * v + WW t c * u = T at *
      obtain ⟨x, hx⟩ : ∃ x, x = R t e := ⟨_, rfl⟩
      rw [← hx] at hcm hrb
      have hrow : gJ s (143 + t) e = jl x := by rw [hx]; exact hr1 e (by unfold wd; omega)
      have m1 := mul_bd (a := S) (A := 12) (b := (x.natAbs : Int)) (B := 6291456) (by omega) (by omega)
      have m2 := mul_bd (a := ST t - S * (x.natAbs : Int)) (A := 981467136) (b := v) (B := 440401920) (by omega) (by omega)
      have m3 := mul_bd (a := (x.natAbs : Int)) (A := 6291456) (b := v) (B := 440401920) (by omega) (by omega)
      have hb144 : ∀ s' : ZS, f_X0_findMoments_b144 N (fun x3_ σ_ => f_X0_findMoments_h32 N (nt (e : Nat)) (nt S) n x3_ σ_) (nt (e : Nat)) (nt S) (nt (t : Nat)) s' = f_X0_findMoments_h32 N (nt (e : Nat)) (nt S) n (nt ((t + 1 : Nat) : Int)) s' := fun s' => by
        rw [f_X0_findMoments_b144, n_1, nt_add, bd_eq]; rfl
      have hsplit : ∀ m : Rat, (ab m ≤ (S : Rat) ∧ ∀ i, i < t + 1 → cm φ c ((u : Rat) * (v : Rat)⁻¹) e m (Q i)) ↔ (ab m ≤ (S : Rat) ∧ ∀ i, i < t → cm φ c ((u : Rat) * (v : Rat)⁻¹) e m (Q i)) ∧ cm φ c ((u : Rat) * (v : Rat)⁻¹) e m (Q t) := fun m => by
        refine ⟨fun h => ⟨⟨h.1, fun i hi => h.2 i (by omega)⟩, h.2 t (by omega)⟩, fun h => ⟨h.1.1, fun i hi => ?_⟩⟩
        by_cases a : i = t
        · subst a; exact h.2
        · exact h.1.2 i (by omega)
      have htw : f_X3_twistOf N (nt (t : Nat)) (nt (e : Nat)) s = some (jl x, s) := by
        unfold f_X3_twistOf
        rw [ck_inb (by omega) (by omega) (by omega), nat_k (by omega), ck_tg (tg_mot (by omega)), ln_mot (by omega), ck_inb (by omega) (by omega) (by omega), nat_k (by omega), hrow]
      rw [f_X0_findMoments_h32, g63, le_f (by omega) (by omega) (by omega), htw, obd_some, hb144, j_0]
      by_cases ez : x = 0
      · rw [jeq_t ez]
        refine ih (t + 1) n s (by omega) (by omega) hfr ⟨g, h, l, k, q1, q2, q3, q4, q5, q6, q7, q8, fun m => ?_⟩
        rw [hsplit, ← q9 m]
        exact ⟨fun h => h.1, fun h => ⟨h, (hcm m).mpr (fun w => absurd ez w)⟩⟩
      · have hxa : (if x < 0 then -x else x) = (x.natAbs : Int) := by split <;> omega
        have g711 : ∀ s' : ZS, fr9 σ s' → gJ s' 7 11 = jl v := fun s' hf => (LmL_9 hl hf).2.2.1
        rw [jeq_f ez (by omega) (by omega) (by omega) (by omega), s_ABS N x ⟨by omega, by omega⟩, obd_some, hxa, ck_inb (by omega) (by omega) (by omega), nat_k (by omega), hst1, long_nt (by omega) (by omega), jl_mul, jl_sub, g711 s hfr, jl_mul, bd_eq, hlw]
        have hsz : 0 < (x.natAbs : Int) * v := Int.mul_pos (by omega) (by omega)
        have key2 : ∀ T' : Int, T' = (if x < 0 then -T else T) → ∃ τ g h l k, f_X0_findMoments_b108 N (fun x3_ σ_ => f_X0_findMoments_h32 N (nt (e : Nat)) (nt S) n x3_ σ_) (nt (e : Nat)) (nt S) (nt (t : Nat)) (jl (x.natAbs : Int)) (jl ((ST t - S * (x.natAbs : Int)) * v)) (jl T') s = some ((), τ) ∧ fr9 σ τ ∧ Fq τ 9 g h ∧ Fq τ 10 l k ∧ 0 < h ∧ 0 < k ∧ g.natAbs ≤ 2000000000000000000 ∧ l.natAbs ≤ 2000000000000000000 ∧ h ≤ 2770827000000000 ∧ k ≤ 2770827000000000 ∧ ∀ m : Rat, MoS φ c ((u : Rat) * (v : Rat)⁻¹) e m ↔ m * (h : Rat) ≤ (g : Rat) ∧ (l : Rat) ≤ m * (k : Rat) := by
          intro T' hT'
          have hTb : T'.natAbs ≤ 792446074781564928 := by rw [hT']; split <;> omega
          rw [← hT'] at hcm
          obtain ⟨o, ho⟩ : ∃ o, o = (ST t - S * (x.natAbs : Int)) * v := ⟨_, rfl⟩
          obtain ⟨z, hz⟩ : ∃ z, z = (x.natAbs : Int) * v := ⟨_, rfl⟩
          rw [← ho, ← hz] at hcm
          rw [← ho] at m2 ⊢
          rw [← hz] at m3 hsz
          unfold f_X0_findMoments_b108
          obtain ⟨s1, e1, e2, e3, e4⟩ := s_lower0 (N := N) (by omega) (σ := s) (n := T' + o) (d := z) q1 ⟨by omega, by omega⟩ hsz ⟨by omega, by omega⟩ ⟨by omega, by omega⟩ q3 ⟨by omega, by omega⟩
          rw [g711 s hfr, jl_mul, jl_add, ← hz, n_0, e1, obd_some]
          obtain ⟨s2, f1, f2, f3, f4⟩ := s_raise0 (N := N) (by omega) (σ := s1) (n := T' - o) (d := z) (Fq_o q2 e3) ⟨by omega, by omega⟩ hsz ⟨by omega, by omega⟩ ⟨by omega, by omega⟩ q4 ⟨by omega, by omega⟩
          rw [g711 s1 (fr9_tr hfr e4), jl_mul, jl_sub, ← hz, f1, obd_some, hb144]
          refine ih (t + 1) n s2 (by omega) (by omega) (fr9_tr hfr (fr9_tr e4 f4)) ⟨_, _, _, _, Fq_o e2 f3, f2, ?_, ?_, ?_, ?_, ?_, ?_, fun m => ?_⟩
          · split <;> omega
          · split <;> omega
          · split <;> omega
          · split <;> omega
          · split <;> omega
          · split <;> omega
          · have hcm2 : cm φ c ((u : Rat) * (v : Rat)⁻¹) e m (Q t) ↔ m * (z : Rat) ≤ ((T' + o : Int) : Rat) ∧ ((T' - o : Int) : Rat) ≤ m * (z : Rat) := (hcm m).trans ⟨fun h => h ez, fun h _ => h⟩
            rw [hsplit, q9 m, hcm2]
            constructor
            · rintro ⟨⟨a1, a2⟩, a3, a4⟩
              refine ⟨?_, ?_⟩
              · split <;> assumption
              · split <;> assumption
            · rintro ⟨a1, a2⟩
              by_cases u1 : (T' + o) * h < g * z
              · rw [if_pos u1, if_pos u1] at a1
                by_cases u2 : l * z < (T' - o) * k
                · rw [if_pos u2, if_pos u2] at a2
                  exact ⟨⟨up_min hsz q3 m u1 a1, dn_max hsz q4 m u2 a2⟩, a1, a2⟩
                · rw [if_neg u2, if_neg u2] at a2
                  exact ⟨⟨up_min hsz q3 m u1 a1, a2⟩, a1, dn_max' hsz q4 m u2 a2⟩
              · rw [if_neg u1, if_neg u1] at a1
                by_cases u2 : l * z < (T' - o) * k
                · rw [if_pos u2, if_pos u2] at a2
                  exact ⟨⟨a1, dn_max hsz q4 m u2 a2⟩, up_min' hsz q3 m u1 a1, a2⟩
                · rw [if_neg u2, if_neg u2] at a2
                  exact ⟨⟨a1, a2⟩, up_min' hsz q3 m u1 a1, dn_max' hsz q4 m u2 a2⟩
        by_cases en : x < 0
        · rw [jlt_t en (by omega) (by omega), obd_some, jl_neg]
          exact key2 _ (by rw [if_pos en])
        · rw [jlt_f (by omega) (by omega) (by omega), obd_some]
          exact key2 _ (by rw [if_neg en])
  unfold f_X0_findMoments
  rw [n_2, nt_div ⟨by omega, by omega⟩ ⟨by omega, by omega⟩]
  have hdiv : ((e : Nat) : Int).tdiv 2 = ((e / 2 : Nat) : Int) := by
    rw [Int.tdiv_eq_ediv_of_nonneg (by omega)]; omega
  rw [hdiv, ck_inb (by omega) (by omega) (by omega), nat_k (by omega), hB.2.1 (e / 2) (by omega), ← hS, bd_eq]
  rw [← hS] at hst
  obtain ⟨s1, e1, e2, e3, e4⟩ := s_put (N := N) (σ := σ) (c := 9) (isc_f ⟨by omega, by omega⟩) (a := S) (b := 1) (by omega) ⟨by omega, by omega⟩
  obtain ⟨s2, f1, f2, f3, f4⟩ := s_put (N := N) (σ := s1) (c := 10) (isc_f ⟨by omega, by omega⟩) (a := -S) (b := 1) (by omega) ⟨by omega, by omega⟩
  rw [long_nt (by omega) (by omega), j_1, e1, obd_some, nt_neg, long_nt (by omega) (by omega), f1, obd_some]
  refine key L.length 0 N s2 (by omega) (by omega) ⟨f3.trans e3, fun d d1 d2 d3 => by rw [f4 d d2, e4 d d1]⟩ ⟨S, 1, -S, 1, Fq_o e2 (f4 9 (by omega)), f2, by omega, by omega, by omega, by omega, by omega, by omega, fun m => ?_⟩
  rw [ab_iff, Rat.intCast_neg, Rat.intCast_one, Rat.mul_one]
  constructor
  · rintro ⟨⟨a, b⟩, _⟩; constructor <;> grind
  · rintro ⟨a, b⟩
    refine ⟨by constructor <;> grind, fun i hi => by omega⟩
end
