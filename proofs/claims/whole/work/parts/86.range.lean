-- ===== the class: which factors a case has =====
section
variable {N : Nat} {φ : FR} {pi : Nat → Nat}
/-- all mechanisms' weights at once -/
def CA (φ : FR) (pi : Nat → Nat) (σ : ZS) (n : Nat) (Q : Nat → Nat → Rat) (R : Nat → Nat → Int) (ST : Nat → Int) (WW : Nat → Nat → Int) : Prop := ∀ k, k < n → ∃ s, CW φ pi σ k s (Q k) (R k) (ST k) (WW k)
theorem CA_ex {σ : ZS} {L : List Nat} (hB : CBl φ pi σ L) : ∃ Q R ST WW, CA φ pi σ L.length Q R ST WW ∧ ∀ k s, L[k]? = some s → s = mq φ (Q k) := by
  have h : ∀ k, k < L.length → ∃ (q : Nat → Rat) (r : Nat → Int) (St : Int) (W : Nat → Int), ∀ s, L[k]? = some s → CW φ pi σ k s q r St W := fun k hk => by
    obtain ⟨q, r, St, W, hw⟩ := hB.2.2 k _ (List.getElem?_eq_getElem hk)
    refine ⟨q, r, St, W, fun s hs => ?_⟩
    rw [List.getElem?_eq_getElem hk] at hs
    cases hs; exact hw
  refine ⟨fun k => if hk : k < L.length then Classical.choose (h k hk) else fun _ => 0, fun k => if hk : k < L.length then Classical.choose (Classical.choose_spec (h k hk)) else fun _ => 0, fun k => if hk : k < L.length then Classical.choose (Classical.choose_spec (Classical.choose_spec (h k hk))) else 0, fun k => if hk : k < L.length then Classical.choose (Classical.choose_spec (Classical.choose_spec (Classical.choose_spec (h k hk)))) else fun _ => 0, fun k hk => ?_, fun k s hs => ?_⟩
  · refine ⟨L[k], ?_⟩
    dsimp only
    rw [dif_pos hk, dif_pos hk, dif_pos hk, dif_pos hk]
    exact Classical.choose_spec (Classical.choose_spec (Classical.choose_spec (Classical.choose_spec (h k hk)))) _ (List.getElem?_eq_getElem hk)
  · have hk : k < L.length := (List.getElem?_eq_some_iff.mp hs).1
    dsimp only
    rw [dif_pos hk]
    exact (Classical.choose_spec (Classical.choose_spec (Classical.choose_spec (Classical.choose_spec (h k hk)))) s hs).2.2.2.1
def con (φ : FR) (c : Nat) (S : Nat → Int) (q : Nat → Rat) (f : Rat) : Prop := ab (dq (dd φ) (pq φ 0) q + f * dq (dd φ) (pq φ c) q) ≤ stn (dd φ) (Rq φ) (cS φ S) (2 * nb φ) q
theorem FS_con {σ : ZS} {L : List Nat} (hM : CMe φ pi σ L) {Q : Nat → Nat → Rat} {R : Nat → Nat → Int} {ST : Nat → Int} {WW : Nat → Nat → Int} (hA : CA φ pi σ L.length Q R ST WW) (hs : ∀ k s, L[k]? = some s → s = mq φ (Q k)) (c : Nat) (S : Nat → Int) (f : Rat) : FS φ c S f ↔ ∀ k, k < L.length → con φ c S (Q k) f := by
  constructor
  · intro h k hk
    obtain ⟨s, hw⟩ := hA k hk
    exact h _ hw.2.2.1
  · intro h q hq
    obtain ⟨k, s, hk, hs2⟩ := el_list hM hq
    have hkl : k < L.length := (List.getElem?_eq_some_iff.mp hk).1
    obtain ⟨s', hw⟩ := hA k hkl
    have h1 := h k hkl
    obtain ⟨l, hl⟩ := el_same hw.2.2.1 ((hs k s hk).symm.trans hs2)
    unfold con at h1
    rw [pq_mul hl, pq_mul hl, stn_mul hl]
    have e : l * dq (dd φ) (pq φ 0) (Q k) + f * (l * dq (dd φ) (pq φ c) (Q k)) = l * (dq (dd φ) (pq φ 0) (Q k) + f * dq (dd φ) (pq φ c) (Q k)) := by grind
    rw [e, ab_mul]
    exact Rat.mul_le_mul_of_nonneg_left h1 (ab_nn l)
/-- the strength of a bar, changed -/
def Sx (φ : FR) (b : Nat) (x : Int) : Nat → Int := fun k => if k = b then φ.1 5 k + x else φ.1 5 k
theorem res_eq (w : WF φ) {σ : ZS} {k s : Nat} {q : Nat → Rat} {r : Nat → Int} {St : Int} {W : Nat → Int} (hw : CW φ pi σ k s q r St W) {b : Nat} (hb : b < nb φ) (x : Int) : ((St + x * (((r (2 * b)).natAbs : Int) + ((r (2 * b + 1)).natAbs : Int)) : Int) : Rat) = stn (dd φ) (Rq φ) (cS φ (Sx φ b x)) (2 * nb φ) q := by
  have h1 := stn_S w (φ.1 5) hw.2.2.2.2.1
  have h2 := stn_S w (Sx φ b x) hw.2.2.2.2.1
  rw [h2]
  have h3 := hw.2.2.2.2.2.1.2.1
  rw [cq_S, h1] at h3
  have h4 := Rat.intCast_inj.mp h3
  congr 1
  rw [h4]
  have h5 : sZ (nb φ) (fun b' => Sx φ b x b' * (((r (2 * b')).natAbs : Int) + ((r (2 * b' + 1)).natAbs : Int))) = sZ (nb φ) (fun b' => φ.1 5 b' * (((r (2 * b')).natAbs : Int) + ((r (2 * b' + 1)).natAbs : Int))) + sZ (nb φ) (fun b' => if b' = b then x * (((r (2 * b')).natAbs : Int) + ((r (2 * b' + 1)).natAbs : Int)) else 0) := by
    rw [← sZ_add]
    refine sZ_congr (fun b' _ => ?_)
    unfold Sx
    by_cases q : b' = b
    · rw [if_pos q, if_pos q, Int.add_mul]
    · rw [if_neg q, if_neg q, Int.add_zero]
  rw [h5, sZ_one (f := fun b' => if b' = b then x * (((r (2 * b')).natAbs : Int) + ((r (2 * b' + 1)).natAbs : Int)) else 0) (k := b) hb (fun i _ hi => if_neg hi), if_pos rfl]
theorem con_iff {c : Nat} {S : Nat → Int} {q : Nat → Rat} {W0 Wc res : Int} (h0 : (W0 : Rat) = dq (dd φ) (pq φ 0) q) (hc : (Wc : Rat) = dq (dd φ) (pq φ c) q) (hr : (res : Rat) = stn (dd φ) (Rq φ) (cS φ S) (2 * nb φ) q) (f : Rat) : con φ c S q f ↔ f * (((Wc.natAbs : Int) : Int) : Rat) ≤ ((res - (if Wc < 0 then -W0 else W0) : Int) : Rat) ∧ ((-res - (if Wc < 0 then -W0 else W0) : Int) : Rat) ≤ f * (((Wc.natAbs : Int) : Int) : Rat) := by
  unfold con
  rw [← h0, ← hc, ← hr, ab_iff, Rat.intCast_sub, Rat.intCast_sub, Rat.intCast_neg]
  by_cases hn : Wc < 0
  · rw [if_pos hn, Rat.intCast_neg]
    have e : ((Wc.natAbs : Int) : Int) = -Wc := by omega
    rw [e, Rat.intCast_neg]
    constructor
    · rintro ⟨a, b⟩; constructor <;> grind
    · rintro ⟨a, b⟩; constructor <;> grind
  · rw [if_neg hn]
    have e : ((Wc.natAbs : Int) : Int) = Wc := by omega
    rw [e]
    constructor
    · rintro ⟨a, b⟩; constructor <;> grind
    · rintro ⟨a, b⟩; constructor <;> grind
theorem CW_fr9 {σ τ : ZS} {k s : Nat} {q : Nat → Rat} {r : Nat → Int} {St : Int} {W : Nat → Int} (h : CW φ pi σ k s q r St W) (f : fr9 σ τ) : CW φ pi τ k s q r St W :=
  CW_o h (f.2 _ (by omega) (by omega) (by omega)) (fun c _ => by unfold gJ; rw [f.2 _ (by omega) (by omega) (by omega)])
/-- what the class finds of a case -/
def RgO (φ : FR) (c : Nat) (S : Nat → Int) (τ : ZS) (rc : Int) : Prop := (rc = 2 ∧ ∀ f, ¬ FS φ c S f) ∨ (rc = 1 ∧ ∀ f, FS φ c S f) ∨ (rc = 0 ∧ ∃ g h l k : Int, Fq τ 9 g h ∧ Fq τ 10 l k ∧ Lim φ c S g h l k ∧ g.natAbs ≤ 1358954496 ∧ l.natAbs ≤ 1358954496 ∧ h ≤ 440401920 ∧ k ≤ 440401920)
theorem s_range (w : WF φ) (hN : 1200 ≤ N) {σ : ZS} {L : List Nat} (hM : CMe φ pi σ L) (hB : CBl φ pi σ L) {c b : Nat} (hc : 1 ≤ c ∧ c ≤ 2) (hb : L ≠ [] → b < nb φ) {x : Int} (hx : -11 ≤ x ∧ x ≤ 1) (hx0 : b < nb φ → 0 ≤ φ.1 5 b + x) : ∃ τ rc, f_X0_range N (nt (c : Nat)) (nt (b : Nat)) (nt x) σ = some (nt rc, τ) ∧ fr9 σ τ ∧ RgO φ c (Sx φ b x) τ rc := by
  have hL := hM.2.2.1
  obtain ⟨Q, R, ST, WW, hA, hs⟩ := CA_ex hB
  have hF := fun f => FS_con hM hA hs c (Sx φ b x) f
  unfold f_X0_range
  -- the state of the loop
  have key : ∀ (j t n : Nat) (bd : Bool) (s : ZS), t + j = L.length → j + 1 ≤ n → fr9 σ s → (bd = false → ∀ k, k < t → ∀ f, con φ c (Sx φ b x) (Q k) f) → (bd = true → ∃ g h l k : Int, Fq s 9 g h ∧ Fq s 10 l k ∧ 0 < h ∧ 0 < k ∧ (∀ f : Rat, (∀ i, i < t → con φ c (Sx φ b x) (Q i) f) ↔ f * (h : Rat) ≤ (g : Rat) ∧ (l : Rat) ≤ f * (k : Rat)) ∧ g.natAbs ≤ 1358954496 ∧ l.natAbs ≤ 1358954496 ∧ h ≤ 440401920 ∧ k ≤ 440401920) → ∃ τ rc, f_X0_range_h6 N (nt (c : Nat)) (nt (b : Nat)) (nt x) n (nt (if bd = true then 1 else 0)) (nt (t : Nat)) s = some (nt rc, τ) ∧ fr9 σ τ ∧ RgO φ c (Sx φ b x) τ rc := by
    intro j
    induction j with
    | zero =>
      intro t n bd s ht hn hfr h0 h1
      obtain rfl : t = L.length := by omega
      obtain ⟨n, rfl⟩ : ∃ m, n = m + 1 := ⟨n - 1, by omega⟩
      have g63 : gI s 6 3 = nt ((L.length : Nat) : Int) := by unfold gI; rw [hfr.1]; exact hM.2.2.2.1
      rw [f_X0_range_h6, g63, le_t (by omega) (by omega) (by omega), br_p]
      cases bd with
      | false =>
        rw [if_neg (by decide)]
        exact ⟨s, 1, rfl, hfr, Or.inr (Or.inl ⟨rfl, fun f => (hF f).mpr (fun k hk => h0 rfl k hk f)⟩)⟩
      | true =>
        rw [if_pos rfl]
        obtain ⟨g, h, l, k, q1, q2, q3, q4, q5, q6, q7, q8, q9⟩ := h1 rfl
        rw [s_isBelow (by omega) (isc_f ⟨by omega, by omega⟩) (isc_f ⟨by omega, by omega⟩) q1 q2 ⟨by omega, by omega⟩ ⟨by omega, by omega⟩ ⟨by omega, by omega⟩ ⟨by omega, by omega⟩ q3 q4, obd_some, br_p]
        by_cases e : g * k < l * h
        · rw [if_pos e]
          refine ⟨s, 2, rfl, hfr, Or.inl ⟨rfl, fun f hf => ?_⟩⟩
          obtain ⟨a1, a2⟩ := (q5 f).mp ((hF f).mp hf)
          have b1 := Rat.mul_le_mul_of_nonneg_right a1 (Rat.le_of_lt (q_pos.mpr q4))
          have b2 := Rat.mul_le_mul_of_nonneg_right a2 (Rat.le_of_lt (q_pos.mpr q3))
          have b3 : ((g * k : Int) : Rat) < ((l * h : Int) : Rat) := Rat.intCast_lt_intCast.mpr e
          rw [Rat.intCast_mul, Rat.intCast_mul] at b3
          grind
        · rw [if_neg e]
          exact ⟨s, 0, rfl, hfr, Or.inr (Or.inr ⟨rfl, g, h, l, k, q1, q2, ⟨q3, q4, fun f => (hF f).trans (q5 f), by omega⟩, q6, q7, q8, q9⟩)⟩
    | succ j ih =>
      intro t n bd s ht hn hfr h0 h1
      obtain ⟨n, rfl⟩ : ∃ m, n = m + 1 := ⟨n - 1, by omega⟩
      have g63 : gI s 6 3 = nt ((L.length : Nat) : Int) := by unfold gI; rw [hfr.1]; exact hM.2.2.2.1
      have htl : t < L.length := by omega
      have hbn := hb (fun q => by rw [q] at htl; simp at htl)
      obtain ⟨sm, hw0⟩ := hA t htl
      have hw := CW_fr9 hw0 hfr
      obtain ⟨hr1, hr2, _, _, _, ⟨hst1, hst2, hst3, hst4⟩, hW⟩ := hw
      have hrb := hr2.2.2.2.1
      have hre := res_eq w hw0 hbn x
      obtain ⟨W0, hW0⟩ : ∃ W0, W0 = WW t 0 := ⟨_, rfl⟩
      obtain ⟨Wc, hWc⟩ : ∃ Wc, Wc = WW t c := ⟨_, rfl⟩
      obtain ⟨w01, w02, w03⟩ := hW 0 (by omega)
      obtain ⟨wc1, wc2, wc3⟩ := hW c (by omega)
      rw [← hW0] at w01 w02 w03
      rw [← hWc] at wc1 wc2 wc3
      have h2b := hrb (2 * b) (by unfold wd; omega)
      have h2b1 := hrb (2 * b + 1) (by unfold wd; omega)
      obtain ⟨bend, hbend⟩ : ∃ bend : Int, bend = ((R t (2 * b)).natAbs : Int) + ((R t (2 * b + 1)).natAbs : Int) := ⟨_, rfl⟩
      obtain ⟨res, hres⟩ : ∃ res, res = ST t + x * bend := ⟨_, rfl⟩
      rw [← hbend, ← hres] at hre
      have hxb1 : -11 * 12582912 ≤ x * bend := by
        have h1 : -11 * bend ≤ x * bend := Int.mul_le_mul_of_nonneg_right hx.1 (by omega)
        omega
      have hxb2 : x * bend ≤ 12582912 := by
        have h1 : x * bend ≤ 1 * bend := Int.mul_le_mul_of_nonneg_right hx.2 (by omega)
        omega
      have hres0 : 0 ≤ res := by
        have h1 : (0 : Rat) ≤ (res : Rat) := by
          rw [hre]
          refine stn_nn (fun e he => ?_) _
          have hlen := len_rg w (b := e / 2) (by omega)
          unfold cS
          refine Rat.mul_nonneg (Rat.intCast_nonneg.mpr ?_) (Rat.le_of_lt (Rat.inv_pos.mpr (q_pos.mpr (by omega))))
          have h5 := (w.2.2.2.1 (e / 2) (by omega)).2.2.2.2.1
          unfold Sx
          split
          · rename_i q; rw [q]; exact hx0 hbn
          · omega
        exact Rat.intCast_nonneg.mp h1
      have hcon := fun f => con_iff (c := c) (S := Sx φ b x) w02 wc2 hre f
      obtain ⟨st, hstd⟩ : ∃ st : Int, st = if Wc < 0 then -W0 else W0 := ⟨_, rfl⟩
      have hstb : st.natAbs ≤ 440401920 := by rw [hstd]; split <;> omega
      rw [← hstd] at hcon
      have hb159 : ∀ (bb : Int) (s' : ZS), f_X0_range_b159 N (fun x4_ x5_ σ_ => f_X0_range_h6 N (nt (c : Nat)) (nt (b : Nat)) (nt x) n x4_ x5_ σ_) (nt (c : Nat)) (nt (b : Nat)) (nt x) (nt bb) (nt (t : Nat)) s' = f_X0_range_h6 N (nt (c : Nat)) (nt (b : Nat)) (nt x) n (nt bb) (nt ((t + 1 : Nat) : Int)) s' := fun bb s' => by
        rw [f_X0_range_b159, n_1, nt_add, bd_eq]; rfl
      -- this mechanism's part
      have h91 : ∃ τ rc, f_X0_range_b91 N (fun x4_ x5_ σ_ => f_X0_range_h6 N (nt (c : Nat)) (nt (b : Nat)) (nt x) n x4_ x5_ σ_) (nt (c : Nat)) (nt (b : Nat)) (nt x) (nt (if bd = true then 1 else 0)) (nt (t : Nat)) (jl res) (jl (Wc.natAbs : Int)) (jl st) s = some (nt rc, τ) ∧ fr9 σ τ ∧ RgO φ c (Sx φ b x) τ rc := by
        unfold f_X0_range_b91
        by_cases ez : Wc = 0
        · rw [j_0, jeq_t (by omega), s_ABS N st ⟨by omega, by omega⟩, obd_some]
          have hsta : (if st < 0 then -st else st) = (st.natAbs : Int) := by split <;> omega
          rw [hsta]
          have hall : ∀ f, con φ c (Sx φ b x) (Q t) f ↔ (st.natAbs : Int) ≤ res := fun f => by
            rw [hcon f, ez]
            have z : ((((0 : Int).natAbs : Int) : Int) : Rat) = 0 := rfl
            rw [z, Rat.mul_zero]
            constructor
            · rintro ⟨a1, a2⟩
              have a1 : ((0 : Int) : Rat) ≤ ((res - st : Int) : Rat) := a1
              have a2 : ((-res - st : Int) : Rat) ≤ ((0 : Int) : Rat) := a2
              have a1 := q_le.mp a1
              have a2 := q_le.mp a2
              omega
            · intro h
              refine ⟨?_, ?_⟩
              · show ((0 : Int) : Rat) ≤ ((res - st : Int) : Rat)
                exact q_le.mpr (by omega)
              · show ((-res - st : Int) : Rat) ≤ ((0 : Int) : Rat)
                exact q_le.mpr (by omega)
          by_cases ee : res < (st.natAbs : Int)
          · rw [jlt_t ee (by omega) (by omega)]
            refine ⟨s, 2, rfl, hfr, Or.inl ⟨rfl, fun f hf => ?_⟩⟩
            have := (hall f).mp ((hF f).mp hf t htl)
            omega
          · rw [jlt_f (by omega) (by omega) (by omega), hb159]
            refine ih (t + 1) n bd s (by omega) (by omega) hfr (fun q k hk f => ?_) (fun q => ?_)
            · by_cases a : k = t
              · subst a; exact (hall f).mpr (by omega)
              · exact h0 q k (by omega) f
            · obtain ⟨g, h, l, k, q1, q2, q3, q4, q5, q6⟩ := h1 q
              refine ⟨g, h, l, k, q1, q2, q3, q4, fun f => ?_, q6⟩
              rw [← q5 f]
              refine ⟨fun h i hi => h i (by omega), fun h i hi => ?_⟩
              by_cases a : i = t
              · subst a; exact (hall f).mpr (by omega)
              · exact h i (by omega)
        · have hoc : 0 < (Wc.natAbs : Int) := by omega
          rw [j_0, jeq_f (by omega) (by omega) (by omega) (by omega) (by omega), br_p]
          have hb124 : ∀ sure : Int, f_X0_range_b124 N (fun x4_ x5_ σ_ => f_X0_range_h6 N (nt (c : Nat)) (nt (b : Nat)) (nt x) n x4_ x5_ σ_) (nt (c : Nat)) (nt (b : Nat)) (nt x) (nt (if bd = true then 1 else 0)) (nt (t : Nat)) (jl res) (jl (Wc.natAbs : Int)) (jl st) (nt sure) s = obd (f_X0_lower N (nt sure) (jl (res - st)) (jl (Wc.natAbs : Int)) s) fun _ σ25 => (if bd = true then f_X0_range_b145 N (fun x4_ x5_ σ_ => f_X0_range_h6 N (nt (c : Nat)) (nt (b : Nat)) (nt x) n x4_ x5_ σ_) (nt (c : Nat)) (nt (b : Nat)) (nt x) (nt (t : Nat)) (jl res) (jl (Wc.natAbs : Int)) (jl st) (nt 0) σ25 else f_X0_range_b145 N (fun x4_ x5_ σ_ => f_X0_range_h6 N (nt (c : Nat)) (nt (b : Nat)) (nt x) n x4_ x5_ σ_) (nt (c : Nat)) (nt (b : Nat)) (nt x) (nt (t : Nat)) (jl res) (jl (Wc.natAbs : Int)) (jl st) (nt 1) σ25) := fun sure => by
            rw [f_X0_range_b124, jl_sub]
            congr 1
            funext _ σ25
            rw [br_p]; rfl
          have hb145 : ∀ (sure : Int) (s' : ZS), f_X0_range_b145 N (fun x4_ x5_ σ_ => f_X0_range_h6 N (nt (c : Nat)) (nt (b : Nat)) (nt x) n x4_ x5_ σ_) (nt (c : Nat)) (nt (b : Nat)) (nt x) (nt (t : Nat)) (jl res) (jl (Wc.natAbs : Int)) (jl st) (nt sure) s' = obd (f_X0_raise N (nt sure) (jl (-res - st)) (jl (Wc.natAbs : Int)) s') fun _ σ28 => f_X0_range_h6 N (nt (c : Nat)) (nt (b : Nat)) (nt x) n (nt 1) (nt ((t + 1 : Nat) : Int)) σ28 := fun sure s' => by
            rw [f_X0_range_b145, jl_neg, jl_sub]
            congr 1
            funext _ σ28
            exact hb159 1 σ28
          cases bd with
          | false =>
            rw [if_neg (by decide)]
            have hb1 := hb124 1
            rw [if_neg (by decide)] at hb1
            have hb1 : f_X0_range_b124 N (fun x4_ x5_ σ_ => f_X0_range_h6 N (nt (c : Nat)) (nt (b : Nat)) (nt x) n x4_ x5_ σ_) (nt (c : Nat)) (nt (b : Nat)) (nt x) (nt (if false = true then 1 else 0)) (nt (t : Nat)) (jl res) (jl (Wc.natAbs : Int)) (jl st) (1 : Int32) s = _ := hb124 1
            rw [hb1]
            obtain ⟨s1, e1, e2, e3, e4⟩ := s_lower1 (N := N) (σ := s) (n := res - st) hoc ⟨by omega, by omega⟩
            rw [e1, obd_some, if_neg (by decide), hb145]
            obtain ⟨s2, f1, f2, f3, f4⟩ := s_raise1 (N := N) (σ := s1) (n := -res - st) hoc ⟨by omega, by omega⟩
            rw [f1, obd_some]
            refine ih (t + 1) n true s2 (by omega) (by omega) (fr9_tr hfr (fr9_tr e4 f4)) (fun q => by cases q) (fun _ => ⟨res - st, (Wc.natAbs : Int), -res - st, (Wc.natAbs : Int), Fq_o e2 f3, f2, hoc, hoc, fun f => ?_, by omega, by omega, by omega, by omega⟩)
            rw [← hcon f]
            refine ⟨fun h => h t (by omega), fun h i hi => ?_⟩
            by_cases a : i = t
            · subst a; exact h
            · exact h0 rfl i (by omega) f
          | true =>
            rw [if_pos rfl]
            have hb1 : f_X0_range_b124 N (fun x4_ x5_ σ_ => f_X0_range_h6 N (nt (c : Nat)) (nt (b : Nat)) (nt x) n x4_ x5_ σ_) (nt (c : Nat)) (nt (b : Nat)) (nt x) (nt (if true = true then 1 else 0)) (nt (t : Nat)) (jl res) (jl (Wc.natAbs : Int)) (jl st) (0 : Int32) s = _ := hb124 0
            rw [hb1]
            obtain ⟨g, h, l, k, q1, q2, q3, q4, q5, q6, q7, q8, q9⟩ := h1 rfl
            obtain ⟨s1, e1, e2, e3, e4⟩ := s_lower0 (N := N) (by omega) (σ := s) (n := res - st) q1 ⟨by omega, by omega⟩ hoc ⟨by omega, by omega⟩ ⟨by omega, by omega⟩ q3 ⟨by omega, by omega⟩
            rw [e1, obd_some, if_pos rfl, hb145]
            obtain ⟨s2, f1, f2, f3, f4⟩ := s_raise0 (N := N) (by omega) (σ := s1) (n := -res - st) (Fq_o q2 e3) ⟨by omega, by omega⟩ hoc ⟨by omega, by omega⟩ ⟨by omega, by omega⟩ q4 ⟨by omega, by omega⟩
            rw [f1, obd_some]
            refine ih (t + 1) n true s2 (by omega) (by omega) (fr9_tr hfr (fr9_tr e4 f4)) (fun q => by cases q) (fun _ => ⟨_, _, _, _, Fq_o e2 f3, f2, ?_, ?_, fun f => ?_, ?_, ?_, ?_, ?_⟩)
            · split <;> omega
            · split <;> omega
            · have hsplit : (∀ i, i < t + 1 → con φ c (Sx φ b x) (Q i) f) ↔ (∀ i, i < t → con φ c (Sx φ b x) (Q i) f) ∧ con φ c (Sx φ b x) (Q t) f := by
                refine ⟨fun h => ⟨fun i hi => h i (by omega), h t (by omega)⟩, fun h i hi => ?_⟩
                by_cases a : i = t
                · subst a; exact h.2
                · exact h.1 i (by omega)
              rw [hsplit, q5 f, hcon f]
              constructor
              · rintro ⟨⟨a1, a2⟩, a3, a4⟩
                refine ⟨?_, ?_⟩
                · split <;> assumption
                · split <;> assumption
              · rintro ⟨a1, a2⟩
                by_cases u1 : (res - st) * h < g * (Wc.natAbs : Int)
                · rw [if_pos u1, if_pos u1] at a1
                  by_cases u2 : l * (Wc.natAbs : Int) < (-res - st) * k
                  · rw [if_pos u2, if_pos u2] at a2
                    exact ⟨⟨up_min hoc q3 f u1 a1, dn_max hoc q4 f u2 a2⟩, a1, a2⟩
                  · rw [if_neg u2, if_neg u2] at a2
                    exact ⟨⟨up_min hoc q3 f u1 a1, a2⟩, a1, dn_max' hoc q4 f u2 a2⟩
                · rw [if_neg u1, if_neg u1] at a1
                  by_cases u2 : l * (Wc.natAbs : Int) < (-res - st) * k
                  · rw [if_pos u2, if_pos u2] at a2
                    exact ⟨⟨a1, dn_max hoc q4 f u2 a2⟩, up_min' hoc q3 f u1 a1, a2⟩
                  · rw [if_neg u2, if_neg u2] at a2
                    exact ⟨⟨a1, a2⟩, up_min' hoc q3 f u1 a1, dn_max' hoc q4 f u2 a2⟩
            · split <;> omega
            · split <;> omega
            · split <;> omega
            · split <;> omega
      have hgc : ∀ s' : ZS, s' = s → gJ s' (62 + c) t = jl Wc ∧ gJ s' 62 t = jl W0 ∧ gJ s' 61 t = jl (ST t) := fun s' h => by rw [h]; exact ⟨wc1, w01, hst1⟩
      rw [f_X0_range_h6, g63, le_f (by omega) (by omega) (by omega), ck_inb (by omega) (by omega) (by omega), s_bend w (by omega) hbn hr1 hrb, obd_some, nat_k (by omega), nat_k (by omega), hst1, long_nt (by omega) (by omega), jl_mul, jl_add, bd_eq, ck_inb (by omega) (by omega) (by omega), ck_tg (tg_work (by omega)), ln_work (by omega), ck_inb (by omega) (by omega) (by omega), wc1, s_ABS N Wc ⟨by omega, by omega⟩, obd_some, ck_inb (by omega) (by omega) (by omega), ck_tg (tg_work (by omega)), ck_inb (by omega) (by omega) (by omega), wc1]
      have hna : (if Wc < 0 then -Wc else Wc) = (Wc.natAbs : Int) := by split <;> omega
      rw [hna, ← hbend, ← hres, j_0]
      have i0 : ∀ (y : Option (Int32 × ZS)), ck (inb (0 : Int32) 3) (ck (tg (62 + (0 : Int32).toNatClampNeg) == 2) (ck (inb (nt (t : Nat)) (ln (62 + (0 : Int32).toNatClampNeg))) y)) = y := fun y => by
        rw [ck_of (show inb (0 : Int32) 3 = true by decide), show (62 + (0 : Int32).toNatClampNeg) = 62 + 0 from rfl, ck_tg (tg_work (by omega)), ln_work (by omega), ck_inb (by omega) (by omega) (by omega)]
      rw [i0, i0]
      have w00 : gJ s (62 + (0 : Int32).toNatClampNeg) t = jl W0 := w01
      rw [w00]
      by_cases en : Wc < 0
      · rw [jlt_t en (by omega) (by omega), jl_neg]
        rw [if_pos en] at hstd
        rw [← hstd]
        exact h91
      · rw [jlt_f (by omega) (by omega) (by omega)]
        rw [if_neg en] at hstd
        rw [← hstd]
        exact h91
  have k0 := key L.length 0 N false σ (by omega) (by omega) (fr9_rf σ) (fun _ k hk => by omega) (fun q => by cases q)
  exact k0
end
