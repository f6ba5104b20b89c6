-- ===== the class's limits =====
/-- capacities by some strengths -/
noncomputable def cS (φ : FR) (S : Nat → Int) (e : Nat) : Rat := (S (e / 2) : Rat) * ((lenB φ (e / 2) : Int) : Rat)⁻¹
theorem cq_S (φ : FR) : cq φ = cS φ (φ.1 5) := rfl
/-- a case's factor is borne by all elementary motions -/
def FS (φ : FR) (c : Nat) (S : Nat → Int) (f : Rat) : Prop := ∀ q, ElF φ q → ab (dq (dd φ) (pq φ 0) q + f * dq (dd φ) (pq φ c) q) ≤ stn (dd φ) (Rq φ) (cS φ S) (2 * nb φ) q
/-- the factors are those from l / k to g / h -/
def Lim (φ : FR) (c : Nat) (S : Nat → Int) (g h l k : Int) : Prop := 0 < h ∧ 0 < k ∧ (∀ f : Rat, FS φ c S f ↔ f * (h : Rat) ≤ (g : Rat) ∧ (l : Rat) ≤ f * (k : Rat)) ∧ l * h ≤ g * k
theorem q_le {a b : Int} : ((a : Int) : Rat) ≤ ((b : Int) : Rat) ↔ a ≤ b := Rat.intCast_le_intCast
theorem q_pos {a : Int} : (0 : Rat) < ((a : Int) : Rat) ↔ 0 < a := Rat.intCast_pos
theorem up_min {n d g h : Int} (hd : 0 < d) (hh : 0 < h) (f : Rat) (hlt : n * h < g * d) : f * (d : Rat) ≤ (n : Rat) → f * (h : Rat) ≤ (g : Rat) := by
  intro h1
  have hdq := q_pos.mpr hd
  have hhq := q_pos.mpr hh
  have h2 := Rat.mul_le_mul_of_nonneg_right h1 (Rat.le_of_lt hhq)
  have h3 : ((n * h : Int) : Rat) ≤ ((g * d : Int) : Rat) := q_le.mpr (by omega)
  rw [Rat.intCast_mul, Rat.intCast_mul] at h3
  refine Rat.le_of_mul_le_mul_right (c := (d : Rat)) ?_ hdq
  grind
theorem up_min' {n d g h : Int} (hd : 0 < d) (hh : 0 < h) (f : Rat) (hlt : ¬ n * h < g * d) : f * (h : Rat) ≤ (g : Rat) → f * (d : Rat) ≤ (n : Rat) := by
  intro h1
  have hdq := q_pos.mpr hd
  have hhq := q_pos.mpr hh
  have h2 := Rat.mul_le_mul_of_nonneg_right h1 (Rat.le_of_lt hdq)
  have h3 : ((g * d : Int) : Rat) ≤ ((n * h : Int) : Rat) := q_le.mpr (by omega)
  rw [Rat.intCast_mul, Rat.intCast_mul] at h3
  refine Rat.le_of_mul_le_mul_right (c := (h : Rat)) ?_ hhq
  grind
theorem dn_max {n d l k : Int} (hd : 0 < d) (hk : 0 < k) (f : Rat) (hlt : l * d < n * k) : (n : Rat) ≤ f * (d : Rat) → (l : Rat) ≤ f * (k : Rat) := by
  intro h1
  have hdq := q_pos.mpr hd
  have hkq := q_pos.mpr hk
  have h2 := Rat.mul_le_mul_of_nonneg_right h1 (Rat.le_of_lt hkq)
  have h3 : ((l * d : Int) : Rat) ≤ ((n * k : Int) : Rat) := q_le.mpr (by omega)
  rw [Rat.intCast_mul, Rat.intCast_mul] at h3
  refine Rat.le_of_mul_le_mul_right (c := (d : Rat)) ?_ hdq
  grind
theorem dn_max' {n d l k : Int} (hd : 0 < d) (hk : 0 < k) (f : Rat) (hlt : ¬ l * d < n * k) : (l : Rat) ≤ f * (k : Rat) → (n : Rat) ≤ f * (d : Rat) := by
  intro h1
  have hdq := q_pos.mpr hd
  have hkq := q_pos.mpr hk
  have h2 := Rat.mul_le_mul_of_nonneg_right h1 (Rat.le_of_lt hdq)
  have h3 : ((n * k : Int) : Rat) ≤ ((l * d : Int) : Rat) := q_le.mpr (by omega)
  rw [Rat.intCast_mul, Rat.intCast_mul] at h3
  refine Rat.le_of_mul_le_mul_right (c := (k : Rat)) ?_ hkq
  grind
section
variable {φ : FR} {pi : Nat → Nat}
/-- the strain for any strengths, by pairs of ends -/
theorem stn_S (w : WF φ) (S : Nat → Int) {r : Nat → Int} {q : Nat → Rat} (h : MotQ φ pi r q) : stn (dd φ) (Rq φ) (cS φ S) (2 * nb φ) q = ((sZ (nb φ) (fun b => S b * (((r (2 * b)).natAbs : Int) + ((r (2 * b + 1)).natAbs : Int))) : Int) : Rat) := by
  have hone : ∀ e, e < 2 * nb φ → cS φ S e * ab (dq (dd φ) (Rq φ e) q) = ((S (e / 2) * ((r e).natAbs : Int) : Int) : Rat) := fun e he => by
    have hl := len_q w (b := e / 2) (by omega)
    have hl2 := len_rg w (b := e / 2) (by omega)
    rw [← h.1 e he, ab_mul, ab_int, Rat.intCast_mul]
    have : ab ((lenB φ (e / 2) : Int) : Rat) = ((lenB φ (e / 2) : Int) : Rat) := ab_of (Rat.intCast_nonneg.mpr (by omega))
    rw [this]
    unfold cS
    have hi : ((lenB φ (e / 2) : Int) : Rat) * ((lenB φ (e / 2) : Int) : Rat)⁻¹ = 1 := Rat.mul_inv_cancel _ hl
    generalize ((lenB φ (e / 2) : Int) : Rat)⁻¹ = i at *
    generalize ((lenB φ (e / 2) : Int) : Rat) = l at *
    generalize (S (e / 2) : Rat) = s
    generalize (((r e).natAbs : Int) : Rat) = a
    have : s * i * (a * l) = s * a * (l * i) := by grind
    rw [this, hi, Rat.mul_one]
  have key : ∀ b, b ≤ nb φ → sQ (2 * b) (fun e => cS φ S e * ab (dq (dd φ) (Rq φ e) q)) = ((sZ b (fun b => S b * (((r (2 * b)).natAbs : Int) + ((r (2 * b + 1)).natAbs : Int))) : Int) : Rat) := by
    intro b
    induction b with
    | zero => intro _; rfl
    | succ b ih =>
      intro hb
      rw [show 2 * (b + 1) = 2 * b + 1 + 1 by omega, sQ_s, sQ_s, ih (by omega), sZ_s, hone (2 * b) (by omega), hone (2 * b + 1) (by omega), show 2 * b / 2 = b by omega, show (2 * b + 1) / 2 = b by omega, Rat.intCast_add, Rat.intCast_mul, Rat.intCast_mul, Rat.intCast_mul, Rat.intCast_add]
      grind
  exact key (nb φ) (Nat.le_refl _)
/-- all elementary motions are those of the list -/
theorem el_list {σ : ZS} {L : List Nat} (hM : CMe φ pi σ L) {q : Nat → Rat} (hq : ElF φ q) : ∃ k s : Nat, L[k]? = some s ∧ s = mq φ q := by
  have : mq φ q ∈ L := (hM.2.1 _).mpr ⟨q, hq, rfl⟩
  obtain ⟨k, hk⟩ := List.getElem?_of_mem this
  exact ⟨k, _, hk, rfl⟩
theorem el_same {q q' : Nat → Rat} (hq : ElF φ q) (h : mq φ q = mq φ q') : ∃ l : Rat, ∀ j, j < dd φ → q' j = l * q j := by
  refine hq.2 q' (fun e he h0 => ?_)
  apply Classical.byContradiction
  intro w
  have := (mq_bit φ q' he).mpr w
  rw [← h] at this
  exact (mq_bit φ q he).mp this h0
theorem stn_mul {S : Nat → Int} {q q' : Nat → Rat} {l : Rat} (h : ∀ j, j < dd φ → q' j = l * q j) : stn (dd φ) (Rq φ) (cS φ S) (2 * nb φ) q' = ab l * stn (dd φ) (Rq φ) (cS φ S) (2 * nb φ) q := by
  unfold stn
  rw [← sQ_mul]
  refine sQ_congr (fun e _ => ?_)
  have : dq (dd φ) (Rq φ e) q' = l * dq (dd φ) (Rq φ e) q := by rw [← dq_mul]; exact dq_congr (fun _ _ => rfl) h
  rw [this, ab_mul]; grind
theorem pq_mul {c : Nat} {q q' : Nat → Rat} {l : Rat} (h : ∀ j, j < dd φ → q' j = l * q j) : dq (dd φ) (pq φ c) q' = l * dq (dd φ) (pq φ c) q := by
  rw [← dq_mul]; exact dq_congr (fun _ _ => rfl) h
/-- the list's motions decide -/
theorem FS_list {σ : ZS} {L : List Nat} (hM : CMe φ pi σ L) (hB : CBl φ pi σ L) (c : Nat) (S : Nat → Int) (f : Rat) : FS φ c S f ↔ ∀ (k s : Nat) (q : Nat → Rat) (r : Nat → Int) (St : Int) (W : Nat → Int), L[k]? = some s → CW φ pi σ k s q r St W → ab (dq (dd φ) (pq φ 0) q + f * dq (dd φ) (pq φ c) q) ≤ stn (dd φ) (Rq φ) (cS φ S) (2 * nb φ) q := by
  constructor
  · intro h k s q r St W _ hw
    exact h q hw.2.2.1
  · intro h q hq
    obtain ⟨k, s, hk, hs⟩ := el_list hM hq
    obtain ⟨q', r, St, W, hw⟩ := hB.2.2 k s hk
    have h1 := h k s q' r St W hk hw
    obtain ⟨l, hl⟩ := el_same hw.2.2.1 (hw.2.2.2.1.symm.trans hs)
    rw [pq_mul hl, pq_mul hl, stn_mul hl]
    have e : l * dq (dd φ) (pq φ 0) q' + f * (l * dq (dd φ) (pq φ c) q') = l * (dq (dd φ) (pq φ 0) q' + f * dq (dd φ) (pq φ c) q') := by grind
    rw [e, ab_mul]
    exact Rat.mul_le_mul_of_nonneg_left h1 (ab_nn l)
end
section
variable {N : Nat} {φ : FR} {pi : Nat → Nat}
theorem isc_f {c : Nat} (h : 8 ≤ c ∧ c ≤ 12) : isc c 1 = true := by
  rcases (show c = 8 ∨ c = 9 ∨ c = 10 ∨ c = 11 ∨ c = 12 by omega) with rfl | rfl | rfl | rfl | rfl <;> decide
theorem s_put {σ : ZS} {c : Nat} (hc : isc c 1 = true) {a b : Int} (hb : 0 ≤ b) (hb2 : okJ b) : ∃ τ, f_X1_put N c (jl a) (jl b) σ = some ((), τ) ∧ Fq τ c a b ∧ τ.1 = σ.1 ∧ ∀ d, d ≠ c → τ.2 d = σ.2 d := by
  obtain ⟨b1, b2⟩ := hb2
  unfold f_X1_put f_X1_put_b13
  rw [j_0, jlt_f (by omega) (by omega) (by omega), ck_of hc, bd_eq, jlt_f (by omega) (by omega) (by omega), ck_of hc, bd_eq]
  refine ⟨_, rfl, ⟨?_, ?_⟩, rfl, fun d hd => ?_⟩
  · rw [gJ_sJ_k (by omega), gJ_sJ_at]
  · rw [gJ_sJ_at]
  · rw [sJ_o hd, sJ_o hd]
theorem s_fcopy {σ : ZS} {c d : Nat} (hc : isc c 1 = true) (hd : isc d 1 = true) {a b : Int} (h : Fq σ d a b) : ∃ τ, f_X1_copyFrom N c d σ = some ((), τ) ∧ Fq τ c a b ∧ τ.1 = σ.1 ∧ ∀ e, e ≠ c → τ.2 e = σ.2 e := by
  unfold f_X1_copyFrom
  rw [ck_of hd, h.1, bd_eq, ck_of hc, bd_eq, ck_of hd]
  have h1 : gJ (sJ σ c 0 (jl a)) d 1 = jl b := by rw [gJ_sJ_k (by omega)]; exact h.2
  rw [h1, bd_eq, ck_of hc, bd_eq]
  refine ⟨_, rfl, ⟨?_, ?_⟩, rfl, fun e he => by rw [sJ_o he, sJ_o he]⟩
  · rw [gJ_sJ_k (by omega), gJ_sJ_at]
  · rw [gJ_sJ_at]
theorem Fq_o {σ τ : ZS} {c : Nat} {a b : Int} (h : Fq σ c a b) (e : τ.2 c = σ.2 c) : Fq τ c a b := ⟨by unfold gJ; rw [e]; exact h.1, by unfold gJ; rw [e]; exact h.2⟩
/-- only the fractions greatest, least, candidate change -/
def fr9 (σ τ : ZS) : Prop := τ.1 = σ.1 ∧ ∀ d, d ≠ 9 → d ≠ 10 → d ≠ 11 → τ.2 d = σ.2 d
theorem fr9_rf (σ : ZS) : fr9 σ σ := ⟨rfl, fun _ _ _ _ => rfl⟩
theorem fr9_tr {a b c : ZS} (h : fr9 a b) (h2 : fr9 b c) : fr9 a c := ⟨h2.1.trans h.1, fun d d1 d2 d3 => (h2.2 d d1 d2 d3).trans (h.2 d d1 d2 d3)⟩
theorem s_lower1 {σ : ZS} {n d : Int} (hd : 0 < d) (hd2 : okJ d) : ∃ τ, f_X0_lower N (nt 1) (jl n) (jl d) σ = some ((), τ) ∧ Fq τ 9 n d ∧ τ.2 10 = σ.2 10 ∧ fr9 σ τ := by
  unfold f_X0_lower f_X0_lower_b28
  obtain ⟨s, e1, e2, e3, e4⟩ := s_put (N := N) (σ := σ) (c := 11) (isc_f ⟨by omega, by omega⟩) (a := n) (b := d) (by omega) hd2
  obtain ⟨τ, f1, f2, f3, f4⟩ := s_fcopy (N := N) (σ := s) (c := 9) (d := 11) (isc_f ⟨by omega, by omega⟩) (isc_f ⟨by omega, by omega⟩) e2
  rw [e1, obd_some, n_0, eq_f (by omega) (by omega) (by omega) (by omega) (by omega), f1, obd_some]
  exact ⟨τ, rfl, f2, by rw [f4 10 (by omega), e4 10 (by omega)], ⟨f3.trans e3, fun d d1 d2 d3 => by rw [f4 d d1, e4 d d3]⟩⟩
theorem s_raise1 {σ : ZS} {n d : Int} (hd : 0 < d) (hd2 : okJ d) : ∃ τ, f_X0_raise N (nt 1) (jl n) (jl d) σ = some ((), τ) ∧ Fq τ 10 n d ∧ τ.2 9 = σ.2 9 ∧ fr9 σ τ := by
  unfold f_X0_raise f_X0_raise_b28
  obtain ⟨s, e1, e2, e3, e4⟩ := s_put (N := N) (σ := σ) (c := 11) (isc_f ⟨by omega, by omega⟩) (a := n) (b := d) (by omega) hd2
  obtain ⟨τ, f1, f2, f3, f4⟩ := s_fcopy (N := N) (σ := s) (c := 10) (d := 11) (isc_f ⟨by omega, by omega⟩) (isc_f ⟨by omega, by omega⟩) e2
  rw [e1, obd_some, n_0, eq_f (by omega) (by omega) (by omega) (by omega) (by omega), f1, obd_some]
  exact ⟨τ, rfl, f2, by rw [f4 9 (by omega), e4 9 (by omega)], ⟨f3.trans e3, fun d d1 d2 d3 => by rw [f4 d d2, e4 d d3]⟩⟩
theorem s_lower0 (hN : 200 ≤ N) {σ : ZS} {n d g h : Int} (hg : Fq σ 9 g h) (hn : okJ n) (hd : 0 < d) (hd2 : okJ d) (hgo : okJ g) (hh : 0 < h) (hho : okJ h) : ∃ τ, f_X0_lower N (nt 0) (jl n) (jl d) σ = some ((), τ) ∧ Fq τ 9 (if n * h < g * d then n else g) (if n * h < g * d then d else h) ∧ τ.2 10 = σ.2 10 ∧ fr9 σ τ := by
  unfold f_X0_lower f_X0_lower_b28
  obtain ⟨s, e1, e2, e3, e4⟩ := s_put (N := N) (σ := σ) (c := 11) (isc_f ⟨by omega, by omega⟩) (a := n) (b := d) (by omega) hd2
  have hg2 : Fq s 9 g h := Fq_o hg (e4 9 (by omega))
  rw [e1, obd_some, n_0, eq_t rfl, s_isBelow hN (isc_f ⟨by omega, by omega⟩) (isc_f ⟨by omega, by omega⟩) e2 hg2 hn hd2 hgo hho hd hh, obd_some, n_0.symm, br_p]
  by_cases q : n * h < g * d
  · obtain ⟨τ, f1, f2, f3, f4⟩ := s_fcopy (N := N) (σ := s) (c := 9) (d := 11) (isc_f ⟨by omega, by omega⟩) (isc_f ⟨by omega, by omega⟩) e2
    rw [if_pos q, f1, obd_some, if_pos q, if_pos q]
    exact ⟨τ, rfl, f2, by rw [f4 10 (by omega), e4 10 (by omega)], ⟨f3.trans e3, fun d d1 d2 d3 => by rw [f4 d d1, e4 d d3]⟩⟩
  · rw [if_neg q, if_neg q, if_neg q]
    exact ⟨s, rfl, hg2, e4 10 (by omega), ⟨e3, fun d d1 d2 d3 => e4 d d3⟩⟩
theorem s_raise0 (hN : 200 ≤ N) {σ : ZS} {n d l k : Int} (hl : Fq σ 10 l k) (hn : okJ n) (hd : 0 < d) (hd2 : okJ d) (hlo : okJ l) (hk : 0 < k) (hko : okJ k) : ∃ τ, f_X0_raise N (nt 0) (jl n) (jl d) σ = some ((), τ) ∧ Fq τ 10 (if l * d < n * k then n else l) (if l * d < n * k then d else k) ∧ τ.2 9 = σ.2 9 ∧ fr9 σ τ := by
  unfold f_X0_raise f_X0_raise_b28
  obtain ⟨s, e1, e2, e3, e4⟩ := s_put (N := N) (σ := σ) (c := 11) (isc_f ⟨by omega, by omega⟩) (a := n) (b := d) (by omega) hd2
  have hl2 : Fq s 10 l k := Fq_o hl (e4 10 (by omega))
  rw [e1, obd_some, n_0, eq_t rfl, s_isBelow hN (isc_f ⟨by omega, by omega⟩) (isc_f ⟨by omega, by omega⟩) hl2 e2 hlo hko hn hd2 hk hd, obd_some, n_0.symm, br_p]
  by_cases q : l * d < n * k
  · obtain ⟨τ, f1, f2, f3, f4⟩ := s_fcopy (N := N) (σ := s) (c := 10) (d := 11) (isc_f ⟨by omega, by omega⟩) (isc_f ⟨by omega, by omega⟩) e2
    rw [if_pos q, f1, obd_some, if_pos q, if_pos q]
    exact ⟨τ, rfl, f2, by rw [f4 9 (by omega), e4 9 (by omega)], ⟨f3.trans e3, fun d d1 d2 d3 => by rw [f4 d d2, e4 d d3]⟩⟩
  · rw [if_neg q, if_neg q, if_neg q]
    exact ⟨s, rfl, hl2, e4 9 (by omega), ⟨e3, fun d d1 d2 d3 => e4 d d3⟩⟩
end
