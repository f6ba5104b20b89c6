-- ===== works and strains of the class's mechanisms =====
noncomputable def cq (φ : FR) (e : Nat) : Rat := (φ.1 5 (e / 2) : Rat) * ((lenB φ (e / 2) : Int) : Rat)⁻¹
noncomputable def pq (φ : FR) (c : Nat) : Nat → Rat := fun j => (pz φ c j : Rat)
/-- how a motion goes at a node one way -/
noncomputable def gq (φ : FR) (q : Nat → Rat) (v n : Nat) : Rat := if num φ v n < 0 then 0 else q (num φ v n).toNat
section
variable {φ : FR} {pi : Nat → Nat}
theorem dl_q (w : WF φ) (q : Nat → Rat) {v n : Nat} (hv : v < 3) (hn : n < nn φ) : sQ (dd φ) (fun j => ((dl (num φ v n) j : Int) : Rat) * q j) = gq φ q v n := by
  unfold gq
  rcases num_rg w hv hn with ⟨h, _⟩ | ⟨h, h2, _⟩
  · rw [if_pos (by omega)]
    exact sQ_zero (fun j _ => by rw [dl_neg (by omega), Rat.intCast_zero, Rat.zero_mul])
  · rw [if_neg (by omega), sQ_one (k := (num φ v n).toNat) (by omega) (fun j _ hne => by
      have : dl (num φ v n) j = 0 := if_neg (by omega)
      rw [this, Rat.intCast_zero, Rat.zero_mul])]
    have : dl (num φ v n) (num φ v n).toNat = 1 := if_pos (by omega)
    rw [this, Rat.intCast_one, Rat.one_mul]
theorem pq_q (w : WF φ) (c : Nat) (q : Nat → Rat) : dq (dd φ) (pq φ c) q = sQ (nn φ) (fun n => (φ.1 (6 + 2 * c) n : Rat) * gq φ q 0 n + (φ.1 (7 + 2 * c) n : Rat) * gq φ q 1 n) := by
  unfold dq pq pz
  rw [sQ_congr (n := dd φ) (g := fun j => sQ (nn φ) (fun n => (φ.1 (6 + 2 * c) n : Rat) * (((dl (num φ 0 n) j : Int) : Rat) * q j) + (φ.1 (7 + 2 * c) n : Rat) * (((dl (num φ 1 n) j : Int) : Rat) * q j))) (fun j _ => by
    rw [sZQ, ← sQ_mulr]
    exact sQ_congr (fun n _ => by rw [Rat.intCast_add, Rat.intCast_mul, Rat.intCast_mul]; grind)), sQ_comm]
  refine sQ_congr (fun n hn => ?_)
  rw [sQ_add, sQ_mul, sQ_mul, dl_q w q (by omega) hn, dl_q w q (by omega) hn]
theorem len_q (w : WF φ) {b : Nat} (hb : b < nb φ) : ((lenB φ b : Int) : Rat) ≠ 0 := fun q => by
  have := len_rg w hb
  have := q_0.mp q
  omega
theorem ab_int (a : Int) : ab (a : Rat) = ((a.natAbs : Int) : Rat) := by
  by_cases h : 0 ≤ a
  · rw [ab_of (Rat.intCast_nonneg.mpr h)]
    congr 1
    omega
  · rw [← ab_neg, ← Rat.intCast_neg, ab_of (Rat.intCast_nonneg.mpr (by omega))]
    congr 1
    omega
/-- the strain, by pairs of ends -/
theorem stn_r (w : WF φ) {r : Nat → Int} {q : Nat → Rat} (h : MotQ φ pi r q) : stn (dd φ) (Rq φ) (cq φ) (2 * nb φ) q = ((sZ (nb φ) (fun b => φ.1 5 b * (((r (2 * b)).natAbs : Int) + ((r (2 * b + 1)).natAbs : Int))) : Int) : Rat) := by
  have hone : ∀ e, e < 2 * nb φ → cq φ e * ab (dq (dd φ) (Rq φ e) q) = ((φ.1 5 (e / 2) * ((r e).natAbs : Int) : Int) : Rat) := fun e he => by
    have hl := len_q w (b := e / 2) (by omega)
    have hl2 := len_rg w (b := e / 2) (by omega)
    rw [← h.1 e he, ab_mul, ab_int, Rat.intCast_mul]
    have : ab ((lenB φ (e / 2) : Int) : Rat) = ((lenB φ (e / 2) : Int) : Rat) := ab_of (Rat.intCast_nonneg.mpr (by omega))
    rw [this]
    unfold cq
    have hi : ((lenB φ (e / 2) : Int) : Rat) * ((lenB φ (e / 2) : Int) : Rat)⁻¹ = 1 := Rat.mul_inv_cancel _ hl
    generalize ((lenB φ (e / 2) : Int) : Rat)⁻¹ = i at *
    generalize ((lenB φ (e / 2) : Int) : Rat) = l at *
    generalize (φ.1 5 (e / 2) : Rat) = s
    generalize (((r e).natAbs : Int) : Rat) = a
    have : s * i * (a * l) = s * a * (l * i) := by grind
    rw [this, hi, Rat.mul_one]
  have key : ∀ b, b ≤ nb φ → sQ (2 * b) (fun e => cq φ e * ab (dq (dd φ) (Rq φ e) q)) = ((sZ b (fun b => φ.1 5 b * (((r (2 * b)).natAbs : Int) + ((r (2 * b + 1)).natAbs : Int))) : Int) : Rat) := by
    intro b
    induction b with
    | zero => intro _; rfl
    | succ b ih =>
      intro hb
      rw [show 2 * (b + 1) = 2 * b + 1 + 1 by omega, sQ_s, sQ_s, ih (by omega), sZ_s, hone (2 * b) (by omega), hone (2 * b + 1) (by omega), show 2 * b / 2 = b by omega, show (2 * b + 1) / 2 = b by omega, Rat.intCast_add, Rat.intCast_mul, Rat.intCast_mul, Rat.intCast_mul, Rat.intCast_add]
      grind
  exact key (nb φ) (Nat.le_refl _)
end
/-- a mechanism of the class with its weights -/
def CW (φ : FR) (pi : Nat → Nat) (σ : ZS) (k s : Nat) (q : Nat → Rat) (r : Nat → Int) (St : Int) (W : Nat → Int) : Prop := Row σ (143 + k) (wd φ) r ∧ MotR φ pi r s ∧ ElF φ q ∧ s = mq φ q ∧ MotQ φ pi r q ∧ (gJ σ 61 k = jl St ∧ (St : Rat) = stn (dd φ) (Rq φ) (cq φ) (2 * nb φ) q ∧ 0 ≤ St ∧ St ≤ 905969664) ∧ ∀ c, c < 3 → gJ σ (62 + c) k = jl (W c) ∧ (W c : Rat) = dq (dd φ) (pq φ c) q ∧ (W c).natAbs ≤ 440401920
/-- all is weighed -/
def CBl (φ : FR) (pi : Nat → Nat) (σ : ZS) (L : List Nat) : Prop := gI σ 7 2 = nt ((nb φ : Nat) : Int) ∧ (∀ b, b < nb φ → gI σ 60 b = nt (φ.1 5 b)) ∧ ∀ k s, L[k]? = some s → ∃ q r St W, CW φ pi σ k s q r St W
section
variable {N : Nat} {φ : FR} {pi : Nat → Nat}
theorem s_bend (w : WF φ) {σ : ZS} {k b : Nat} (hk : k < 924) (hb : b < nb φ) {r : Nat → Int} (h : Row σ (143 + k) (wd φ) r) (hr : ∀ k, k < wd φ → (r k).natAbs ≤ 6291456) : f_X3_bend N (nt (k : Nat)) (nt (b : Nat)) σ = some (jl (((r (2 * b)).natAbs : Int) + ((r (2 * b + 1)).natAbs : Int)), σ) := by
  have hw2 := w.2.1
  have h1 := hr (2 * b) (by unfold wd; omega)
  have h2 := hr (2 * b + 1) (by unfold wd; omega)
  unfold f_X3_bend
  rw [ck_inb (by omega) (by omega) (by omega), nat_k (by omega), ck_tg (tg_mot hk), ln_mot hk, n_1, n_2, nt_mul, nt_add, ck_inb (by omega) (by omega) (by omega), nat_nt (by omega) (by omega), nat_nt (by omega) (by omega), show ((2 : Int) * (b : Nat)).toNat = 2 * b by omega, show ((2 : Int) * (b : Nat) + 1).toNat = 2 * b + 1 by omega, h (2 * b) (by unfold wd; omega), s_ABS N _ ⟨by omega, by omega⟩, obd_some, ck_inb (by omega) (by omega) (by omega), ck_tg (tg_mot hk), ck_inb (by omega) (by omega) (by omega), h (2 * b + 1) (by unfold wd; omega), s_ABS N _ ⟨by omega, by omega⟩, obd_some, jl_add]
  congr 3
  split <;> split <;> omega
theorem s_workOf (w : WF φ) (hN : 200 ≤ N) {σ : ZS} (hc : CFr σ 0 φ) {k c : Nat} (hk : k < 924) (hcc : c < 3) {r : Nat → Int} {q : Nat → Rat} (h : Row σ (143 + k) (wd φ) r) (hr : ∀ k, k < wd φ → (r k).natAbs ≤ 6291456) (hq : MotQ φ pi r q) (hS : CSh φ σ pi) (h5 : gI σ 5 5 = nt ((2 * nb φ : Nat) : Int)) : ∃ W : Int, f_X3_workOf N (nt (k : Nat)) (nt (c : Nat)) σ = some (jl W, σ) ∧ (W : Rat) = dq (dd φ) (pq φ c) q ∧ W.natAbs ≤ 440401920 := by
  have hw1 := w.1
  have hw2 := w.2.1
  have hds : ds φ ≤ 14 := cn_bd _ 14
  -- how nodes go
  obtain ⟨u, hu⟩ : ∃ u : Nat → Nat → Int, ∀ v n, v < 2 → n < nn φ → ((gI σ (57 + v) n = nt (-6) ∧ u v n = 0) ∨ ∃ i, i < ds φ ∧ gI σ (57 + v) n = nt (i : Nat) ∧ u v n = r (2 * nb φ + i)) ∧ (u v n : Rat) = gq φ q v n ∧ (u v n).natAbs ≤ 6291456 := by
    have hex : ∀ v n, v < 2 → n < nn φ → ∃ y : Int, ((gI σ (57 + v) n = nt (-6) ∧ y = 0) ∨ ∃ i, i < ds φ ∧ gI σ (57 + v) n = nt (i : Nat) ∧ y = r (2 * nb φ + i)) ∧ (y : Rat) = gq φ q v n ∧ y.natAbs ≤ 6291456 := by
      intro v n hv hn
      obtain ⟨h1, h2⟩ := hS.2 v n hv hn
      by_cases e : num φ v n < 0
      · exact ⟨0, Or.inl ⟨h1 e, rfl⟩, by unfold gq; rw [if_pos e]; rfl, by omega⟩
      · obtain ⟨i, hi, h3, h4⟩ := h2 (by omega)
        refine ⟨r (2 * nb φ + i), Or.inr ⟨i, hi, h4, rfl⟩, ?_, hr _ (by unfold wd; omega)⟩
        unfold gq
        rw [if_neg e, hq.2 i hi]
        congr 1
        omega
    refine ⟨fun v n => if hv : v < 2 ∧ n < nn φ then Classical.choose (hex v n hv.1 hv.2) else 0, fun v n hv hn => ?_⟩
    dsimp only
    rw [dif_pos ⟨hv, hn⟩]
    exact Classical.choose_spec (hex v n hv hn)
  have hl : ∀ v n, v < 2 → n < 7 → -5 ≤ φ.1 (6 + 2 * c + v) n ∧ φ.1 (6 + 2 * c + v) n ≤ 5 := fun v n hv hn => by
    have := w.2.2.2.2 (6 + 2 * c + v) n (by omega) (by omega) hn
    exact ⟨this.1, this.2.1⟩
  -- the nodes one way
  have key : ∀ (v : Nat), v < 2 → ∀ (W0 : Int) (kb : Int64 → Int32 → ZS → Option (Int64 × ZS)) (m : Nat), 100 ≤ m → f_X3_workOf_h40 N kb (nt (k : Nat)) (nt (c : Nat)) (nt (v : Nat)) (38 + (2 * c + v)) (57 + v) m (jl W0) (nt 0) σ = kb (jl (W0 + sZ (nn φ) (fun n => φ.1 (6 + 2 * c + v) n * u v n))) (nt ((v + 1 : Nat) : Int)) σ := by
    intro v hv W0 kb m hm
    have k1 := lp_go (fun n t (W : Int) => f_X3_workOf_h40 N kb (nt (k : Nat)) (nt (c : Nat)) (nt (v : Nat)) (38 + (2 * c + v)) (57 + v) n (jl W) (nt (t : Nat)) σ) (fun t => W0 + sZ t (fun n => φ.1 (6 + 2 * c + v) n * u v n)) (nn φ) (fun n t ht => by
      obtain ⟨hu1, _, _⟩ := hu v t hv ht
      have hlt := hl v t hv (by omega)
      have gl : gI σ (38 + (2 * c + v)) t = nt (φ.1 (6 + 2 * c + v) t) := by
        have := CFr_l hc (j := 2 * c + v) (k := t) (by omega) (by omega)
        rwa [show 6 + (2 * c + v) = 6 + 2 * c + v by omega] at this
      have hb97 : ∀ W : Int, f_X3_workOf_b97 N (fun x4_ x9_ σ_ => f_X3_workOf_h40 N kb (nt (k : Nat)) (nt (c : Nat)) (nt (v : Nat)) (38 + (2 * c + v)) (57 + v) n x4_ x9_ σ_) (nt (k : Nat)) (nt (c : Nat)) (jl W) (nt (v : Nat)) (38 + (2 * c + v)) (57 + v) (nt (t : Nat)) σ = f_X3_workOf_h40 N kb (nt (k : Nat)) (nt (c : Nat)) (nt (v : Nat)) (38 + (2 * c + v)) (57 + v) n (jl W) (nt ((t + 1 : Nat) : Int)) σ := fun W => by
        rw [f_X3_workOf_b97, n_1, nt_add, bd_eq]; rfl
      rw [f_X3_workOf_h40, CFr_n hc, le_f (by omega) (by omega) (by omega), ck_tg (tg_load (by omega)), ln_load (by omega), ck_inb (by omega) (by omega) (by omega), nat_k (by omega), gl, hb97, ck_tg (tg_shift hv), ln_shift hv, ck_inb (by omega) (by omega) (by omega), sZ_s]
      by_cases e : φ.1 (6 + 2 * c + v) t = 0
      · rw [n_0, eq_t e, e, Int.zero_mul, Int.add_zero]
      · rw [n_0, eq_f e (by omega) (by omega) (by omega) (by omega)]
        rcases hu1 with ⟨g1, g2⟩ | ⟨i, hi, g1, g2⟩
        · rw [g1, g2, lt_t (by omega) (by omega) (by omega), Int.mul_zero, Int.add_zero]
        · have hm2 := h (2 * nb φ + i) (by unfold wd; omega)
          rw [g1, g2, lt_f (by omega) (by omega) (by omega), ck_tg (tg_load (by omega)), ck_inb (by omega) (by omega) (by omega), ck_inb (by omega) (by omega) (by omega), ck_tg (tg_shift hv), ck_inb (by omega) (by omega) (by omega), nat_k (by omega), ck_tg (tg_mot hk), ln_mot hk, h5, nt_add, ck_inb (by omega) (by omega) (by omega), nat_nt (by omega) (by omega), show (((2 * nb φ : Nat) : Int) + (i : Nat)).toNat = 2 * nb φ + i by omega, hm2, long_nt (by omega) (by omega), jl_mul, jl_add, bd_eq, hb97, Int.add_assoc]) (nn φ) 0 m (by omega) (by omega)
    obtain ⟨n, en⟩ : ∃ n, m - nn φ = n + 1 := ⟨m - nn φ - 1, by omega⟩
    have k1 : f_X3_workOf_h40 N kb (nt (k : Nat)) (nt (c : Nat)) (nt (v : Nat)) (38 + (2 * c + v)) (57 + v) m (jl (W0 + 0)) (nt 0) σ = f_X3_workOf_h40 N kb (nt (k : Nat)) (nt (c : Nat)) (nt (v : Nat)) (38 + (2 * c + v)) (57 + v) (m - nn φ) (jl (W0 + sZ (nn φ) (fun n => φ.1 (6 + 2 * c + v) n * u v n))) (nt (nn φ : Nat)) σ := k1
    rw [Int.add_zero] at k1
    rw [k1, en, f_X3_workOf_h40, CFr_n hc, le_t (by omega) (by omega) (by omega), n_1, nt_add, bd_eq]
    rfl
  obtain ⟨W, hW⟩ : ∃ W : Int, W = sZ (nn φ) (fun n => φ.1 (6 + 2 * c) n * u 0 n) + sZ (nn φ) (fun n => φ.1 (7 + 2 * c) n * u 1 n) := ⟨_, rfl⟩
  refine ⟨W, ?_, ?_, ?_⟩
  · obtain ⟨n, rfl⟩ : ∃ n, N = n + 3 := ⟨N - 3, by omega⟩
    unfold f_X3_workOf
    have e38 : ∀ v : Nat, v < 2 → ((nt 2 * nt (c : Nat)) + nt (v : Nat)).toNatClampNeg = 2 * c + v := fun v hv => by
      rw [nt_mul, nt_add, nat_nt (by omega) (by omega)]; omega
    have i38 : ∀ v : Nat, v < 2 → ∀ x : Option (Int64 × ZS), ck (inb ((nt 2 * nt (c : Nat)) + nt (v : Nat)) 6) x = x := fun v hv x => by
      rw [nt_mul, nt_add, ck_inb (by omega) (by omega) (by omega)]
    have hz : (0 : Int64) = jl 0 := rfl
    have st : ∀ v : Nat, v < 2 → ∀ (W0 : Int) (m : Nat), f_X3_workOf_h6 (n + 3) (nt (k : Nat)) (nt (c : Nat)) (m + 1) (jl W0) (nt (v : Nat)) σ = f_X3_workOf_h6 (n + 3) (nt (k : Nat)) (nt (c : Nat)) m (jl (W0 + sZ (nn φ) (fun n => φ.1 (6 + 2 * c + v) n * u v n))) (nt ((v + 1 : Nat) : Int)) σ := fun v hv W0 m => by
      have hk2 := key v hv W0 (fun x4_ x6_ σ_ => f_X3_workOf_h6 (n + 3) (nt (k : Nat)) (nt (c : Nat)) m x4_ x6_ σ_) (n + 3) (by omega)
      have hn0 : (0 : Int32) = nt 0 := rfl
      rw [f_X3_workOf_h6, n_2, le_f (by omega) (by omega) (by omega), i38 v hv, e38 v hv, bd_eq, ck_inb (by omega) (by omega) (by omega), nat_k (by omega), bd_eq, hn0, hk2]
    have s0 := st 0 (by omega) 0 (n + 2)
    have s1 := st 1 (by omega) (0 + sZ (nn φ) (fun n => φ.1 (6 + 2 * c + 0) n * u 0 n)) (n + 1)
    have s0 : f_X3_workOf_h6 (n + 3) (nt (k : Nat)) (nt (c : Nat)) (n + 3) (0 : Int64) (0 : Int32) σ = _ := s0
    rw [s0]
    have s1 : f_X3_workOf_h6 (n + 3) (nt (k : Nat)) (nt (c : Nat)) (n + 2) (jl (0 + sZ (nn φ) (fun n => φ.1 (6 + 2 * c + 0) n * u 0 n))) (nt ((0 + 1 : Nat) : Int)) σ = _ := s1
    rw [s1, f_X3_workOf_h6, n_2, le_t (by omega) (by omega) (by omega), hW]
    congr 3
    have e7 : ∀ n, φ.1 (6 + 2 * c + 1) n = φ.1 (7 + 2 * c) n := fun n => by rw [show 6 + 2 * c + 1 = 7 + 2 * c by omega]
    rw [sZ_congr (f := fun n => φ.1 (6 + 2 * c + 1) n * u 1 n) (g := fun n => φ.1 (7 + 2 * c) n * u 1 n) (fun n _ => by rw [e7])]
    show (0 + sZ (nn φ) (fun n => φ.1 (6 + 2 * c) n * u 0 n)) + _ = _
    omega
  · rw [hW, pq_q w, Rat.intCast_add, sZQ, sZQ, ← sQ_add]
    refine sQ_congr (fun n hn => ?_)
    rw [Rat.intCast_mul, Rat.intCast_mul, (hu 0 n (by omega) hn).2.1, (hu 1 n (by omega) hn).2.1]
  · have hbd : ∀ v, v < 2 → ∀ t, t ≤ nn φ → (sZ t (fun n => φ.1 (6 + 2 * c + v) n * u v n)).natAbs ≤ 31457280 * t := by
      intro v hv t
      induction t with
      | zero => intro _; show (0 : Int).natAbs ≤ _; omega
      | succ t ih =>
        intro ht
        have h1 := ih (by omega)
        have h2 := (hu v t hv (by omega)).2.2
        have h3 := hl v t hv (by omega)
        have h4 : (φ.1 (6 + 2 * c + v) t * u v t).natAbs ≤ 5 * 6291456 := by rw [Int.natAbs_mul]; exact Nat.mul_le_mul (by omega) h2
        rw [sZ_s]; omega
    have b0 := hbd 0 (by omega) (nn φ) (Nat.le_refl _)
    have b1 := hbd 1 (by omega) (nn φ) (Nat.le_refl _)
    rw [show 6 + 2 * c + 1 = 7 + 2 * c by omega] at b1
    rw [show 6 + 2 * c + 0 = 6 + 2 * c by omega] at b0
    rw [hW]
    omega
end
