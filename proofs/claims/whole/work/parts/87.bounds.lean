-- ===== the class: bounds, carrying, limit loads =====
section
variable {N : Nat} {φ : FR} {pi : Nat → Nat}
theorem s_extreme (hN : 200 ≤ N) {σ : ZS} {g h l k : Int} (h9 : Fq σ 9 g h) (h10 : Fq σ 10 l k) (hg : okJ g) (hh : okJ h) (hl : okJ l) (hk : okJ k) (h0 : 0 < h) (k0 : 0 < k) {y : Int} (hy : 0 ≤ y ∧ y ≤ 3) : ∃ τ, f_X0_extreme N (nt y) σ = some (jl (if y = 0 then rn g h else if y = 1 then rd g h else if y = 2 then rn l k else rd l k), τ) ∧ fr9 σ τ := by
  unfold f_X0_extreme f_X0_limit
  rw [n_2, nt_div ⟨by omega, by omega⟩ ⟨by omega, by omega⟩, nt_rem ⟨by omega, by omega⟩ ⟨by omega, by omega⟩, n_0]
  rcases (show y = 0 ∨ y = 1 ∨ y = 2 ∨ y = 3 by omega) with rfl | rfl | rfl | rfl
  · obtain ⟨τ, e1, e2, e3, e4⟩ := s_lowest (σ := σ) hN (isc_f (c := 9) ⟨by omega, by omega⟩) h9 hg hh h0 (q := 0) (Or.inl rfl)
    refine ⟨τ, ?_, e3, fun d d1 d2 d3 => e4 d d1⟩
    rw [show (0 : Int).tdiv 2 = 0 by decide, show (0 : Int).tmod 2 = 0 by decide, eq_t rfl, obd_some, ck_of (isc_f ⟨by omega, by omega⟩), e1, obd_some]
    rfl
  · obtain ⟨τ, e1, e2, e3, e4⟩ := s_lowest (σ := σ) hN (isc_f (c := 9) ⟨by omega, by omega⟩) h9 hg hh h0 (q := 1) (Or.inr rfl)
    refine ⟨τ, ?_, e3, fun d d1 d2 d3 => e4 d d1⟩
    rw [show (1 : Int).tdiv 2 = 0 by decide, show (1 : Int).tmod 2 = 1 by decide, eq_t rfl, obd_some, ck_of (isc_f ⟨by omega, by omega⟩), e1, obd_some]
    rfl
  · obtain ⟨τ, e1, e2, e3, e4⟩ := s_lowest (σ := σ) hN (isc_f (c := 10) ⟨by omega, by omega⟩) h10 hl hk k0 (q := 0) (Or.inl rfl)
    refine ⟨τ, ?_, e3, fun d d1 d2 d3 => e4 d d2⟩
    rw [show (2 : Int).tdiv 2 = 1 by decide, show (2 : Int).tmod 2 = 0 by decide, eq_f (by omega) (by omega) (by omega) (by omega) (by omega), obd_some, ck_of (isc_f ⟨by omega, by omega⟩), e1, obd_some]
    rfl
  · obtain ⟨τ, e1, e2, e3, e4⟩ := s_lowest (σ := σ) hN (isc_f (c := 10) ⟨by omega, by omega⟩) h10 hl hk k0 (q := 1) (Or.inr rfl)
    refine ⟨τ, ?_, e3, fun d d1 d2 d3 => e4 d d2⟩
    rw [show (3 : Int).tdiv 2 = 1 by decide, show (3 : Int).tmod 2 = 1 by decide, eq_f (by omega) (by omega) (by omega) (by omega) (by omega), obd_some, ck_of (isc_f ⟨by omega, by omega⟩), e1, obd_some]
    rfl
theorem i62 {β : Type} (y : Option β) {t : Nat} (ht : t < 924) : ck (inb (0 : Int32) 3) (ck (tg (62 + (0 : Int32).toNatClampNeg) == 2) (ck (inb (nt (t : Nat)) (ln (62 + (0 : Int32).toNatClampNeg))) y)) = y := by
  rw [ck_of (show inb (0 : Int32) 3 = true by decide), show (62 + (0 : Int32).toNatClampNeg) = 62 + 0 from rfl, ck_tg (tg_work (by omega)), ln_work (by omega), ck_inb (by omega) (by omega) (by omega)]
theorem i63 {β : Type} (y : Option β) {t : Nat} (ht : t < 924) : ck (inb (1 : Int32) 3) (ck (tg (62 + (1 : Int32).toNatClampNeg) == 2) (ck (inb (nt (t : Nat)) (ln (62 + (1 : Int32).toNatClampNeg))) y)) = y := by
  rw [ck_of (show inb (1 : Int32) 3 = true by decide), show (62 + (1 : Int32).toNatClampNeg) = 62 + 1 from rfl, ck_tg (tg_work (by omega)), ln_work (by omega), ck_inb (by omega) (by omega) (by omega)]
theorem i64 {β : Type} (y : Option β) {t : Nat} (ht : t < 924) : ck (inb (2 : Int32) 3) (ck (tg (62 + (2 : Int32).toNatClampNeg) == 2) (ck (inb (nt (t : Nat)) (ln (62 + (2 : Int32).toNatClampNeg))) y)) = y := by
  rw [ck_of (show inb (2 : Int32) 3 = true by decide), show (62 + (2 : Int32).toNatClampNeg) = 62 + 2 from rfl, ck_tg (tg_work (by omega)), ln_work (by omega), ck_inb (by omega) (by omega) (by omega)]
theorem i6c {β : Type} (y : Option β) {t c : Nat} (ht : t < 924) (hc : c < 3) : ck (inb (nt (c : Nat)) 3) (ck (tg (62 + (nt (c : Nat)).toNatClampNeg) == 2) (ck (inb (nt (t : Nat)) (ln (62 + (nt (c : Nat)).toNatClampNeg))) y)) = y := by
  rw [ck_inb (by omega) (by omega) (by omega), nat_k (by omega), ck_tg (tg_work (by omega)), ln_work (by omega), ck_inb (by omega) (by omega) (by omega)]
theorem s_bounds {σ : ZS} {k s c : Nat} (hk : k < 924) (hc : c < 3) {q : Nat → Rat} {r : Nat → Int} {St : Int} {W : Nat → Int} (h : CW φ pi σ k s q r St W) : ∃ τ, f_X0_findBounds N (nt (k : Nat)) (nt (c : Nat)) σ = some (nt (if W c = 0 then 0 else 1), τ) ∧ fr9 σ τ ∧ Fq τ 9 (St - if W c < 0 then -W 0 else W 0) ((W c).natAbs : Int) ∧ Fq τ 10 (-St - if W c < 0 then -W 0 else W 0) ((W c).natAbs : Int) := by
  obtain ⟨_, _, _, _, _, ⟨a1, _, a3, a4⟩, a5⟩ := h
  obtain ⟨b1, _, b3⟩ := a5 c hc
  obtain ⟨c1, _, c3⟩ := a5 0 (by omega)
  have key : ∀ st : Int, f_X0_findBounds_b35 N (nt (k : Nat)) (jl (W c)) (jl st) σ = obd (f_X1_put N 9 (jl (St - st)) (jl ((W c).natAbs : Int)) σ) fun _ σ13 => obd (f_X1_put N 10 ((-(gJ σ13 61 k)) - jl st) (jl ((W c).natAbs : Int)) σ13) fun _ σ18 => some (nt (if W c = 0 then 0 else 1), σ18) := fun st => by
    unfold f_X0_findBounds_b35
    have hna : (if W c < 0 then -W c else W c) = ((W c).natAbs : Int) := by split <;> omega
    have hab : ∀ σ' : ZS, f_ABS N (jl (W c)) σ' = some (jl ((W c).natAbs : Int), σ') := fun σ' => by rw [s_ABS N (W c) ⟨by omega, by omega⟩, hna]
    rw [ck_inb (by omega) (by omega) (by omega), hab, obd_some, nat_k (by omega), a1, jl_sub]
    congr 1
    funext _ σ13
    rw [ck_inb (by omega) (by omega) (by omega), hab, obd_some]
    congr 1
    funext _ σ18
    rw [j_0]
    by_cases e : W c = 0
    · rw [jeq_t e, if_pos e]; rfl
    · rw [jeq_f e (by omega) (by omega) (by omega) (by omega), if_neg e]; rfl
  have key2 : ∀ st : Int, ∃ τ, f_X0_findBounds_b35 N (nt (k : Nat)) (jl (W c)) (jl st) σ = some (nt (if W c = 0 then 0 else 1), τ) ∧ fr9 σ τ ∧ Fq τ 9 (St - st) ((W c).natAbs : Int) ∧ Fq τ 10 (-St - st) ((W c).natAbs : Int) := fun st => by
    obtain ⟨s1, e1, e2, e3, e4⟩ := s_put (N := N) (σ := σ) (c := 9) (isc_f ⟨by omega, by omega⟩) (a := St - st) (b := ((W c).natAbs : Int)) (by omega) ⟨by omega, by omega⟩
    obtain ⟨s2, f1, f2, f3, f4⟩ := s_put (N := N) (σ := s1) (c := 10) (isc_f ⟨by omega, by omega⟩) (a := -St - st) (b := ((W c).natAbs : Int)) (by omega) ⟨by omega, by omega⟩
    refine ⟨s2, ?_, ⟨f3.trans e3, fun d d1 d2 d3 => by rw [f4 d d2, e4 d d1]⟩, Fq_o e2 (f4 9 (by omega)), f2⟩
    have g61 : gJ s1 61 k = jl St := by unfold gJ; rw [e4 61 (by omega)]; exact a1
    rw [key, e1, obd_some, g61, jl_neg, jl_sub, f1, obd_some]
  unfold f_X0_findBounds
  rw [i6c _ hk hc, nat_k (by omega), nat_k (by omega), b1, bd_eq, i62 _ hk, i62 _ hk]
  have w00 : gJ σ (62 + (0 : Int32).toNatClampNeg) k = jl (W 0) := c1
  rw [w00, j_0]
  by_cases en : W c < 0
  · rw [jlt_t en (by omega) (by omega), jl_neg, if_pos en]
    exact key2 _
  · rw [jlt_f (by omega) (by omega) (by omega), if_neg en]
    exact key2 _
/-- loads of the cases that are carried -/
def Cy (φ : FR) (x y n : Int) : Prop := ∀ q, ElF φ q → ab ((n : Rat) * dq (dd φ) (pq φ 0) q + (x : Rat) * dq (dd φ) (pq φ 1) q + (y : Rat) * dq (dd φ) (pq φ 2) q) ≤ (n : Rat) * stn (dd φ) (Rq φ) (cq φ) (2 * nb φ) q
theorem Cy_list {σ : ZS} {L : List Nat} (hM : CMe φ pi σ L) {Q : Nat → Nat → Rat} {R : Nat → Nat → Int} {ST : Nat → Int} {WW : Nat → Nat → Int} (hA : CA φ pi σ L.length Q R ST WW) (hs : ∀ k s, L[k]? = some s → s = mq φ (Q k)) (x y n : Int) : Cy φ x y n ↔ ∀ k, k < L.length → (WW k 0 * n + WW k 1 * x + WW k 2 * y).natAbs ≤ ST k * n := by
  have hone : ∀ k, k < L.length → ((ab ((n : Rat) * dq (dd φ) (pq φ 0) (Q k) + (x : Rat) * dq (dd φ) (pq φ 1) (Q k) + (y : Rat) * dq (dd φ) (pq φ 2) (Q k)) ≤ (n : Rat) * stn (dd φ) (Rq φ) (cq φ) (2 * nb φ) (Q k)) ↔ (WW k 0 * n + WW k 1 * x + WW k 2 * y).natAbs ≤ ST k * n) := fun k hk => by
    obtain ⟨s, hw⟩ := hA k hk
    rw [← hw.2.2.2.2.2.1.2.1, ← (hw.2.2.2.2.2.2 0 (by omega)).2.1, ← (hw.2.2.2.2.2.2 1 (by omega)).2.1, ← (hw.2.2.2.2.2.2 2 (by omega)).2.1]
    have e1 : (n : Rat) * ((WW k 0 : Int) : Rat) + (x : Rat) * ((WW k 1 : Int) : Rat) + (y : Rat) * ((WW k 2 : Int) : Rat) = ((WW k 0 * n + WW k 1 * x + WW k 2 * y : Int) : Rat) := by
      rw [Rat.intCast_add, Rat.intCast_add, Rat.intCast_mul, Rat.intCast_mul, Rat.intCast_mul]; grind
    have e2 : (n : Rat) * ((ST k : Int) : Rat) = ((ST k * n : Int) : Rat) := by rw [Rat.intCast_mul]; grind
    rw [e1, e2, ab_int, q_le]
  constructor
  · intro h k hk
    obtain ⟨s, hw⟩ := hA k hk
    exact (hone k hk).mp (h _ hw.2.2.1)
  · intro h q hq
    obtain ⟨k, s, hk, hs2⟩ := el_list hM hq
    have hkl : k < L.length := (List.getElem?_eq_some_iff.mp hk).1
    obtain ⟨s', hw⟩ := hA k hkl
    have h1 := (hone k hkl).mpr (h k hkl)
    obtain ⟨l, hl⟩ := el_same hw.2.2.1 ((hs k s hk).symm.trans hs2)
    rw [pq_mul hl, pq_mul hl, pq_mul hl, cq_S, stn_mul hl]
    rw [cq_S] at h1
    have e : (n : Rat) * (l * dq (dd φ) (pq φ 0) (Q k)) + (x : Rat) * (l * dq (dd φ) (pq φ 1) (Q k)) + (y : Rat) * (l * dq (dd φ) (pq φ 2) (Q k)) = l * ((n : Rat) * dq (dd φ) (pq φ 0) (Q k) + (x : Rat) * dq (dd φ) (pq φ 1) (Q k) + (y : Rat) * dq (dd φ) (pq φ 2) (Q k)) := by grind
    rw [e, ab_mul]
    have := Rat.mul_le_mul_of_nonneg_left h1 (ab_nn l)
    grind
theorem mul_bd {a b : Int} {A B : Nat} (ha : a.natAbs ≤ A) (hb : b.natAbs ≤ B) : (a * b).natAbs ≤ A * B := by rw [Int.natAbs_mul]; exact Nat.mul_le_mul ha hb

theorem s_carries (hN : 1200 ≤ N) {σ : ZS} {L : List Nat} (hM : CMe φ pi σ L) (hB : CBl φ pi σ L) {x y n : Int} (hx : x.natAbs ≤ 99) (hy : y.natAbs ≤ 99) (hn : n.natAbs ≤ 99) : ∃ rc : Int, f_X0_carries N (nt x) (nt y) (nt n) σ = some (nt rc, σ) ∧ (rc = 1 ∧ Cy φ x y n ∨ rc = 0 ∧ ¬ Cy φ x y n) := by
  have hL := hM.2.2.1
  obtain ⟨Q, R, ST, WW, hA, hs⟩ := CA_ex hB
  have hC := Cy_list hM hA hs x y n
  have g63 : gI σ 6 3 = nt ((L.length : Nat) : Int) := hM.2.2.2.1
  have key : ∀ (j t m : Nat), t + j = L.length → j + 1 ≤ m → (∀ k, k < t → (WW k 0 * n + WW k 1 * x + WW k 2 * y).natAbs ≤ ST k * n) → ∃ rc : Int, f_X0_carries_h3 N (nt x) (nt y) (nt n) m (nt (t : Nat)) σ = some (nt rc, σ) ∧ (rc = 1 ∧ Cy φ x y n ∨ rc = 0 ∧ ¬ Cy φ x y n) := by
    intro j
    induction j with
    | zero =>
      intro t m ht hm h0
      obtain ⟨m, rfl⟩ : ∃ k, m = k + 1 := ⟨m - 1, by omega⟩
      rw [f_X0_carries_h3, g63, le_t (by omega) (by omega) (by omega)]
      exact ⟨1, rfl, Or.inl ⟨rfl, hC.mpr (fun k hk => h0 k (by omega))⟩⟩
    | succ j ih =>
      intro t m ht hm h0
      obtain ⟨m, rfl⟩ : ∃ k, m = k + 1 := ⟨m - 1, by omega⟩
      obtain ⟨s, hw⟩ := hA t (by omega)
      obtain ⟨_, _, _, _, _, ⟨a1, _, a3, a4⟩, a5⟩ := hw
      obtain ⟨b1, _, b3⟩ := a5 0 (by omega)
      obtain ⟨c1, _, c3⟩ := a5 1 (by omega)
      obtain ⟨d1, _, d3⟩ := a5 2 (by omega)
      have w0 : gJ σ (62 + (0 : Int32).toNatClampNeg) t = jl (WW t 0) := b1
      have w1 : gJ σ (62 + (1 : Int32).toNatClampNeg) t = jl (WW t 1) := c1
      have w2 : gJ σ (62 + (2 : Int32).toNatClampNeg) t = jl (WW t 2) := d1
      have m0 := mul_bd b3 hn
      have m1 := mul_bd c3 hx
      have m2 := mul_bd d3 hy
      have m3 := mul_bd (a := ST t) (A := 905969664) (by omega) hn
      obtain ⟨T, hT⟩ : ∃ T, T = WW t 0 * n + WW t 1 * x + WW t 2 * y := ⟨_, rfl⟩
      have hTb : T.natAbs ≤ 440401920 * 99 * 3 := by omega
      have hta : (if T < 0 then -T else T) = (T.natAbs : Int) := by split <;> omega
      rw [f_X0_carries_h3, g63, le_f (by omega) (by omega) (by omega), i62 _ (by omega), i63 _ (by omega), i64 _ (by omega), nat_k (by omega), w0, w1, w2, long_nt (by omega) (by omega), long_nt (by omega) (by omega), long_nt (by omega) (by omega), jl_mul, jl_mul, jl_mul, jl_add, jl_add, bd_eq, ← hT, s_ABS N T ⟨by omega, by omega⟩, obd_some, hta, ck_inb (by omega) (by omega) (by omega), a1, jl_mul]
      by_cases e : ST t * n < (T.natAbs : Int)
      · rw [jlt_t e (by omega) (by omega)]
        refine ⟨0, rfl, Or.inr ⟨rfl, fun hh => ?_⟩⟩
        have := hC.mp hh t (by omega)
        rw [← hT] at this
        omega
      · rw [jlt_f (by omega) (by omega) (by omega), n_1, nt_add, bd_eq]
        refine ih (t + 1) m (by omega) (by omega) (fun k hk => ?_)
        by_cases a : k = t
        · subst a; rw [← hT]; omega
        · exact h0 k (by omega)
  exact key L.length 0 N (by omega) (by omega) (fun k hk => by omega)
end
