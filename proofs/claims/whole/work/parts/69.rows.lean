-- ===== rows of longs: primitive vectors, the class's row operations =====
/-- the common divisor of the first entries -/
def gz : Nat → (Nat → Int) → Nat
  | 0, _ => 0
  | n + 1, v => Nat.gcd (gz n v) (v n).natAbs
theorem gz_s (n : Nat) (v : Nat → Int) : gz (n + 1) v = Nat.gcd (gz n v) (v n).natAbs := rfl
theorem gz_congr {v w : Nat → Int} : ∀ {n : Nat}, (∀ k, k < n → v k = w k) → gz n v = gz n w := by
  intro n
  induction n with
  | zero => intro _; rfl
  | succ n ih => intro h; rw [gz_s, gz_s, ih (fun k hk => h k (by omega)), h n (by omega)]
theorem gz_dvd {v : Nat → Int} : ∀ {n k : Nat}, k < n → (gz n v : Int) ∣ v k := by
  intro n
  induction n with
  | zero => intro k h; omega
  | succ n ih =>
    intro k hk
    rw [gz_s]
    by_cases e : k = n
    · subst e
      exact Int.ofNat_dvd_left.mpr (Nat.gcd_dvd_right _ _)
    · exact Int.dvd_trans (Int.natCast_dvd_natCast.mpr (Nat.gcd_dvd_left _ _)) (ih (by omega))
theorem gz_max {v : Nat → Int} {g : Nat} : ∀ {n : Nat}, (∀ k, k < n → (g : Int) ∣ v k) → g ∣ gz n v := by
  intro n
  induction n with
  | zero => intro _; exact Nat.dvd_zero g
  | succ n ih =>
    intro h
    rw [gz_s]
    exact Nat.dvd_gcd (ih (fun k hk => h k (by omega))) (Int.ofNat_dvd_left.mp (h n (by omega)))
theorem gz_zero {v : Nat → Int} {n : Nat} (h : gz n v = 0) : ∀ k, k < n → v k = 0 := by
  intro k hk
  have := gz_dvd (v := v) hk
  rw [h] at this
  exact Int.zero_dvd.mp this
theorem gz_le {v : Nat → Int} {B : Nat} : ∀ {n : Nat}, (∀ k, k < n → (v k).natAbs ≤ B) → gz n v ≤ B := by
  intro n h
  by_cases h0 : gz n v = 0
  · omega
  · have : ∃ k, k < n ∧ v k ≠ 0 := by
      apply Classical.byContradiction
      intro w
      apply h0
      have : ∀ k, k < n → v k = 0 := fun k hk => Classical.byContradiction (fun q => w ⟨k, hk, q⟩)
      rw [gz_congr (w := fun _ => 0) this]
      clear this w h0 h
      induction n with
      | zero => rfl
      | succ n ih => rw [gz_s, ih]; rfl
    obtain ⟨k, hk, h1⟩ := this
    have h2 := gz_dvd (v := v) hk
    have h3 := Int.natAbs_dvd_natAbs.mpr h2
    have h4 := Nat.le_of_dvd (by omega) h3
    have := h k hk
    omega
theorem gz_mul {v : Nat → Int} {c : Int} : ∀ n : Nat, gz n (fun k => c * v k) = c.natAbs * gz n v := by
  intro n
  induction n with
  | zero => rfl
  | succ n ih =>
    rw [gz_s, gz_s, ih, Int.natAbs_mul, Nat.gcd_mul_left]
/-- a primitive vector along an integer one is no greater -/
theorem prim_le {w : Nat} {r t : Nat → Int} {a b : Int} (hp : gz w r = 1) (ha : a ≠ 0) (hb : b ≠ 0) (h : ∀ k, k < w → a * r k = b * t k) : ∀ k, k < w → (r k).natAbs ≤ (t k).natAbs := by
  intro k hk
  -- b divides a r, so b divides a
  have h1 : b.natAbs ∣ gz w (fun k => a * r k) := gz_max (fun k hk => by
    rw [Int.natAbs_dvd, h k hk]; exact Int.dvd_mul_right _ _)
  rw [gz_mul, hp, Nat.mul_one] at h1
  obtain ⟨c, hc⟩ := Int.natAbs_dvd_natAbs.mp h1
  have h2 := h k hk
  rw [hc, Int.mul_assoc] at h2
  have h3 : c * r k = t k := Int.eq_of_mul_eq_mul_left hb h2
  rw [← h3, Int.natAbs_mul]
  have hc0 : c ≠ 0 := fun w => by rw [w] at hc; omega
  have : 1 ≤ c.natAbs := by omega
  calc (r k).natAbs = 1 * (r k).natAbs := by omega
    _ ≤ _ := Nat.mul_le_mul_right _ this
/-- a row's first entries -/
def Row (σ : ZS) (c w : Nat) (v : Nat → Int) : Prop := ∀ k, k < w → gJ σ c k = jl (v k)
theorem Row_wJ {σ : ZS} {c w : Nat} {v : Nat → Int} : Row (wJ σ c w (fun k => jl (v k))) c w v := fun k hk => by
  rw [gJ_wJ, if_pos ⟨rfl, hk⟩]
theorem Row_o {σ τ : ZS} {c w : Nat} {v : Nat → Int} (h : Row σ c w v) (e : τ.2 c = σ.2 c) : Row τ c w v := fun k hk => by
  unfold gJ; rw [e]; exact h k hk
theorem wJ_o {σ : ZS} {c n d : Nat} {v : Nat → Int64} (h : d ≠ c) : (wJ σ c n v).2 d = σ.2 d := by
  funext k
  show (if d = c ∧ k < n then v k else σ.2 d k) = _
  rw [if_neg (fun q => h q.1)]
theorem gJ_wJ_c {σ : ZS} {c c' n k : Nat} {v : Nat → Int64} (h : c' ≠ c) : gJ (wJ σ c n v) c' k = gJ σ c' k := by unfold gJ; rw [wJ_o h]
/-- shortened: what is left of a row -/
def shv (w : Nat) (v : Nat → Int) : Nat → Int := fun k => if gz w v ≤ 1 then v k else v k / (gz w v : Int)
theorem shv_mul (w : Nat) (v : Nat → Int) : ∃ g : Int, 0 < g ∧ ∀ k, k < w → v k = g * shv w v k := by
  unfold shv
  by_cases h : gz w v ≤ 1
  · exact ⟨1, by omega, fun k _ => by rw [if_pos h]; omega⟩
  · refine ⟨gz w v, by omega, fun k hk => ?_⟩
    rw [if_neg h, Int.mul_ediv_cancel' (gz_dvd hk)]
theorem shv_prim (w : Nat) (v : Nat → Int) : gz w (shv w v) = 1 ∨ ∀ k, k < w → shv w v k = 0 := by
  by_cases h : gz w v = 0
  · right
    intro k hk
    unfold shv
    rw [if_pos (by omega)]
    exact gz_zero h k hk
  · left
    by_cases h1 : gz w v ≤ 1
    · have : gz w (shv w v) = gz w v := gz_congr (fun k _ => if_pos h1)
      omega
    · have h2 : gz w (fun k => (gz w v : Int) * shv w v k) = gz w v := gz_congr (fun k hk => by
        unfold shv
        rw [if_neg h1, Int.mul_ediv_cancel' (gz_dvd hk)])
      rw [gz_mul] at h2
      have h3 : ((gz w v : Int)).natAbs = gz w v := by omega
      rw [h3] at h2
      have : gz w v * gz w (shv w v) = gz w v * 1 := by omega
      exact Nat.eq_of_mul_eq_mul_left (by omega) this
theorem shv_le (w : Nat) (v : Nat → Int) {k : Nat} (hk : k < w) : (shv w v k).natAbs ≤ (v k).natAbs := by
  obtain ⟨g, hg, h⟩ := shv_mul w v
  rw [h k hk, Int.natAbs_mul]
  have : 1 ≤ g.natAbs := by omega
  calc (shv w v k).natAbs = 1 * (shv w v k).natAbs := by omega
    _ ≤ _ := Nat.mul_le_mul_right _ this
section
variable {N : Nat} {σ : ZS}
theorem s_width {w : Nat} {E S : Nat} (h1 : gI σ 5 5 = nt (E : Nat)) (h2 : gI σ 5 6 = nt (S : Nat)) (hw : E + S = w) : f_X4_width N σ = some (nt (w : Nat), σ) := by
  unfold f_X4_width
  rw [h1, h2, nt_add, ← hw]; rfl
theorem s_simplify (hN : 200 ≤ N) {c w : Nat} (ht : tg c = 2) (hl : ln c = 26) (hw : w ≤ 26) (hwd : f_X4_width N σ = some (nt (w : Nat), σ)) {v : Nat → Int} (h : Row σ c w v) (hv : ∀ k, k < w → okJ (v k)) : ∃ τ, f_X4_simplify N c σ = some ((), τ) ∧ Row τ c w (shv w v) ∧ τ.1 = σ.1 ∧ ∀ d, d ≠ c → τ.2 d = σ.2 d := by
  unfold f_X4_simplify
  rw [hwd, obd_some]
  have hB : ∀ n, n ≤ w → gz n v ≤ 9223372036854775807 := fun n hn => gz_le (fun k hk => by
    obtain ⟨h1, h2⟩ := hv k (by omega); omega)
  -- the divisor
  have key : ∀ (j k n : Nat), k + j = w → j + 1 ≤ n → f_X4_simplify_h10 N c (nt (w : Nat)) n (jl (gz k v)) (nt (k : Nat)) σ = f_X4_simplify_b37 N c (nt (w : Nat)) (jl (gz w v)) σ := by
    intro j
    induction j with
    | zero =>
      intro k n hk hn
      obtain rfl : k = w := by omega
      obtain ⟨n, rfl⟩ : ∃ m, n = m + 1 := ⟨n - 1, by omega⟩
      rw [f_X4_simplify_h10, le_t (by omega) (by omega) (by omega)]
    | succ j ih =>
      intro k n hk hn
      obtain ⟨n, rfl⟩ : ∃ m, n = m + 1 := ⟨n - 1, by omega⟩
      have hb := hB k (by omega)
      rw [f_X4_simplify_h10, le_f (by omega) (by omega) (by omega), j_1]
      by_cases e : gz k v = 1
      · rw [jeq_t (by omega)]
        have : gz w v = 1 := by
          have hd : gz w v ∣ gz k v := gz_max (fun i hi => gz_dvd (by omega))
          rw [e] at hd
          exact Nat.dvd_one.mp hd
        rw [this, e]
      · rw [jeq_f (by omega) (by omega) (by omega) (by omega) (by omega), ck_tg ht, hl, ck_inb (by omega) (by omega) (by omega), nat_k (by omega), h k (by omega), s_gcd hN ⟨by omega, by omega⟩ (hv k (by omega)), obd_some, n_1, nt_add, bd_eq]
        have e2 : (Int.gcd ((gz k v : Nat) : Int) (v k) : Int) = ((gz (k + 1) v : Nat) : Int) := rfl
        rw [e2]
        exact ih (k + 1) n (by omega) (by omega)
  have k0 := key w 0 N (by omega) (by omega)
  have k0 : f_X4_simplify_h10 N c (nt (w : Nat)) N (0 : Int64) (0 : Int32) σ = f_X4_simplify_b37 N c (nt (w : Nat)) (jl (gz w v)) σ := k0
  rw [k0]
  unfold f_X4_simplify_b37
  have hb := hB w (by omega)
  by_cases e : gz w v ≤ 1
  · rw [j_1, jlt_f (by omega) (by omega) (by omega)]
    exact ⟨σ, rfl, fun k hk => by rw [h k hk]; unfold shv; rw [if_pos e], rfl, fun _ _ => rfl⟩
  · rw [j_1, jlt_t (by omega) (by omega) (by omega)]
    have key2 := lp_go (fun n k (s : ZS) => f_X4_simplify_h46 N c (nt (w : Nat)) (jl (gz w v)) n (nt (k : Nat)) s) (fun k => wJ σ c k (fun k => jl (shv w v k))) w (fun n k hk => by
      obtain ⟨h1, h2⟩ := hv k hk
      have hg : gJ (wJ σ c k (fun k => jl (shv w v k))) c k = jl (v k) := by
        rw [gJ_wJ, if_neg (by omega)]; exact h k hk
      rw [f_X4_simplify_h46, le_f (by omega) (by omega) (by omega), ck_tg ht, hl, ck_inb (by omega) (by omega) (by omega), ck_j0 (by omega) (by omega) (by omega), nat_k (by omega), hg, jl_div ⟨by omega, by omega⟩ ⟨by omega, by omega⟩, tdiv_g (by omega) (gz_dvd hk), bd_eq, ck_tg ht, ck_inb (by omega) (by omega) (by omega), bd_eq, n_1, nt_add, bd_eq]
      have e3 : v k / ((gz w v : Nat) : Int) = shv w v k := by unfold shv; rw [if_neg e]
      rw [e3, wJ_s σ c k (fun k => jl (shv w v k))]
      rfl) w 0 N (by omega) (by omega)
    obtain ⟨n, en⟩ : ∃ n, N - w = n + 1 := ⟨N - w - 1, by omega⟩
    have key2 : f_X4_simplify_h46 N c (nt (w : Nat)) (jl (gz w v)) N (0 : Int32) (wJ σ c 0 (fun k => jl (shv w v k))) = f_X4_simplify_h46 N c (nt (w : Nat)) (jl (gz w v)) (N - w) (nt (w : Nat)) (wJ σ c w (fun k => jl (shv w v k))) := key2
    rw [wJ_0] at key2
    rw [key2, en, f_X4_simplify_h46, le_t (by omega) (by omega) (by omega)]
    exact ⟨_, rfl, Row_wJ, rfl, fun d hd => wJ_o hd⟩
/-- a combination of two rows that is 0 at an end, shortened -/
theorem s_cancel (hN : 200 ≤ N) {a1 a2 a4 w e : Nat} (t1 : tg a1 = 2 ∧ ln a1 = 26) (t2 : tg a2 = 2 ∧ ln a2 = 26) (t4 : tg a4 = 2 ∧ ln a4 = 26) (hw : w ≤ 26) (he : e < w) {E S : Nat} (hE : gI σ 5 5 = nt (E : Nat)) (hS : gI σ 5 6 = nt (S : Nat)) (hES : E + S = w) {r p : Nat → Int} (hr : Row σ a1 w r) (hp : Row σ a2 w p) (hpe : p e ≠ 0) (hrb : ∀ k, k < w → (r k).natAbs ≤ 1610612736) (hpb : ∀ k, k < w → (p k).natAbs ≤ 1610612736) : ∃ (τ : ZS) (v : Nat → Int) (g al be : Int), f_X4_cancel N a1 a2 (nt (e : Nat)) a4 σ = some ((), τ) ∧ Row τ a4 w v ∧ τ.1 = σ.1 ∧ (∀ d, d ≠ a4 → τ.2 d = σ.2 d) ∧ g ≠ 0 ∧ al ≠ 0 ∧ al * r e = be * p e ∧ (∀ k, k < w → g * v k = al * r k - be * p k) ∧ (gz w v = 1 ∨ ∀ k, k < w → v k = 0) := by
  have hre := hrb e he
  have hpe2 := hpb e he
  have hg : (Int.gcd (r e) (p e) : Int) ≠ 0 := fun w => hpe (by
    have : Int.gcd (r e) (p e) = 0 := by omega
    exact (Int.gcd_eq_zero_iff.mp this).2)
  have hgp : 0 < (Int.gcd (r e) (p e) : Int) := by omega
  have d1 := Int.gcd_dvd_left (a := r e) (b := p e)
  have d2 := Int.gcd_dvd_right (a := r e) (b := p e)
  have hgl : (Int.gcd (r e) (p e) : Int) ≤ (p e).natAbs := by
    have := Nat.le_of_dvd (by omega) (Int.gcd_dvd_natAbs_right (r e) (p e))
    omega
  obtain ⟨al, hal⟩ : ∃ al, al = p e / (Int.gcd (r e) (p e) : Int) := ⟨_, rfl⟩
  obtain ⟨be, hbe⟩ : ∃ be, be = r e / (Int.gcd (r e) (p e) : Int) := ⟨_, rfl⟩
  have m1 : (Int.gcd (r e) (p e) : Int) * al = p e := by rw [hal]; exact Int.mul_ediv_cancel' d2
  have m2 : (Int.gcd (r e) (p e) : Int) * be = r e := by rw [hbe]; exact Int.mul_ediv_cancel' d1
  have ha0 : al ≠ 0 := fun w => hpe (by rw [← m1, w, Int.mul_zero])
  have hab : al.natAbs ≤ 1610612736 := by
    have := congrArg Int.natAbs m1
    rw [Int.natAbs_mul, Int.natAbs_natCast] at this
    have h2 : 1 * al.natAbs ≤ (Int.gcd (r e) (p e)) * al.natAbs := Nat.mul_le_mul_right _ (by omega)
    omega
  have hbb : be.natAbs ≤ 1610612736 := by
    have := congrArg Int.natAbs m2
    rw [Int.natAbs_mul, Int.natAbs_natCast] at this
    have h2 : 1 * be.natAbs ≤ (Int.gcd (r e) (p e)) * be.natAbs := Nat.mul_le_mul_right _ (by omega)
    omega
  have hvb : ∀ k, k < w → okJ (r k * al - p k * be) := by
    intro k hk
    have b1 : (r k * al).natAbs ≤ 1610612736 * 1610612736 := by rw [Int.natAbs_mul]; exact Nat.mul_le_mul (hrb k hk) hab
    have b2 : (p k * be).natAbs ≤ 1610612736 * 1610612736 := by rw [Int.natAbs_mul]; exact Nat.mul_le_mul (hpb k hk) hbb
    constructor <;> omega
  have hwd : ∀ s : ZS, s.1 = σ.1 → f_X4_width N s = some (nt (w : Nat), s) := fun s hs => s_width (by unfold gI; rw [hs]; exact hE) (by unfold gI; rw [hs]; exact hS) hES
  have key := lp_go (fun n k (s : ZS) => f_X4_cancel_h44 N a1 a2 a4 (jl al) (jl be) (nt (w : Nat)) n (nt (k : Nat)) s) (fun k => wJ σ a4 k (fun k => jl (r k * al - p k * be))) w (fun n k hk => by
    have g1 : gJ (wJ σ a4 k (fun k => jl (r k * al - p k * be))) a1 k = jl (r k) := by rw [gJ_wJ, if_neg (by omega)]; exact hr k hk
    have g2 : gJ (wJ σ a4 k (fun k => jl (r k * al - p k * be))) a2 k = jl (p k) := by rw [gJ_wJ, if_neg (by omega)]; exact hp k hk
    rw [f_X4_cancel_h44, le_f (by omega) (by omega) (by omega), ck_tg t1.1, t1.2, ck_inb (by omega) (by omega) (by omega), ck_tg t2.1, t2.2, ck_inb (by omega) (by omega) (by omega), nat_k (by omega), g1, g2, jl_mul, jl_mul, jl_sub, bd_eq, ck_tg t4.1, t4.2, ck_inb (by omega) (by omega) (by omega), bd_eq, n_1, nt_add, bd_eq, wJ_s σ a4 k (fun k => jl (r k * al - p k * be))]
    rfl) w 0 N (by omega) (by omega)
  obtain ⟨n, en⟩ : ∃ n, N - w = n + 1 := ⟨N - w - 1, by omega⟩
  have key : f_X4_cancel_h44 N a1 a2 a4 (jl al) (jl be) (nt (w : Nat)) N (0 : Int32) (wJ σ a4 0 (fun k => jl (r k * al - p k * be))) = f_X4_cancel_h44 N a1 a2 a4 (jl al) (jl be) (nt (w : Nat)) (N - w) (nt (w : Nat)) (wJ σ a4 w (fun k => jl (r k * al - p k * be))) := key
  rw [wJ_0] at key
  obtain ⟨τ, e1, e2, e3, e4⟩ := s_simplify (σ := wJ σ a4 w (fun k => jl (r k * al - p k * be))) hN t4.1 t4.2 hw (hwd _ rfl) Row_wJ hvb
  obtain ⟨g, hg0, hgm⟩ := shv_mul w (fun k => r k * al - p k * be)
  refine ⟨τ, shv w (fun k => r k * al - p k * be), g, al, be, ?_, e2, e3, fun d hd => by rw [e4 d hd]; exact wJ_o hd, by omega, ha0, ?_, fun k hk => ?_, shv_prim _ _⟩
  · unfold f_X4_cancel
    rw [ck_tg t1.1, t1.2, ck_inb (by omega) (by omega) (by omega), ck_tg t2.1, t2.2, ck_inb (by omega) (by omega) (by omega), nat_k (by omega), hr e he, hp e he, s_gcd hN ⟨by omega, by omega⟩ ⟨by omega, by omega⟩, obd_some, j_0, jeq_f (by omega) (by omega) (by omega) (by omega) (by omega), ← j_0, ck_tg t2.1, ck_inb (by omega) (by omega) (by omega), ck_j0 (by omega) (by omega) (by omega), hp e he, jl_div ⟨by omega, by omega⟩ ⟨by omega, by omega⟩, tdiv_g hgp d2, ← hal, bd_eq, ck_tg t1.1, ck_inb (by omega) (by omega) (by omega), ck_j0 (by omega) (by omega) (by omega), hr e he, jl_div ⟨by omega, by omega⟩ ⟨by omega, by omega⟩, tdiv_g hgp d1, ← hbe, bd_eq, hwd σ rfl, obd_some, key, en, f_X4_cancel_h44, le_t (by omega) (by omega) (by omega), e1, obd_some]
  · have h1 : (Int.gcd (r e) (p e) : Int) * (al * r e) = (Int.gcd (r e) (p e) : Int) * (be * p e) := by
      rw [← Int.mul_assoc, m1, ← Int.mul_assoc, m2, Int.mul_comm]
    exact Int.eq_of_mul_eq_mul_left hg h1
  · rw [← hgm k hk, Int.mul_comm (r k), Int.mul_comm (p k)]
/-- the first row that twists at an end -/
theorem s_rowWith (hN : 200 ≤ N) {e a m w : Nat} (he : e < w) (hw : w ≤ 26) (ham : a + m ≤ 78) {V : Nat → Nat → Int} (hV : ∀ i, i < m → Row σ (65 + (a + i)) w (V i)) (hb : ∀ i, i < m → okJ (V i e)) : (∃ i, i < m ∧ V i e ≠ 0 ∧ (∀ i', i' < i → V i' e = 0) ∧ f_X4_rowWith N (nt (e : Nat)) (nt (a : Nat)) (nt (m : Nat)) σ = some (nt ((a + i : Nat) : Int), σ)) ∨ ((∀ i, i < m → V i e = 0) ∧ f_X4_rowWith N (nt (e : Nat)) (nt (a : Nat)) (nt (m : Nat)) σ = some (nt (-6), σ)) := by
  unfold f_X4_rowWith
  have key : ∀ (j k n : Nat), k + j = m → j + 1 ≤ n → (∀ i, i < k → V i e = 0) → (∃ i, i < m ∧ V i e ≠ 0 ∧ (∀ i', i' < i → V i' e = 0) ∧ f_X4_rowWith_h3 N (nt (e : Nat)) (nt (a : Nat)) (nt (m : Nat)) n (nt ((a + k : Nat) : Int)) σ = some (nt ((a + i : Nat) : Int), σ)) ∨ ((∀ i, i < m → V i e = 0) ∧ f_X4_rowWith_h3 N (nt (e : Nat)) (nt (a : Nat)) (nt (m : Nat)) n (nt ((a + k : Nat) : Int)) σ = some (nt (-6), σ)) := by
    intro j
    induction j with
    | zero =>
      intro k n hk hn hz
      obtain rfl : k = m := by omega
      obtain ⟨n, rfl⟩ : ∃ m, n = m + 1 := ⟨n - 1, by omega⟩
      right
      refine ⟨hz, ?_⟩
      rw [f_X4_rowWith_h3, nt_add, le_t (by omega) (by omega) (by omega), n_m6]
    | succ j ih =>
      intro k n hk hn hz
      obtain ⟨n, rfl⟩ : ∃ m, n = m + 1 := ⟨n - 1, by omega⟩
      obtain ⟨b1, b2⟩ := hb k (by omega)
      have hg := hV k (by omega) e he
      have h1 : f_X4_rowWith_h3 N (nt (e : Nat)) (nt (a : Nat)) (nt (m : Nat)) (n + 1) (nt ((a + k : Nat) : Int)) σ = if V k e = 0 then f_X4_rowWith_h3 N (nt (e : Nat)) (nt (a : Nat)) (nt (m : Nat)) n (nt ((a + (k + 1) : Nat) : Int)) σ else some (nt ((a + k : Nat) : Int), σ) := by
        rw [f_X4_rowWith_h3, nt_add, le_f (by omega) (by omega) (by omega), ck_inb (by omega) (by omega) (by omega), nat_k (by omega), nat_k (by omega), ck_tg (tg_rows (by omega)), ln_rows (by omega), ck_inb (by omega) (by omega) (by omega), hg, j_0, n_1, nt_add, bd_eq]
        by_cases e0 : V k e = 0
        · rw [jeq_t e0, if_pos e0]; rfl
        · rw [jeq_f e0 (by omega) (by omega) (by omega) (by omega), if_neg e0]
      rw [h1]
      by_cases e0 : V k e = 0
      · rw [if_pos e0]
        exact ih (k + 1) n (by omega) (by omega) (fun i hi => by
          by_cases q : i = k
          · subst q; exact e0
          · exact hz i (by omega))
      · rw [if_neg e0]
        exact Or.inl ⟨k, by omega, e0, hz, rfl⟩
  exact key m 0 N (by omega) (by omega) (fun i hi => by omega)
end
