-- ===== the reference: rows inside a cell =====
/-- places of a cell written from one on -/
def oJ (σ : ZS) (c b n : Nat) (v : Nat → Int64) : ZS := (σ.1, fun a k => if a = c ∧ b ≤ k ∧ k < b + n then v (k - b) else σ.2 a k)
theorem gJ_oJ (σ : ZS) (c b n : Nat) (v : Nat → Int64) (c' k' : Nat) : gJ (oJ σ c b n v) c' k' = if c' = c ∧ b ≤ k' ∧ k' < b + n then v (k' - b) else gJ σ c' k' := rfl
theorem gI_oJ (σ : ZS) (c b n : Nat) (v : Nat → Int64) (c' k' : Nat) : gI (oJ σ c b n v) c' k' = gI σ c' k' := rfl
theorem oJ_0 (σ : ZS) (c b : Nat) (v : Nat → Int64) : oJ σ c b 0 v = σ := by
  unfold oJ
  have : (fun a k => if a = c ∧ b ≤ k ∧ k < b + 0 then v (k - b) else σ.2 a k) = σ.2 := by
    funext a k; rw [if_neg (by omega)]
  rw [this]
theorem oJ_o {σ : ZS} {c b n d : Nat} {v : Nat → Int64} (h : d ≠ c) : (oJ σ c b n v).2 d = σ.2 d := by
  funext k
  show (if d = c ∧ b ≤ k ∧ k < b + n then v (k - b) else σ.2 d k) = σ.2 d k
  rw [if_neg (fun q => h q.1)]
theorem oJ_s (σ : ZS) (c b n : Nat) (v : Nat → Int64) : sJ (oJ σ c b n v) c (b + n) (v n) = oJ σ c b (n + 1) v := by
  unfold oJ sJ
  congr 1
  funext a k
  by_cases h : a = c
  · subst h
    by_cases h2 : k = b + n
    · subst h2
      simp [vp_updL]
    · rw [if_pos rfl]
      unfold vp_updL
      rw [if_neg h2]
      try dsimp only
      by_cases h3 : b ≤ k ∧ k < b + n
      · rw [if_pos (show a = a ∧ b ≤ k ∧ k < b + n from ⟨rfl, h3⟩), if_pos (show a = a ∧ b ≤ k ∧ k < b + (n + 1) from ⟨rfl, by omega⟩)]
      · rw [if_neg (show ¬ (a = a ∧ b ≤ k ∧ k < b + n) from fun q => h3 q.2), if_neg (show ¬ (a = a ∧ b ≤ k ∧ k < b + (n + 1)) from fun q => h3 (by omega))]
  · simp [h]
theorem oJ_oJ (σ : ZS) (c b n : Nat) (v v' : Nat → Int64) : oJ (oJ σ c b n v) c b n v' = oJ σ c b n v' := by
  unfold oJ
  congr 1
  funext a k
  try dsimp only
  by_cases h : a = c ∧ b ≤ k ∧ k < b + n
  · rw [if_pos h, if_pos h]
  · rw [if_neg h, if_neg h, if_neg h]
theorem oJ_same {σ : ZS} {c b n : Nat} {v : Nat → Int64} (h : ∀ j, j < n → gJ σ c (b + j) = v j) : oJ σ c b n v = σ := by
  unfold oJ
  have : (fun a k => if a = c ∧ b ≤ k ∧ k < b + n then v (k - b) else σ.2 a k) = σ.2 := by
    funext a k
    by_cases q : a = c ∧ b ≤ k ∧ k < b + n
    · rw [if_pos q]
      obtain ⟨q0, q1, q2⟩ := q
      have := h (k - b) (by omega)
      unfold gJ at this
      rw [show b + (k - b) = k by omega, ← q0] at this
      exact this.symm
    · rw [if_neg q]
  rw [this]
theorem oJ_congr {σ : ZS} {c b n : Nat} {v v' : Nat → Int64} (h : ∀ j, j < n → v j = v' j) : oJ σ c b n v = oJ σ c b n v' := by
  unfold oJ
  congr 1
  funext a k
  by_cases q : a = c ∧ b ≤ k ∧ k < b + n
  · rw [if_pos q, if_pos q]; exact h _ (by omega)
  · rw [if_neg q, if_neg q]
/-- a row from a place on -/
def Ro (σ : ZS) (c b d : Nat) (v : Nat → Int) : Prop := ∀ j, j < d → gJ σ c (b + j) = jl (v j)
theorem Ro_oJ {σ : ZS} {c b d : Nat} {v : Nat → Int} : Ro (oJ σ c b d (fun j => jl (v j))) c b d v := fun j hj => by
  rw [gJ_oJ, if_pos ⟨rfl, by omega, by omega⟩, show b + j - b = j by omega]
section
variable {N : Nat} {σ : ZS} {φ : FR}
theorem m_shorten (hN : 200 ≤ N) {d b : Nat} (hd : d ≤ 21) (hb : b ≤ 231) (h10 : gI σ 1067 10 = nt (d : Nat)) {v : Nat → Int} (h : Ro σ 1078 b d v) (hv : ∀ k, k < d → okJ (v k)) : f_X6_shorten N (nt (b : Nat)) σ = some ((), oJ σ 1078 b d (fun k => jl (shv d v k))) := by
  unfold f_X6_shorten
  have hB : ∀ n, n ≤ d → gz n v ≤ 9223372036854775807 := fun n hn => gz_le (fun k hk => by
    obtain ⟨h1, h2⟩ := hv k (by omega); omega)
  have key : ∀ (j k n : Nat), k + j = d → j + 1 ≤ n → f_X6_shorten_h5 N (nt (b : Nat)) n (jl (gz k v)) (nt (k : Nat)) σ = f_X6_shorten_h37 N (nt (b : Nat)) (jl (gz d v)) N (nt 0) σ := by
    intro j
    induction j with
    | zero =>
      intro k n hk hn
      obtain rfl : k = d := by omega
      obtain ⟨n, rfl⟩ : ∃ m, n = m + 1 := ⟨n - 1, by omega⟩
      rw [f_X6_shorten_h5, h10, le_t (by omega) (by omega) (by omega), n_0]
    | succ j ih =>
      intro k n hk hn
      obtain ⟨n, rfl⟩ : ∃ m, n = m + 1 := ⟨n - 1, by omega⟩
      have hb1 := hB k (by omega)
      rw [f_X6_shorten_h5, h10, le_f (by omega) (by omega) (by omega), nt_add, ck_inb (by omega) (by omega) (by omega), nat_nt (by omega) (by omega), show ((b : Nat) + (k : Nat) : Int).toNat = b + k by omega, h k (by omega), m_common hN ⟨by omega, by omega⟩ (hv k (by omega)), obd_some, n_1, nt_add, bd_eq]
      have e2 : (Int.gcd ((gz k v : Nat) : Int) (v k) : Int) = ((gz (k + 1) v : Nat) : Int) := rfl
      rw [e2]
      exact ih (k + 1) n (by omega) (by omega)
  have k0 := key d 0 N (by omega) (by omega)
  have k0 : f_X6_shorten_h5 N (nt (b : Nat)) N (0 : Int64) (0 : Int32) σ = f_X6_shorten_h37 N (nt (b : Nat)) (jl (gz d v)) N (nt 0) σ := k0
  rw [k0]
  have hb1 := hB d (by omega)
  by_cases e : gz d v ≤ 1
  · have hst : oJ σ 1078 b d (fun k => jl (shv d v k)) = σ := oJ_same (fun j hj => by
      rw [h j hj]; unfold shv; rw [if_pos e])
    rw [hst]
    have h0 : ∀ n, f_X6_shorten_h37 N (nt (b : Nat)) (jl (gz d v)) (n + 1) (nt 0) σ = some ((), σ) := fun n => by
      rw [f_X6_shorten_h37, h10, j_1, jlt_f (by omega) (by omega) (by omega)]
      exact ite_self _
    obtain ⟨m, em⟩ : ∃ m, N = m + 1 := ⟨N - 1, by omega⟩
    have := h0 m
    rw [← em] at this
    exact this
  · have key2 := lp_go (fun n k (s : ZS) => f_X6_shorten_h37 N (nt (b : Nat)) (jl (gz d v)) n (nt (k : Nat)) s) (fun k => oJ σ 1078 b k (fun k => jl (shv d v k))) d (fun n k hk => by
      obtain ⟨h1, h2⟩ := hv k hk
      have hg : gJ (oJ σ 1078 b k (fun k => jl (shv d v k))) 1078 (b + k) = jl (v k) := by
        rw [gJ_oJ, if_neg (by omega)]; exact h k hk
      have h10' : gI (oJ σ 1078 b k (fun k => jl (shv d v k))) 1067 10 = nt (d : Nat) := h10
      rw [f_X6_shorten_h37, h10', le_f (by omega) (by omega) (by omega), j_1, jlt_t (by omega) (by omega) (by omega), nt_add, bd_eq, ck_inb (by omega) (by omega) (by omega), ck_j0 (by omega) (by omega) (by omega), nat_nt (by omega) (by omega), show ((b : Nat) + (k : Nat) : Int).toNat = b + k by omega, hg, jl_div ⟨by omega, by omega⟩ ⟨by omega, by omega⟩, tdiv_g (by omega) (gz_dvd hk), bd_eq, ck_inb (by omega) (by omega) (by omega), bd_eq, n_1, nt_add, bd_eq]
      have e3 : v k / ((gz d v : Nat) : Int) = shv d v k := by unfold shv; rw [if_neg e]
      rw [e3, oJ_s σ 1078 b k (fun k => jl (shv d v k))]
      rfl) d 0 N (by omega) (by omega)
    have key2 : f_X6_shorten_h37 N (nt (b : Nat)) (jl (gz d v)) N (nt 0) (oJ σ 1078 b 0 (fun k => jl (shv d v k))) = f_X6_shorten_h37 N (nt (b : Nat)) (jl (gz d v)) (N - d) (nt (d : Nat)) (oJ σ 1078 b d (fun k => jl (shv d v k))) := key2
    rw [oJ_0] at key2
    obtain ⟨n, en⟩ : ∃ n, N - d = n + 1 := ⟨N - d - 1, by omega⟩
    have h10' : gI (oJ σ 1078 b d (fun k => jl (shv d v k))) 1067 10 = nt (d : Nat) := h10
    rw [key2, en, f_X6_shorten_h37, h10', le_t (by omega) (by omega) (by omega)]
end
-- ===== rows on the stair: by determinants =====
/-- an end's row, less the ends put: 0 at their places -/
noncomputable def TS (φ : FR) (Y : Nat → Nat) (e : Nat) : Nat → Int := fun j => if Y j = 12 + j then tw φ e (xv φ Y j) else 0
/-- codes after so many ends E at places P -/
def YS (E P : Nat → Nat) : Nat → Nat → Nat
  | 0 => fun j => 12 + j
  | k + 1 => upN (YS E P k) (P k) (E k)
/-- a good stair -/
def SP (φ : FR) (l : Nat) (E P : Nat → Nat) : Prop := ∀ k, k < l → E k < 2 * nb φ ∧ P k < dd φ ∧ TS φ (YS E P k) (E k) (P k) ≠ 0
section
variable {N : Nat} {σ : ZS} {φ : FR}
theorem TS_step (w : WF φ) {Y : Nat → Nat} {p e0 e j : Nat} (hp : p < dd φ) (hj : j < dd φ) (hY : Y p = 12 + p) (he0 : e0 < 2 * nb φ) : Dt φ Y * TS φ (upN Y p e0) e j = TS φ Y e j * TS φ Y e0 p - TS φ Y e0 j * TS φ Y e p := by
  have hw2 := w.2.1
  by_cases q : j = p
  · subst q
    unfold TS upN
    rw [if_pos rfl, if_neg (by omega), Int.mul_zero, Int.mul_comm]
    omega
  · by_cases q2 : Y j = 12 + j
    · have h6 := dt_two (dd φ) (Mx φ Y) p j hp hj (fun h => q h.symm) (Rz φ e0) (Rz φ e)
      have e1 : TS φ (upN Y p e0) e j = dt (dd φ) (up (up (Mx φ Y) p (Rz φ e0)) j (Rz φ e)) := by
        unfold TS
        rw [if_pos (by unfold upN; rw [if_neg q]; exact q2), tw_xv _ hj, Mx_up w Y p he0]
      have e2 : ∀ f, TS φ Y f j = dt (dd φ) (up (Mx φ Y) j (Rz φ f)) := fun f => by
        unfold TS; rw [if_pos q2, tw_xv Y hj]
      have e3 : ∀ f, TS φ Y f p = dt (dd φ) (up (Mx φ Y) p (Rz φ f)) := fun f => by
        unfold TS; rw [if_pos hY, tw_xv Y hp]
      rw [e1, e2, e2, e3, e3]
      exact h6
    · have e1 : ∀ f, TS φ Y f j = 0 := fun f => by unfold TS; rw [if_neg q2]
      have e2 : TS φ (upN Y p e0) e j = 0 := by
        unfold TS; rw [if_neg (by unfold upN; rw [if_neg q]; exact q2)]
      rw [e1, e1, e2, Int.mul_zero, Int.zero_mul, Int.zero_mul]; rfl
theorem YS_congr {E P E' P' : Nat → Nat} : ∀ {l : Nat}, (∀ k, k < l → E k = E' k ∧ P k = P' k) → YS E P l = YS E' P' l := by
  intro l
  induction l with
  | zero => intro _; rfl
  | succ l ih =>
    intro h
    show upN (YS E P l) (P l) (E l) = upN (YS E' P' l) (P' l) (E' l)
    rw [ih (fun k hk => h k (by omega)), (h l (by omega)).1, (h l (by omega)).2]
theorem SP_lt {l l' : Nat} {E P : Nat → Nat} (h : SP φ l E P) (hl : l' ≤ l) : SP φ l' E P := fun k hk => h k (by omega)
theorem SP_congr {l : Nat} {E P E' P' : Nat → Nat} (h : SP φ l E P) (he : ∀ k, k < l → E k = E' k ∧ P k = P' k) : SP φ l E' P' := fun k hk => by
  have := h k hk
  rw [YS_congr (fun i hi => he i (by omega)), (he k hk).1, (he k hk).2] at this
  exact this
theorem SP_un {l k : Nat} {E P : Nat → Nat} (h : SP φ l E P) (hk : k < l) : YS E P k (P k) = 12 + P k := by
  apply Classical.byContradiction
  intro q
  have := (h k hk).2.2
  unfold TS at this
  rw [if_neg q] at this
  exact this rfl
/-- a place holds its number or an end put there -/
theorem YS_slot (w : WF φ) : ∀ {l : Nat} {E P : Nat → Nat}, SP φ l E P → ∀ j, YS E P l j = 12 + j ∨ ∃ k, k < l ∧ P k = j ∧ YS E P l j = E k := by
  intro l
  induction l with
  | zero => intro E P _ j; exact Or.inl rfl
  | succ l ih =>
    intro E P h j
    show upN (YS E P l) (P l) (E l) j = 12 + j ∨ ∃ k, k < l + 1 ∧ P k = j ∧ upN (YS E P l) (P l) (E l) j = E k
    unfold upN
    by_cases q : j = P l
    · rw [if_pos q]; exact Or.inr ⟨l, by omega, q.symm, rfl⟩
    · rw [if_neg q]
      rcases ih (SP_lt h (by omega)) j with h1 | ⟨k, h1, h2, h3⟩
      · exact Or.inl h1
      · exact Or.inr ⟨k, by omega, h2, h3⟩
theorem YS_at (w : WF φ) : ∀ {l : Nat} {E P : Nat → Nat}, SP φ l E P → ∀ k, k < l → YS E P l (P k) = E k := by
  have hw2 := w.2.1
  intro l
  induction l with
  | zero => intro E P _ k hk; omega
  | succ l ih =>
    intro E P h k hk
    show upN (YS E P l) (P l) (E l) (P k) = E k
    unfold upN
    by_cases q : k = l
    · subst q; rw [if_pos rfl]
    · have h1 := ih (SP_lt h (by omega)) k (by omega)
      have h2 := SP_un h (k := l) (by omega)
      have h3 := (h k hk).1
      rw [if_neg (fun q2 => by rw [q2] at h1; omega)]
      exact h1
theorem SP_inj (w : WF φ) {l : Nat} {E P : Nat → Nat} (h : SP φ l E P) : inj l P := by
  have hw2 := w.2.1
  have key : ∀ a b, a < b → b < l → P a ≠ P b := fun a b hab hb q => by
    have h1 := YS_at w (SP_lt h (show b ≤ l by omega)) a hab
    have h2 := SP_un h hb
    have h3 := (h a (by omega)).1
    rw [q] at h1; omega
  intro a b ha hb q
  apply Classical.byContradiction
  intro hn
  rcases Nat.lt_or_gt_of_ne hn with h1 | h1
  · exact key a b h1 hb q
  · exact key b a h1 ha q.symm
theorem YS_ok {l : Nat} {E P : Nat → Nat} (w : WF φ) (h : SP φ l E P) : ∀ j, j < dd φ → okc φ (dd φ) (YS E P l j) := fun j hj => by
  rcases YS_slot w h j with h1 | ⟨k, h1, h2, h3⟩
  · rw [h1]; exact Or.inr ⟨by omega, by omega⟩
  · rw [h3]; exact Or.inl (h k h1).1
theorem Dt_YS (w : WF φ) {l : Nat} {E P : Nat → Nat} (h : SP φ l E P) : Dt φ (YS E P l) ≠ 0 := by
  induction l with
  | zero =>
    have : Dt φ (YS E P 0) = 1 := by
      unfold Dt
      rw [← dt_un (dd φ)]
      refine dt_congr (fun i _ j _ => ?_)
      show fu φ (12 + i) j = un i j
      unfold fu
      rw [if_neg (by omega), show 12 + i - 12 = i by omega]
    rw [this]; decide
  | succ l ih =>
    obtain ⟨h1, h2, h3⟩ := h l (by omega)
    show Dt φ (upN (YS E P l) (P l) (E l)) ≠ 0
    rw [D_up w _ h2 h1]
    unfold TS at h3
    rw [if_pos (SP_un h (by omega))] at h3
    exact h3
theorem TS_bd (w : WF φ) {l : Nat} {E P : Nat → Nat} (h : SP φ l E P) {e j : Nat} (he : e < 2 * nb φ) (hj : j < dd φ) : (TS φ (YS E P l) e j).natAbs ≤ 67108864 := by
  unfold TS
  split
  · rw [tw_xv _ hj, ← Mx_up w _ j he]
    exact dt_any w (okc_up (YS_ok w h) (Or.inl he))
  · decide
/-- what ends put do not tell -/
theorem TS_z (w : WF φ) {l : Nat} {E P : Nat → Nat} (h : SP φ l E P) {e : Nat} (hz : ∀ j, j < dd φ → TS φ (YS E P l) e j = 0) (q : Nat → Int) (hq : ∀ k, k < l → tw φ (E k) q = 0) : tw φ e q = 0 := by
  have h1 := tw_cr (φ := φ) (YS E P l) e q
  have h2 : sZ (dd φ) (fun i => dt (dd φ) (up (Mx φ (YS E P l)) i (Rz φ e)) * sZ (dd φ) (fun j => fu φ (YS E P l i) j * q j)) = 0 := sZ_zero (fun i hi => by
    try dsimp only
    rcases YS_slot w h i with h3 | ⟨k, h3, h4, h5⟩
    · have := hz i hi
      unfold TS at this
      rw [if_pos h3, tw_xv _ hi] at this
      rw [this, Int.zero_mul]
    · have h6 : sZ (dd φ) (fun j => fu φ (YS E P l i) j * q j) = tw φ (E k) q := by
        unfold tw
        have hw2 := w.2.1
        have := (h k h3).1
        refine sZ_congr (fun j _ => ?_)
        try dsimp only
        rw [h5]
        unfold fu
        rw [if_pos (by omega)]
      rw [h6, hq k h3, Int.mul_zero])
  rw [h2] at h1
  exact (Int.mul_eq_zero.mp h1).resolve_left (Dt_YS w h)
theorem TS_n (w : WF φ) {l : Nat} {E P : Nat → Nat} (h : SP φ l E P) {e j : Nat} (hj : j < dd φ) (hn : TS φ (YS E P l) e j ≠ 0) : (∀ k, k < l → tw φ (E k) (xv φ (YS E P l) j) = 0) ∧ tw φ e (xv φ (YS E P l) j) ≠ 0 := by
  have hu : YS E P l j = 12 + j := by
    apply Classical.byContradiction
    intro q
    unfold TS at hn
    rw [if_neg q] at hn
    exact hn rfl
  refine ⟨fun k hk => ?_, ?_⟩
  · have hw2 := w.2.1
    obtain ⟨h1, h2, _⟩ := h k hk
    have h3 := YS_at w h k hk
    have := psi_x w (Y := YS E P l) (l := P k) (k := j) h2 hj (by rw [h3]; exact h1)
    rw [h3, if_neg (fun q => by rw [q] at h3; omega)] at this
    exact this
  · unfold TS at hn
    rw [if_pos hu] at hn
    exact hn
end
