-- ===== the reference's way of a stair =====
theorem oJ_put {σ : ZS} {c b n f : Nat} {v : Nat → Int64} {x : Int64} (hf : f < n) : sJ (oJ σ c b n v) c (b + f) x = oJ σ c b n (fun j => if j = f then x else v j) := by
  unfold oJ sJ
  congr 1
  funext a k
  by_cases h : a = c
  · subst h
    rw [if_pos rfl]
    unfold vp_updL
    by_cases h2 : k = b + f
    · rw [if_pos h2, if_pos ⟨rfl, by omega, by omega⟩]
      try dsimp only
      rw [if_pos (by omega)]
    · rw [if_neg h2]
      try dsimp only
      by_cases h3 : b ≤ k ∧ k < b + n
      · rw [if_pos (show a = a ∧ b ≤ k ∧ k < b + n from ⟨rfl, h3⟩), if_pos (show a = a ∧ b ≤ k ∧ k < b + n from ⟨rfl, h3⟩), if_neg (by omega)]
      · rw [if_neg (show ¬ (a = a ∧ b ≤ k ∧ k < b + n) from fun q => h3 q.2), if_neg (show ¬ (a = a ∧ b ≤ k ∧ k < b + n) from fun q => h3 q.2)]
  · simp [h]
theorem sJ_self (σ : ZS) (c k : Nat) : sJ σ c k (gJ σ c k) = σ := by
  unfold sJ gJ
  have : (fun a => if a = c then vp_updL (σ.2 a) k (σ.2 c k) else σ.2 a) = σ.2 := by
    funext a j
    by_cases h : a = c
    · subst h
      rw [if_pos rfl]
      unfold vp_updL
      by_cases q : j = k
      · rw [if_pos q, q]
      · rw [if_neg q]
    · rw [if_neg h]
  rw [this]
theorem sZ_bd {f : Nat → Int} {B : Nat} : ∀ {n : Nat}, (∀ i, i < n → (f i).natAbs ≤ B) → (sZ n f).natAbs ≤ n * B := by
  intro n
  induction n with
  | zero => intro _; rw [Nat.zero_mul]; exact Nat.le_refl _
  | succ n ih =>
    intro h
    have h1 := ih (fun i hi => h i (by omega))
    have h2 := h n (by omega)
    rw [sZ_s, Nat.succ_mul]
    exact Nat.le_trans (Int.natAbs_add_le _ _) (by omega)
/-- all places but one are taken -/
theorem inj_miss {l : Nat} {P : Nat → Nat} (hi : inj l P) (h : ∀ k, k < l → P k < l + 1) : ∃ f, f < l + 1 ∧ (∀ k, k < l → P k ≠ f) ∧ ∀ j, j < l + 1 → j ≠ f → ∃ k, k < l ∧ P k = j := by
  have hex : ∃ f, f < l + 1 ∧ ∀ k, k < l → P k ≠ f := by
    apply Classical.byContradiction
    intro hn
    have hall : ∀ j, j < l + 1 → ∃ k, k < l ∧ P k = j := fun j hj => by
      apply Classical.byContradiction
      intro q
      exact hn ⟨j, hj, fun k hk e => q ⟨k, hk, e⟩⟩
    refine no_inj l (fun j => if hj : j < l + 1 then Classical.choose (hall j hj) else 0) (fun a b ha hb e => ?_) (fun i hi2 => ?_)
    · try dsimp only at e
      rw [dif_pos ha, dif_pos hb] at e
      have h1 := (Classical.choose_spec (hall a ha)).2
      have h2 := (Classical.choose_spec (hall b hb)).2
      rw [e] at h1
      rw [← h1, h2]
    · try dsimp only
      rw [dif_pos hi2]
      exact (Classical.choose_spec (hall i hi2)).1
  obtain ⟨f, hf, hm⟩ := hex
  refine ⟨f, hf, hm, fun j hj hjf => ?_⟩
  have hi' : inj (l + 1) (upN P l f) := fun a b ha hb e => by
    unfold upN at e
    by_cases q1 : a = l
    · by_cases q2 : b = l
      · omega
      · rw [if_pos q1, if_neg q2] at e
        exact absurd e.symm (hm b (by omega))
    · by_cases q2 : b = l
      · rw [if_neg q1, if_pos q2] at e
        exact absurd e (hm a (by omega))
      · rw [if_neg q1, if_neg q2] at e
        exact hi a b (by omega) (by omega) e
  obtain ⟨k, hk, e⟩ := inj_on hi' (fun k hk => by
    unfold upN
    split
    · exact hf
    · exact h k (by omega)) j hj
  unfold upN at e
  by_cases q : k = l
  · rw [if_pos q] at e; exact absurd e.symm hjf
  · rw [if_neg q] at e; exact ⟨k, by omega, e⟩
section
variable {N : Nat} {σ : ZS} {φ : FR}
/-- a motion at the places that the first ends leave -/
noncomputable def mk (E P : Nat → Nat) (k : Nat) (x : Nat → Int) : Nat → Int := fun j => if YS E P k j = 12 + j then x j else 0
/-- the way so far -/
def WI (φ : FR) (E P : Nat → Nat) (x : Nat → Int) (k : Nat) (u : Nat → Int) : Prop := gz (dd φ) u = 1 ∧ alg (dd φ) u (mk E P k x)
theorem WI_bd {E P : Nat → Nat} {x u : Nat → Int} {k : Nat} (hx : ∀ j, j < dd φ → (x j).natAbs ≤ 67108864) (h : WI φ E P x k u) : ∀ j, j < dd φ → (u j).natAbs ≤ 67108864 := fun j hj => by
  obtain ⟨h1, a, b, a0, b0, e⟩ := h
  refine Nat.le_trans (prim_le h1 a0 b0 e j hj) ?_
  unfold mk
  split
  · exact hx j hj
  · decide
/-- a row of the stair and the motion -/
theorem row_x (w : WF φ) {l k f : Nat} {E P : Nat → Nat} {V : Nat → Nat → Int} (hS : STR φ σ l E P V) (hk : k < l) (hf : f < dd φ) (hfu : YS E P l f = 12 + f) : sZ (dd φ) (fun j => V k j * xv φ (YS E P l) f j) = 0 := by
  have hw2 := w.2.1
  obtain ⟨_, _, ⟨a, b, a0, b0, e⟩, _⟩ := hS.2 k hk
  have htw : ∀ i, i < l → tw φ (E i) (xv φ (YS E P l) f) = 0 := fun i hi => by
    obtain ⟨h1, h2, _⟩ := hS.1 i hi
    have h3 := YS_at w hS.1 i hi
    have := psi_x w (Y := YS E P l) (l := P i) (k := f) h2 hf (by rw [h3]; exact h1)
    rw [h3, if_neg (fun q => by rw [q] at h3; omega)] at this
    exact this
  have h1 := tw_cr (φ := φ) (YS E P k) (E k) (xv φ (YS E P l) f)
  rw [htw k hk, Int.mul_zero] at h1
  have h2 : sZ (dd φ) (fun i => TS φ (YS E P k) (E k) i * xv φ (YS E P l) f i) = 0 := by
    rw [h1]
    refine sZ_congr (fun i hi => ?_)
    try dsimp only
    rcases YS_slot w (SP_lt hS.1 (show k ≤ l by omega)) i with h3 | ⟨k', h3, h4, h5⟩
    · unfold TS
      rw [if_pos h3, tw_xv _ hi]
      congr 1
      rw [sZ_one (f := fun j => fu φ (YS E P k i) j * xv φ (YS E P l) f j) (k := i) hi (fun j hj hji => by
        try dsimp only
        rw [h3]
        unfold fu
        rw [if_neg (by omega), show 12 + i - 12 = i by omega]
        unfold un
        rw [if_neg hji, Int.zero_mul])]
      rw [h3]
      unfold fu
      rw [if_neg (by omega), show 12 + i - 12 = i by omega]
      unfold un
      rw [if_pos rfl, Int.one_mul]
    · have h6 := (hS.1 k' (by omega)).1
      unfold TS
      rw [if_neg (by omega), Int.zero_mul]
      have h7 : sZ (dd φ) (fun j => fu φ (YS E P k i) j * xv φ (YS E P l) f j) = tw φ (E k') (xv φ (YS E P l) f) := by
        unfold tw
        refine sZ_congr (fun j _ => ?_)
        try dsimp only
        rw [h5]
        unfold fu
        rw [if_pos (by omega)]
      rw [h7, htw k' (by omega), Int.mul_zero]
  have h3 : a * sZ (dd φ) (fun j => V k j * xv φ (YS E P l) f j) = 0 := by
    rw [← sZ_mul]
    have : sZ (dd φ) (fun j => a * (V k j * xv φ (YS E P l) f j)) = sZ (dd φ) (fun j => b * (TS φ (YS E P k) (E k) j * xv φ (YS E P l) f j)) := sZ_congr (fun j hj => by
      try dsimp only
      rw [← Int.mul_assoc, e j hj, Int.mul_assoc])
    rw [this, sZ_mul, h2, Int.mul_zero]
  exact (Int.mul_eq_zero.mp h3).resolve_left a0
/-- one row's step back -/
theorem WI_step (w : WF φ) {l k f : Nat} {E P : Nat → Nat} {V : Nat → Nat → Int} (hS : STR φ σ l E P V) (hk : k < l) (hf : f < dd φ) (hfu : YS E P l f = 12 + f) {u : Nat → Int} (hu : WI φ E P (xv φ (YS E P l) f) (k + 1) u) {g s t : Int} (hg : 0 < g) (hs : sZ (dd φ) (fun j => V k j * u j) = g * s) (ht : V k (P k) = g * t) (hst : Int.gcd s t = 1) : u (P k) = 0 ∧ WI φ E P (xv φ (YS E P l) f) k (fun j => if j = P k then -s else u j * t) := by
  have hw2 := w.2.1
  obtain ⟨p1, p2, p3⟩ := hS.1 k hk
  have hsp := STR_p hS hk
  have hun := SP_un hS.1 hk
  obtain ⟨_, _, ⟨c, d, c0, d0, eV⟩, _⟩ := hS.2 k hk
  obtain ⟨h1, a, b, a0, b0, e⟩ := hu
  have hx := row_x w hS hk hf hfu
  generalize xv φ (YS E P l) f = x at *
  have hpk : YS E P (k + 1) (P k) = E k := YS_at w (SP_lt hS.1 (show k + 1 ≤ l by omega)) k (by omega)
  have hm1 : mk E P (k + 1) x (P k) = 0 := by unfold mk; rw [hpk, if_neg (by omega)]
  have hu0 : u (P k) = 0 := by
    have := e (P k) p2
    rw [hm1, Int.mul_zero] at this
    exact (Int.mul_eq_zero.mp this).resolve_left a0
  have hmj : ∀ j, j ≠ P k → mk E P (k + 1) x j = mk E P k x j := fun j hj => by
    have : YS E P (k + 1) j = YS E P k j := by
      show upN (YS E P k) (P k) (E k) j = _
      unfold upN
      rw [if_neg hj]
    unfold mk
    rw [this]
  have ht0 : t ≠ 0 := fun q => by rw [q, Int.mul_zero] at ht; exact hsp ht
  -- the sum
  have hV0 : ∀ j, j < dd φ → YS E P k j ≠ 12 + j → V k j = 0 := fun j hj q => by
    have := eV j hj
    unfold TS at this
    rw [if_neg q, Int.mul_zero] at this
    exact (Int.mul_eq_zero.mp this).resolve_left c0
  have hsum : a * (g * s) = - (b * (g * t * x (P k))) := by
    have f1 : a * (g * s) = b * sZ (dd φ) (fun j => V k j * mk E P (k + 1) x j) := by
      rw [← hs, ← sZ_mul, ← sZ_mul]
      refine sZ_congr (fun j hj => ?_)
      try dsimp only
      have := e j hj
      calc a * (V k j * u j) = V k j * (a * u j) := by grind
        _ = V k j * (b * mk E P (k + 1) x j) := by rw [this]
        _ = b * (V k j * mk E P (k + 1) x j) := by grind
    have f2 : sZ (dd φ) (fun j => V k j * x j) - sZ (dd φ) (fun j => V k j * mk E P (k + 1) x j) = V k (P k) * x (P k) := by
      rw [← sZ_sub]
      rw [sZ_one (f := fun j => V k j * x j - V k j * mk E P (k + 1) x j) (k := P k) p2 (fun j hj hjp => by
        try dsimp only
        rw [hmj j hjp]
        by_cases q : YS E P k j = 12 + j
        · unfold mk; rw [if_pos q]; omega
        · rw [hV0 j hj q, Int.zero_mul, Int.zero_mul]; rfl)]
      rw [hm1, Int.mul_zero, Int.sub_zero]
    rw [hx] at f2
    rw [f1, ← ht]
    have : sZ (dd φ) (fun j => V k j * mk E P (k + 1) x j) = -(V k (P k) * x (P k)) := by omega
    rw [this, Int.mul_neg]
  have hs2 : a * s = - (b * (t * x (P k))) := by
    have : g * (a * s) = g * (-(b * (t * x (P k)))) := by
      calc g * (a * s) = a * (g * s) := by grind
        _ = - (b * (g * t * x (P k))) := hsum
        _ = g * (-(b * (t * x (P k)))) := by grind
    exact Int.eq_of_mul_eq_mul_left (by omega) this
  refine ⟨hu0, ?_, a, b * t, a0, Int.mul_ne_zero b0 ht0, fun j hj => ?_⟩
  · -- no common divisor
    have hd1 : ∀ j, j < dd φ → ((gz (dd φ) (fun j => if j = P k then -s else u j * t) : Nat) : Int) ∣ t * u j := fun j hj => by
      have := gz_dvd (v := fun j => if j = P k then -s else u j * t) hj
      by_cases q : j = P k
      · rw [q, hu0, Int.mul_zero]; exact Int.dvd_zero _
      · try dsimp only at this
        rw [if_neg q, Int.mul_comm] at this
        exact this
    have hd2 := gz_max hd1
    rw [gz_mul (v := u) (c := t) (dd φ), h1, Nat.mul_one] at hd2
    have hd3 := gz_dvd (v := fun j => if j = P k then -s else u j * t) p2
    try dsimp only at hd3
    rw [if_pos rfl] at hd3
    have hd4 : gz (dd φ) (fun j => if j = P k then -s else u j * t) ∣ s.natAbs := by
      have := Int.natAbs_dvd_natAbs.mpr hd3
      rw [Int.natAbs_neg] at this
      exact this
    have hd5 : gz (dd φ) (fun j => if j = P k then -s else u j * t) ∣ Int.gcd s t := Nat.dvd_gcd hd4 hd2
    rw [hst] at hd5
    exact Nat.dvd_one.mp hd5
  · try dsimp only
    by_cases q : j = P k
    · rw [if_pos q, q]
      have : mk E P k x (P k) = x (P k) := by unfold mk; rw [if_pos hun]
      rw [this]
      calc a * -s = -(a * s) := by grind
        _ = b * t * x (P k) := by rw [hs2]; grind
    · rw [if_neg q, ← hmj j q]
      calc a * (u j * t) = (a * u j) * t := by grind
        _ = b * mk E P (k + 1) x j * t := by rw [e j hj]
        _ = b * t * mk E P (k + 1) x j := by grind
end
