-- ===== rows by codes: ends and single numbers; sizes of their determinants =====
theorem dt_swap (n : Nat) (v : Nat → Nat → Int) (a b : Nat) (ha : a < n) (hb : b < n) (hab : a ≠ b) (x y : Nat → Int) : dt n (up (up v a y) b x) = - dt n (up (up v a x) b y) := by
  have h0 : ∀ z : Nat → Int, dt n (up (up v a z) b z) = 0 := fun z => dt_same n _ a b ha hb hab (by rw [up_at, up_ne hab, up_at])
  have h1 := h0 (fun j => x j + y j)
  rw [dt_add n b hb] at h1
  have c1 : ∀ z : Nat → Int, dt n (up (up v a (fun j => x j + y j)) b z) = dt n (up (up v a x) b z) + dt n (up (up v a y) b z) := fun z => by
    rw [up_comm hab, dt_add n a ha, up_comm hab v x z, up_comm hab v y z]
  rw [c1 x, c1 y, h0 x, h0 y] at h1
  omega
theorem dt_adj (n : Nat) (v : Nat → Nat → Int) (k : Nat) (hk : k < n) (y : Nat → Int) : sZ n (fun j => y j * dt n (up v k (un j))) = dt n (up v k y) := by
  rw [← dt_sum n k hk v y un n]
  refine dt_congr (fun i hi j hj => ?_)
  by_cases e : i = k
  · subst e
    rw [up_at, up_at, sZ_one (k := j) hj (fun i _ h => by rw [show un i j = 0 from if_neg (fun w => h w.symm)]; omega), show un j j = 1 from if_pos rfl]; omega
  · rw [up_ne e, up_ne e]
/-- two rows put in at once -/
theorem dt_two (n : Nat) (v : Nat → Nat → Int) (a i : Nat) (ha : a < n) (hi : i < n) (hai : a ≠ i) (x y : Nat → Int) : dt n v * dt n (up (up v a x) i y) = dt n (up v i y) * dt n (up v a x) - dt n (up v i x) * dt n (up v a y) := by
  rw [← dt_mul n i hi]
  have e : dt n (up (up v a x) i (fun j => dt n v * y j)) = dt n (up (up v a x) i (fun j => sZ n (fun k => dt n (up v k y) * v k j))) := dt_congr (fun r hr j hj => by
    by_cases q : r = i
    · subst q; rw [up_at, up_at]; exact dt_cramer n v y j hj
    · rw [up_ne q, up_ne q])
  rw [e, dt_sum n i hi]
  obtain ⟨n, rfl⟩ : ∃ m, n = m + 1 := ⟨n - 1, by omega⟩
  rw [sZ_skip _ n i (by omega)]
  obtain ⟨a', ha', ea⟩ := sk_ex (k := i) (j := a) (n := n) hai ha (by omega)
  rw [sZ_one (k := a') ha' (fun k hk hne => by
    have hs : sk i k ≠ a := fun w => hne (sk_inj (by rw [w, ea]))
    have : dt (n + 1) (up (up v a x) i (v (sk i k))) = 0 := dt_same (n + 1) _ (sk i k) i (sk_bd hk) hi (sk_ne i k) (by rw [up_at, up_ne (sk_ne i k), up_ne hs])
    rw [this]; omega)]
  rw [ea]
  have h1 : dt (n + 1) (up (up v a x) i (v i)) = dt (n + 1) (up v a x) := by
    have : up (up v a x) i (v i) = up v a x := by
      have h := up_self (up v a x) i
      rwa [up_ne (fun w => hai w.symm)] at h
    rw [this]
  have h2 : dt (n + 1) (up (up v a x) i (v a)) = - dt (n + 1) (up v i x) := by
    rw [dt_swap (n + 1) v a i ha hi hai (v a) x]
    have : up (up v a (v a)) i x = up v i x := by rw [up_self]
    rw [this]
  rw [h1, h2]
  grind
/-- Cramer, for a vector of integers -/
theorem dt_vec (n : Nat) (v : Nat → Nat → Int) (y q : Nat → Int) : dt n v * sZ n (fun j => y j * q j) = sZ n (fun l => dt n (up v l y) * sZ n (fun j => v l j * q j)) := by
  rw [← sZ_mul, sZ_congr (n := n) (g := fun j => sZ n (fun l => dt n (up v l y) * (v l j * q j))) (fun j hj => by
    rw [← Int.mul_assoc, dt_cramer n v y j hj, ← sZ_mulr]
    exact sZ_congr (fun l _ => by grind)), sZ_comm]
  exact sZ_congr (fun l _ => by rw [sZ_mul])
/-- and of rationals -/
theorem dt_vecq (n : Nat) (v : Nat → Nat → Int) (y : Nat → Int) (q : Nat → Rat) : (dt n v : Rat) * dq n (fun j => (y j : Rat)) q = sQ n (fun l => (dt n (up v l y) : Rat) * dq n (fun j => (v l j : Rat)) q) := by
  unfold dq
  rw [← sQ_mul, sQ_congr (n := n) (g := fun j => sQ n (fun l => (dt n (up v l y) : Rat) * ((v l j : Rat) * q j))) (fun j hj => by
    have h := dt_cramer n v y j hj
    have h2 : ((dt n v * y j : Int) : Rat) = ((sZ n (fun k => dt n (up v k y) * v k j) : Int) : Rat) := by rw [h]
    rw [Rat.intCast_mul, sZQ] at h2
    rw [← Rat.mul_assoc, h2, ← sQ_mulr]
    exact sQ_congr (fun l _ => by rw [Rat.intCast_mul]; grind)), sQ_comm]
  exact sQ_congr (fun l _ => by rw [sQ_mul])
-- sums of naturals
def sN : Nat → (Nat → Nat) → Nat
  | 0, _ => 0
  | n + 1, f => sN n f + f n
theorem pr_le {L g : Nat → Nat} : ∀ t : Nat, (∀ r, r < t → L r ≤ 2 ^ g r) → pr L t ≤ 2 ^ sN t g := by
  intro t
  induction t with
  | zero => intro _; exact Nat.le_refl _
  | succ t ih =>
    intro h
    show L t * pr L t ≤ 2 ^ (sN t g + g t)
    rw [Nat.pow_add, Nat.mul_comm (2 ^ sN t g)]
    exact Nat.mul_le_mul (h t (by omega)) (ih (fun r hr => h r (by omega)))
theorem pow_k1 : ∀ k : Nat, 4 * k ≤ 2 ^ (k + 1) := by
  intro k
  induction k with
  | zero => exact Nat.zero_le _
  | succ k ih =>
    rw [Nat.pow_succ]
    cases k with
    | zero => decide
    | succ k =>
      have : 2 ^ 2 ≤ 2 ^ (k + 1 + 1) := Nat.pow_le_pow_right (by omega) (by omega)
      omega
theorem pow_k2 (k : Nat) : 4 * k + 1 ≤ 2 ^ (k + 2) := by
  have h1 := pow_k1 k
  have h2 : 2 ^ (k + 2) = 2 * 2 ^ (k + 1) := by rw [Nat.pow_succ]; omega
  have h3 : 1 ≤ 2 ^ (k + 1) := Nat.one_le_two_pow
  omega
/-- places that are all other than one another -/
def inj (n : Nat) (f : Nat → Nat) : Prop := ∀ i j, i < n → j < n → f i = f j → i = j
theorem sZ_inj (C : Nat) : ∀ (d : Nat) (Y : Nat → Nat) (f : Nat → Int), inj d Y → (∀ i, i < d → Y i < C) → (∀ c, 0 ≤ f c) → sZ d (fun i => f (Y i)) ≤ sZ C f := by
  intro d
  induction d with
  | zero => intro Y f _ _ hf; exact sZ_nonneg (fun c _ => hf c)
  | succ d ih =>
    intro Y f hi hC hf
    have h1 := ih Y (fun c => if c = Y d then 0 else f c) (fun i j hi2 hj2 h => hi i j (by omega) (by omega) h) (fun i hi2 => hC i (by omega)) (fun c => by split; omega; exact hf c)
    have h2 : sZ d (fun i => if Y i = Y d then 0 else f (Y i)) = sZ d (fun i => f (Y i)) := sZ_congr (fun i hi2 => if_neg (fun w => by have := hi i d (by omega) (by omega) w; omega))
    have h3 : sZ C (fun c => if c = Y d then 0 else f c) + f (Y d) = sZ C f := by
      have h4 : sZ C (fun c => if c = Y d then f c else 0) = f (Y d) := by
        rw [sZ_one (k := Y d) (hC d (by omega)) (fun i _ h => if_neg h), if_pos rfl]
      rw [← h4, ← sZ_add]
      exact sZ_congr (fun c _ => by split <;> omega)
    rw [sZ_s]
    have h1 : sZ d (fun i => if Y i = Y d then 0 else f (Y i)) ≤ sZ C (fun c => if c = Y d then 0 else f c) := h1
    omega
theorem sZ_cn (p : Nat → Bool) (a : Int) : ∀ n : Nat, sZ n (fun e => if p e = true then a else 0) = a * cn n p := by
  intro n
  induction n with
  | zero => show (0 : Int) = a * (0 : Nat); omega
  | succ n ih =>
    rw [sZ_s, ih, cn_s]
    by_cases e : p n = true
    · rw [if_pos e, if_pos e, Int.natCast_add, Int.mul_add]; omega
    · rw [if_neg e, if_neg e, Int.add_zero, Nat.add_zero]
noncomputable def fu (φ : FR) (c : Nat) : Nat → Int := if c < 12 then Rz φ c else un (c - 12)
/-- a code's kinds: an end, or a number below m -/
def okc (φ : FR) (m c : Nat) : Prop := c < 2 * nb φ ∨ (12 ≤ c ∧ c < 12 + m)
noncomputable def Mx (φ : FR) (Y : Nat → Nat) : Nat → Nat → Int := fun i => fu φ (Y i)
def nod (φ : FR) (e : Nat) : Nat := if e % 2 = 0 then ba φ (e / 2) else bz φ (e / 2)
/-- how many ends turn with a number -/
noncomputable def kr (φ : FR) (r : Nat) : Nat := cn (2 * nb φ) (fun e => decide (num φ 2 (nod φ e) = ((ds φ + r : Nat) : Int)))
section
variable {φ : FR}
theorem cn_split (s : Nat → Bool) : ∀ n m : Nat, cn (n + m) s ≤ cn n s + m := by
  intro n m
  induction m with
  | zero => exact Nat.le_refl _
  | succ m ih =>
    rw [← Nat.add_assoc, cn_s]; split <;> omega
theorem dd_ds : dd φ ≤ ds φ + 7 := cn_split (isH φ) 14 7
theorem kr_sum (t : Nat) : sN t (kr φ) ≤ 2 * nb φ := by
  unfold kr
  generalize 2 * nb φ = m
  induction m with
  | zero =>
    induction t with
    | zero => exact Nat.le_refl _
    | succ t ih => exact ih
  | succ m ih =>
    have h : ∀ t, sN t (fun r => cn (m + 1) (fun e => decide (num φ 2 (nod φ e) = ((ds φ + r : Nat) : Int)))) = sN t (fun r => cn m (fun e => decide (num φ 2 (nod φ e) = ((ds φ + r : Nat) : Int)))) + sN t (fun r => if num φ 2 (nod φ m) = ((ds φ + r : Nat) : Int) then 1 else 0) := by
      intro t
      induction t with
      | zero => rfl
      | succ t ih2 =>
        show sN t _ + cn (m + 1) _ = (sN t _ + cn m _) + (sN t _ + _)
        rw [ih2, cn_s]
        have : (if decide (num φ 2 (nod φ m) = ((ds φ + t : Nat) : Int)) = true then 1 else 0) = (if num φ 2 (nod φ m) = ((ds φ + t : Nat) : Int) then (1 : Nat) else 0) := by
          by_cases q : num φ 2 (nod φ m) = ((ds φ + t : Nat) : Int)
          · rw [if_pos q, if_pos (by simpa using q)]
          · rw [if_neg q, if_neg (by simpa using q)]
        rw [this]
        show _ = _ + _ + (_ + (if num φ 2 (nod φ m) = ((ds φ + t : Nat) : Int) then 1 else 0))
        omega
    have h1 : ∀ t, sN t (fun r => if num φ 2 (nod φ m) = ((ds φ + r : Nat) : Int) then 1 else 0) = if (ds φ : Int) ≤ num φ 2 (nod φ m) ∧ num φ 2 (nod φ m) < ((ds φ + t : Nat) : Int) then 1 else 0 := by
      intro t
      induction t with
      | zero => rw [if_neg (by omega)]; rfl
      | succ t ih2 =>
        show sN t _ + (if _ then 1 else 0) = _
        rw [ih2]
        by_cases q : num φ 2 (nod φ m) = ((ds φ + t : Nat) : Int)
        · rw [if_neg (by omega), if_pos q, if_pos (by omega)]
        · rw [if_neg q]
          by_cases q2 : (ds φ : Int) ≤ num φ 2 (nod φ m) ∧ num φ 2 (nod φ m) < ((ds φ + t : Nat) : Int)
          · rw [if_pos q2, if_pos (by omega)]
          · rw [if_neg q2, if_neg (by omega)]
    rw [h t, h1 t]
    split <;> omega
theorem nod_lt (w : WF φ) {e : Nat} (he : e < 2 * nb φ) : nod φ e < nn φ := by
  unfold nod
  split
  · exact ba_lt w (by omega)
  · exact bz_lt w (by omega)
/-- what ends and a single number have at a turn, at most -/
theorem col_le (w : WF φ) {m d : Nat} (hm : m ≤ dd φ) {Y : Nat → Nat} (hY : ∀ i, i < d → okc φ m (Y i)) (hi : inj d Y) (r : Nat) : sZ d (fun i => ((fu φ (Y i) (ds φ + r)).natAbs : Int)) ≤ ((4 * kr φ r + (if ds φ + r < m then 1 else 0) : Nat) : Int) := by
  have hdd := dd_le (φ := φ)
  have hnb := w.2.1
  obtain ⟨f, hf⟩ : ∃ f : Nat → Int, f = fun c => if c < 2 * nb φ then ((Rz φ c (ds φ + r)).natAbs : Int) else if 12 ≤ c ∧ c < 12 + m then ((un (c - 12) (ds φ + r)).natAbs : Int) else 0 := ⟨_, rfl⟩
  have e1 : sZ d (fun i => ((fu φ (Y i) (ds φ + r)).natAbs : Int)) = sZ d (fun i => f (Y i)) := sZ_congr (fun i hi2 => by
    rw [hf]
    unfold fu
    dsimp only
    rcases hY i hi2 with h | h
    · rw [if_pos (by omega), if_pos h]
    · rw [if_neg (by omega), if_neg (by omega), if_pos h])
  have h1 := sZ_inj 33 d Y f hi (fun i hi2 => by rcases hY i hi2 with h | h <;> omega) (fun c => by rw [hf]; dsimp only; split; omega; split <;> omega)
  have h2 : ∀ n, n ≤ 12 → sZ n f ≤ 4 * cn n (fun e => decide (e < 2 * nb φ) && decide (num φ 2 (nod φ e) = ((ds φ + r : Nat) : Int))) := by
    intro n hn
    rw [← sZ_cn]
    refine sZ_le (fun e he => ?_)
    rw [hf]
    dsimp only
    by_cases q : e < 2 * nb φ
    · rw [if_pos q, Rz_turn w q (by omega)]
      have hl := len_rg w (b := e / 2) (by omega)
      show ((lenB φ (e / 2) * dl (num φ 2 (nod φ e)) (ds φ + r)).natAbs : Int) ≤ _
      unfold dl
      by_cases q2 : num φ 2 (nod φ e) = ((ds φ + r : Nat) : Int)
      · rw [if_pos q2, if_pos (show (decide (e < 2 * nb φ) && decide (num φ 2 (nod φ e) = ((ds φ + r : Nat) : Int))) = true by rw [decide_eq_true q, decide_eq_true q2]; rfl)]; omega
      · rw [if_neg q2, if_neg (show ¬ (decide (e < 2 * nb φ) && decide (num φ 2 (nod φ e) = ((ds φ + r : Nat) : Int))) = true by rw [decide_eq_true q, decide_eq_false q2]; decide)]; omega
    · rw [if_neg q, if_neg (by omega), if_neg (by simp [q])]; omega
  have h3 : cn 12 (fun e => decide (e < 2 * nb φ) && decide (num φ 2 (nod φ e) = ((ds φ + r : Nat) : Int))) = kr φ r := by
    unfold kr
    have : ∀ n, n ≤ 2 * nb φ → cn n (fun e => decide (e < 2 * nb φ) && decide (num φ 2 (nod φ e) = ((ds φ + r : Nat) : Int))) = cn n (fun e => decide (num φ 2 (nod φ e) = ((ds φ + r : Nat) : Int))) := fun n hn => cn_congr (fun i hi2 => by simp; omega)
    rw [← this _ (Nat.le_refl _)]
    have h4 : ∀ k, cn (2 * nb φ + k) (fun e => decide (e < 2 * nb φ) && decide (num φ 2 (nod φ e) = ((ds φ + r : Nat) : Int))) = cn (2 * nb φ) (fun e => decide (e < 2 * nb φ) && decide (num φ 2 (nod φ e) = ((ds φ + r : Nat) : Int))) := by
      intro k
      induction k with
      | zero => rfl
      | succ k ih => rw [← Nat.add_assoc, cn_s, ih, if_neg (by rw [decide_eq_false (show ¬ 2 * nb φ + k < 2 * nb φ by omega), Bool.false_and]; exact Bool.false_ne_true)]; rfl
    have h5 := h4 (12 - 2 * nb φ)
    rw [show 2 * nb φ + (12 - 2 * nb φ) = 12 by omega] at h5
    exact h5
  have h4 : ∀ k, k ≤ 21 → sZ (12 + k) f ≤ sZ 12 f + (if ds φ + r < m then 1 else 0) ∧ (k ≤ ds φ + r → sZ (12 + k) f ≤ sZ 12 f) := by
    intro k
    induction k with
    | zero => intro _; exact ⟨by show sZ 12 f ≤ _; split <;> omega, fun _ => by show sZ 12 f ≤ _; omega⟩
    | succ k ih =>
      intro hk
      obtain ⟨i1, i2⟩ := ih (by omega)
      rw [← Nat.add_assoc, sZ_s]
      have hfk : f (12 + k) = if k < m ∧ k = ds φ + r then 1 else 0 := by
        rw [hf]
        dsimp only
        rw [if_neg (by omega), show 12 + k - 12 = k by omega]
        by_cases q : k < m
        · rw [if_pos (by omega)]
          by_cases q2 : k = ds φ + r
          · rw [if_pos ⟨q, q2⟩, show un k (ds φ + r) = 1 from if_pos q2.symm]; rfl
          · rw [if_neg (fun w => q2 w.2), show un k (ds φ + r) = 0 from if_neg (fun w => q2 w.symm)]; rfl
        · rw [if_neg (by omega), if_neg (fun w => q w.1)]
      rw [hfk]
      by_cases q : k < m ∧ k = ds φ + r
      · rw [if_pos q]
        refine ⟨?_, fun h => by omega⟩
        have := i2 (by omega)
        rw [if_pos (by omega)]; omega
      · rw [if_neg q]
        exact ⟨by omega, fun h => by have := i2 (by omega); omega⟩
  have h5 := (h4 21 (by omega)).1
  have h6 := h2 12 (by omega)
  rw [h3] at h6
  rw [e1]
  have h7 : sZ (12 + 21) f = sZ 33 f := rfl
  rw [h7] at h5
  split at h5
  · rw [if_pos (by assumption)]; omega
  · rw [if_neg (by assumption)]; omega
theorem fu_gr (w : WF φ) {m c : Nat} (hc : okc φ m c) : gr (ds φ) (fu φ c) := by
  have := w.2.1
  unfold fu
  rcases hc with h | h
  · rw [if_pos (by omega)]; exact Rz_gr w h
  · rw [if_neg (by omega)]; exact gr_un _ _
/-- determinants of ends and single numbers -/
theorem dt_any (w : WF φ) {Y : Nat → Nat} (hY : ∀ i, i < dd φ → okc φ (dd φ) (Y i)) : (dt (dd φ) (Mx φ Y)).natAbs ≤ 67108864 := by
  by_cases hi : inj (dd φ) Y
  · have h1 := ds_le (φ := φ)
    have h2 := dd_ds (φ := φ)
    have h3 := dt_size (ds φ) (fun r => 4 * kr φ r + 1) (dd φ - ds φ) (Mx φ Y) (fun i hi2 => fu_gr w (hY i (by omega))) (fun r hr => by
      rw [show ds φ + (dd φ - ds φ) = dd φ by omega]
      have := col_le w (m := dd φ) (Nat.le_refl _) hY hi r
      refine Int.le_trans this ?_
      split <;> omega)
    rw [show ds φ + (dd φ - ds φ) = dd φ by omega] at h3
    have h4 := pr_le (L := fun r => 4 * kr φ r + 1) (g := fun r => kr φ r + 2) (dd φ - ds φ) (fun r _ => pow_k2 (kr φ r))
    have h5 : ∀ t, sN t (fun r => kr φ r + 2) = sN t (kr φ) + 2 * t := by
      intro t
      induction t with
      | zero => rfl
      | succ t ih => show sN t _ + (kr φ t + 2) = sN t _ + kr φ t + 2 * (t + 1); rw [ih]; omega
    have h6 := kr_sum (φ := φ) (dd φ - ds φ)
    have h7 := w.2.1
    have h8 : (2 : Nat) ^ sN (dd φ - ds φ) (fun r => kr φ r + 2) ≤ 2 ^ 26 := Nat.pow_le_pow_right (by omega) (by rw [h5]; omega)
    have h9 : (2 : Nat) ^ 26 = 67108864 := by decide
    omega
  · obtain ⟨i, h⟩ := Classical.not_forall.mp hi
    obtain ⟨j, h⟩ := Classical.not_forall.mp h
    obtain ⟨hi2, h⟩ := Classical.not_imp.mp h
    obtain ⟨hj2, h⟩ := Classical.not_imp.mp h
    obtain ⟨hij, h⟩ := Classical.not_imp.mp h
    rw [dt_same (dd φ) (Mx φ Y) i j hi2 hj2 h (by unfold Mx; rw [hij])]
    omega
/-- of ends and shifts alone -/
theorem dt_few (w : WF φ) {Y : Nat → Nat} (hY : ∀ i, i < dd φ → okc φ (ds φ) (Y i)) : (dt (dd φ) (Mx φ Y)).natAbs ≤ 524288 := by
  by_cases hi : inj (dd φ) Y
  · have h1 := ds_le (φ := φ)
    have h2 := dd_ds (φ := φ)
    have h3 := dt_size (ds φ) (fun r => 4 * kr φ r) (dd φ - ds φ) (Mx φ Y) (fun i hi2 => fu_gr w (hY i (by omega))) (fun r hr => by
      rw [show ds φ + (dd φ - ds φ) = dd φ by omega]
      have := col_le w (m := ds φ) h1 hY hi r
      refine Int.le_trans this ?_
      rw [if_neg (by omega)]; omega)
    rw [show ds φ + (dd φ - ds φ) = dd φ by omega] at h3
    have h4 := pr_le (L := fun r => 4 * kr φ r) (g := fun r => kr φ r + 1) (dd φ - ds φ) (fun r _ => pow_k1 (kr φ r))
    have h5 : ∀ t, sN t (fun r => kr φ r + 1) = sN t (kr φ) + t := by
      intro t
      induction t with
      | zero => rfl
      | succ t ih => show sN t _ + (kr φ t + 1) = sN t _ + kr φ t + (t + 1); rw [ih]; omega
    have h6 := kr_sum (φ := φ) (dd φ - ds φ)
    have h7 := w.2.1
    have h8 : (2 : Nat) ^ sN (dd φ - ds φ) (fun r => kr φ r + 1) ≤ 2 ^ 19 := Nat.pow_le_pow_right (by omega) (by rw [h5]; omega)
    have h9 : (2 : Nat) ^ 19 = 524288 := by decide
    omega
  · obtain ⟨i, h⟩ := Classical.not_forall.mp hi
    obtain ⟨j, h⟩ := Classical.not_forall.mp h
    obtain ⟨hi2, h⟩ := Classical.not_imp.mp h
    obtain ⟨hj2, h⟩ := Classical.not_imp.mp h
    obtain ⟨hij, h⟩ := Classical.not_imp.mp h
    rw [dt_same (dd φ) (Mx φ Y) i j hi2 hj2 h (by unfold Mx; rw [hij])]
    omega
end
