-- ===== determinants of integer rows: by the last place, down =====
def sg (n : Nat) : Int := if n % 2 = 0 then 1 else -1
theorem sg_s (n : Nat) : sg (n + 1) = - sg n := by unfold sg; split <;> split <;> omega
theorem sg_2 (n : Nat) : sg (n + n) = 1 := by unfold sg; rw [if_pos (by omega)]
theorem sg_sq (n : Nat) : sg n * sg n = 1 := by unfold sg; split <;> rfl
theorem sg_add (m : Nat) : ∀ n : Nat, sg (m + n) = sg m * sg n := by
  intro n
  induction n with
  | zero => show sg m = sg m * 1; omega
  | succ n ih => rw [← Nat.add_assoc, sg_s, sg_s, ih]; grind
def dt : Nat → (Nat → Nat → Int) → Int
  | 0, _ => 1
  | n + 1, v => sZ (n + 1) (fun i => sg (n + i) * v i n * dt n (fun r => v (sk i r)))
theorem dt_s (n : Nat) (v : Nat → Nat → Int) : dt (n + 1) v = sZ (n + 1) (fun i => sg (n + i) * v i n * dt n (fun r => v (sk i r))) := rfl
theorem dt_congr : ∀ {n : Nat} {v w : Nat → Nat → Int}, (∀ i, i < n → ∀ j, j < n → v i j = w i j) → dt n v = dt n w := by
  intro n
  induction n with
  | zero => intros; rfl
  | succ n ih =>
    intro v w h
    rw [dt_s, dt_s]
    refine sZ_congr (fun i hi => ?_)
    rw [h i hi n (by omega), ih (fun r hr j hj => h _ (sk_bd hr) j (by omega))]
/-- one row put in another's place -/
def up (v : Nat → Nat → Int) (k : Nat) (y : Nat → Int) : Nat → Nat → Int := fun i => if i = k then y else v i
theorem up_at (v : Nat → Nat → Int) (k : Nat) (y : Nat → Int) : up v k y k = y := if_pos rfl
theorem up_ne {k i : Nat} (h : i ≠ k) (v : Nat → Nat → Int) (y : Nat → Int) : up v k y i = v i := if_neg h
theorem up_up (v : Nat → Nat → Int) (k : Nat) (x y : Nat → Int) : up (up v k x) k y = up v k y := by
  funext i
  by_cases e : i = k
  · subst e; rw [up_at, up_at]
  · rw [up_ne e, up_ne e, up_ne e]
theorem up_comm {k l : Nat} (h : k ≠ l) (v : Nat → Nat → Int) (x y : Nat → Int) : up (up v k x) l y = up (up v l y) k x := by
  funext i
  by_cases e : i = k
  · subst e; rw [up_at, up_ne h, up_at]
  · by_cases e2 : i = l
    · subst e2; rw [up_at, up_ne e, up_at]
    · rw [up_ne e2, up_ne e, up_ne e, up_ne e2]
theorem up_self (v : Nat → Nat → Int) (k : Nat) : up v k (v k) = v := by
  funext i
  by_cases e : i = k
  · subst e; rw [up_at]
  · rw [up_ne e]
/-- a row taken away behind one put in -/
theorem up_sk (v : Nat → Nat → Int) (i r : Nat) (y : Nat → Int) : (fun q => up v (sk i r) y (sk i q)) = up (fun q => v (sk i q)) r y := by
  funext q
  by_cases e : q = r
  · subst e; rw [up_at, up_at]
  · rw [up_ne e, up_ne (fun w => e (sk_inj w))]
theorem up_sk_at (v : Nat → Nat → Int) (i : Nat) (y : Nat → Int) : (fun q => up v i y (sk i q)) = fun q => v (sk i q) := by
  funext q
  rw [up_ne (sk_ne i q)]
/-- the places of a determinant's first row-wise reading: by one row put in -/
theorem dt_up (n k : Nat) (hk : k ≤ n) (v : Nat → Nat → Int) (y : Nat → Int) : dt (n + 1) (up v k y) = sg (n + k) * y n * dt n (fun r => v (sk k r)) + sZ n (fun r => sg (n + sk k r) * v (sk k r) n * dt n (fun q => up v k y (sk (sk k r) q))) := by
  rw [dt_s, sZ_skip _ n k hk]
  congr 1
  · show sg (n + k) * (up v k y) k n * dt n (fun r => (up v k y) (sk k r)) = _
    rw [up_at, up_sk_at]
  · refine sZ_congr (fun r hr => ?_)
    show sg (n + sk k r) * (up v k y) (sk k r) n * dt n (fun q => (up v k y) (sk (sk k r) q)) = _
    rw [up_ne (sk_ne k r)]
theorem dt_lin : ∀ (n k : Nat), k < n → ∀ (v : Nat → Nat → Int) (a b : Int) (x y : Nat → Int), dt n (up v k (fun j => a * x j + b * y j)) = a * dt n (up v k x) + b * dt n (up v k y) := by
  intro n
  induction n with
  | zero => intro k h; omega
  | succ n ih =>
    intro k hk v a b x y
    rw [dt_up n k (by omega), dt_up n k (by omega), dt_up n k (by omega)]
    have e : sZ n (fun r => sg (n + sk k r) * v (sk k r) n * dt n (fun q => up v k (fun j => a * x j + b * y j) (sk (sk k r) q))) = a * sZ n (fun r => sg (n + sk k r) * v (sk k r) n * dt n (fun q => up v k x (sk (sk k r) q))) + b * sZ n (fun r => sg (n + sk k r) * v (sk k r) n * dt n (fun q => up v k y (sk (sk k r) q))) := by
      rw [← sZ_mul, ← sZ_mul, ← sZ_add]
      refine sZ_congr (fun r hr => ?_)
      obtain ⟨k', hk', e⟩ := sk_ex (k := sk k r) (j := k) (n := n) (fun w => sk_ne k r w.symm) (by omega) (by have := sk_bd (k := k) hr; omega)
      have e3 : ∀ z, (fun q => up v k z (sk (sk k r) q)) = up (fun q => v (sk (sk k r) q)) k' z := fun z => by
        rw [← up_sk, e]
      rw [e3, e3, e3, ih k' hk']
      grind
    rw [e]
    grind
theorem dt_mul (n k : Nat) (hk : k < n) (v : Nat → Nat → Int) (a : Int) (x : Nat → Int) : dt n (up v k (fun j => a * x j)) = a * dt n (up v k x) := by
  have h := dt_lin n k hk v a 0 x x
  rw [show (fun j => a * x j + 0 * x j) = fun j => a * x j from by funext j; grind] at h
  rw [h]; grind
theorem dt_add (n k : Nat) (hk : k < n) (v : Nat → Nat → Int) (x y : Nat → Int) : dt n (up v k (fun j => x j + y j)) = dt n (up v k x) + dt n (up v k y) := by
  have h := dt_lin n k hk v 1 1 x y
  rw [show (fun j => 1 * x j + 1 * y j) = fun j => x j + y j from by funext j; grind] at h
  rw [h]; grind
theorem dt_zero (n k : Nat) (hk : k < n) (v : Nat → Nat → Int) (y : Nat → Int) (hy : ∀ j, j < n → y j = 0) : dt n (up v k y) = 0 := by
  have h := dt_mul n k hk v 0 y
  rw [dt_congr (w := up v k (fun j => 0 * y j)) (fun i hi j hj => by
    by_cases e : i = k
    · subst e; rw [up_at, up_at, hy j hj]; rfl
    · rw [up_ne e, up_ne e]), h]
  grind
/-- a row that is a sum -/
theorem dt_sum (n k : Nat) (hk : k < n) (v : Nat → Nat → Int) (c : Nat → Int) (x : Nat → Nat → Int) : ∀ m : Nat, dt n (up v k (fun j => sZ m (fun i => c i * x i j))) = sZ m (fun i => c i * dt n (up v k (x i))) := by
  intro m
  induction m with
  | zero => exact dt_zero n k hk v _ (fun j _ => rfl)
  | succ m ih =>
    have := dt_lin n k hk v 1 (c m) (fun j => sZ m (fun i => c i * x i j)) (x m)
    rw [show (fun j => sZ (m + 1) (fun i => c i * x i j)) = fun j => 1 * sZ m (fun i => c i * x i j) + c m * x m j from by funext j; rw [sZ_s]; grind, this, ih, sZ_s]
    grind
/-- neighbours that are the same -/
theorem dt_near : ∀ (n k : Nat) (v : Nat → Nat → Int), k + 1 < n → (∀ j, j < n → v k j = v (k + 1) j) → dt n v = 0 := by
  intro n
  induction n with
  | zero => intro k v h; omega
  | succ n ih =>
    intro k v hk hv
    rw [dt_s, sZ_skip _ n k (by omega)]
    have hd : dt n (fun r => v (sk (k + 1) r)) = dt n (fun r => v (sk k r)) := by
      refine dt_congr (fun i hi j hj => ?_)
      show v (sk (k + 1) i) j = v (sk k i) j
      by_cases e : i < k
      · rw [sk_lt (show i < k + 1 by omega), sk_lt e]
      · by_cases e2 : i = k
        · subst e2
          rw [sk_lt (show i < i + 1 by omega), sk_ge (Nat.le_refl i), hv j (by omega)]
        · rw [sk_ge (show k + 1 ≤ i by omega), sk_ge (show k ≤ i by omega)]
    rw [sZ_one (n := n) (k := k) (by omega)]
    · rw [sk_ge (Nat.le_refl k), hd, hv n (by omega), ← Nat.add_assoc, sg_s]
      grind
    · intro r hr hne
      have : dt n (fun q => v (sk (sk k r) q)) = 0 := by
        by_cases e : r < k
        · rw [sk_lt e]
          refine ih (k - 1) _ (by omega) (fun j hj => ?_)
          show v (sk r (k - 1)) j = v (sk r (k - 1 + 1)) j
          rw [sk_ge (show r ≤ k - 1 by omega), sk_ge (show r ≤ k - 1 + 1 by omega), show k - 1 + 1 = k by omega]
          exact hv j (by omega)
        · rw [sk_ge (show k ≤ r by omega)]
          refine ih k _ (by omega) (fun j hj => ?_)
          show v (sk (r + 1) k) j = v (sk (r + 1) (k + 1)) j
          rw [sk_lt (show k < r + 1 by omega), sk_lt (show k + 1 < r + 1 by omega)]
          exact hv j (by omega)
      rw [this]; grind
/-- neighbours changed with one another -/
theorem dt_turn (n k : Nat) (v : Nat → Nat → Int) (hk : k + 1 < n) (x y : Nat → Int) : dt n (up (up v k y) (k + 1) x) = - dt n (up (up v k x) (k + 1) y) := by
  have h0 : ∀ z : Nat → Int, dt n (up (up v k z) (k + 1) z) = 0 := fun z => dt_near n k _ hk (fun j _ => by rw [up_at, up_ne (by omega), up_at])
  have h1 := h0 (fun j => x j + y j)
  rw [dt_add n (k + 1) (by omega)] at h1
  have c1 : ∀ z w : Nat → Int, dt n (up (up v k (fun j => x j + y j)) (k + 1) z) = dt n (up (up v k x) (k + 1) z) + dt n (up (up v k y) (k + 1) z) := fun z w => by
    rw [up_comm (by omega), dt_add n k (by omega), up_comm (by omega) v z x, up_comm (by omega) v z y]
  rw [c1 x x, c1 y y, h0 x, h0 y] at h1
  omega
/-- a row put in between -/
def ins (w : Nat → Nat → Int) (a : Nat) (y : Nat → Int) : Nat → Nat → Int := fun r => if r < a then w r else if r = a then y else w (r - 1)
theorem ins_s (w : Nat → Nat → Int) (a : Nat) (y : Nat → Int) : ins w (a + 1) y = up (up (ins w a y) a (w a)) (a + 1) y := by
  funext r
  by_cases e : r = a + 1
  · subst e; rw [up_at]; simp [ins]
  · rw [up_ne e]
    by_cases e2 : r = a
    · subst e2; rw [up_at]; simp [ins]
    · rw [up_ne e2]
      by_cases e3 : r < a
      · simp [ins, e3, show r < a + 1 by omega]
      · simp [ins, e3, e2, e, show ¬ r < a + 1 by omega]
theorem ins_z (w : Nat → Nat → Int) (a : Nat) (y : Nat → Int) : ins w a y = up (up (ins w a y) a y) (a + 1) (w a) := by
  funext r
  by_cases e : r = a + 1
  · subst e; rw [up_at]; simp [ins]; intro h; omega
  · rw [up_ne e]
    by_cases e2 : r = a
    · subst e2; rw [up_at]; simp [ins]
    · rw [up_ne e2]
theorem dt_ins (n : Nat) (w : Nat → Nat → Int) (y : Nat → Int) : ∀ a : Nat, a < n → dt n (ins w a y) = sg a * dt n (ins w 0 y) := by
  intro a
  induction a with
  | zero => intro _; show _ = 1 * _; omega
  | succ a ih =>
    intro h
    have h1 := ih (by omega)
    rw [ins_s, dt_turn n a _ (by omega), ← ins_z, h1, sg_s]
    grind
theorem up_ins (w : Nat → Nat → Int) (a : Nat) (y : Nat → Int) : up w a y = ins (fun r => w (sk a r)) a y := by
  funext r
  by_cases e : r < a
  · rw [up_ne (by omega)]; simp [ins, e, sk]
  · by_cases e2 : r = a
    · subst e2; rw [up_at]; simp [ins]
    · rw [up_ne e2]
      simp only [ins, if_neg e, if_neg e2]
      rw [sk_ge (by omega)]
      congr 1; omega
theorem sk_sk {i k r : Nat} (h : i ≤ k) : sk i (sk k r) = sk (k + 1) (sk i r) := by
  unfold sk; split <;> split <;> (try split) <;> (try split) <;> omega
/-- n + 1 rows of n places -/
theorem dt_over (n : Nat) (ih : ∀ (v : Nat → Nat → Int) (y : Nat → Int) (j : Nat), j < n → dt n v * y j = sZ n (fun k => dt n (up v k y) * v k j)) (v : Nat → Nat → Int) (j : Nat) (hj : j < n) : sZ (n + 1) (fun k => sg (n + k) * v k j * dt n (fun r => v (sk k r))) = 0 := by
  have h := ih v (v n) j hj
  have e : ∀ k, k < n → dt n (up v k (v n)) = - (sg (n + k) * dt n (fun r => v (sk k r))) := by
    intro k hk
    rw [up_ins, dt_ins n _ _ k hk]
    have e2 : dt n (fun r => v (sk k r)) = dt n (ins (fun r => v (sk k r)) (n - 1) (v n)) := by
      refine dt_congr (fun r hr j _ => ?_)
      by_cases e : r < n - 1
      · simp [ins, e]
      · obtain rfl : r = n - 1 := by omega
        simp only [ins, if_neg e, if_pos]
        rw [sk_ge (by omega), show n - 1 + 1 = n by omega]
    rw [e2, dt_ins n _ _ (n - 1) (by omega)]
    have e3 : sg (n + k) = sg (n - 1 + k + 1) := by congr 1; omega
    rw [e3, sg_s, sg_add]
    have := sg_sq (n - 1)
    grind
  rw [sZ_s, sg_2, show (fun r => v (sk n r)) = (fun r => v (sk n r)) from rfl]
  have e4 : dt n (fun r => v (sk n r)) = dt n v := dt_congr (fun r hr j _ => by rw [sk_lt hr])
  rw [e4, sZ_congr (g := fun k => - (dt n (up v k (v n)) * v k j)) (fun k hk => by rw [e k hk]; grind), sZ_neg, ← h]
  grind
theorem sZ_anti (n : Nat) (g : Nat → Nat → Int) (hg : ∀ i k, i < n + 1 → k < n + 1 → i < k → g i k = - g k i) : sZ (n + 1) (fun i => sZ n (fun r => g i (sk i r))) = 0 := by
  have e : ∀ i, i < n + 1 → sZ n (fun r => g i (sk i r)) = sZ (n + 1) (fun k => if k = i then 0 else g i k) := by
    intro i hi
    rw [sZ_skip _ n i (by omega), if_pos rfl, sZ_congr (n := n) (f := fun r => if sk i r = i then 0 else g i (sk i r)) (g := fun r => g i (sk i r)) (fun r _ => if_neg (sk_ne i r))]
    omega
  have h1 : sZ (n + 1) (fun i => sZ n (fun r => g i (sk i r))) = sZ (n + 1) (fun i => sZ (n + 1) (fun k => if k = i then 0 else g i k)) := sZ_congr e
  have h2 : sZ (n + 1) (fun i => sZ (n + 1) (fun k => if k = i then 0 else g i k)) = - sZ (n + 1) (fun i => sZ (n + 1) (fun k => if k = i then 0 else g i k)) := by
    rw [← sZ_neg, sZ_comm]
    refine sZ_congr (fun k hk => ?_)
    rw [← sZ_neg]
    refine sZ_congr (fun i hi => ?_)
    by_cases e : k = i
    · rw [if_pos e, if_pos e.symm]; rfl
    · rw [if_neg e, if_neg (fun w => e w.symm)]
      by_cases e2 : i < k
      · rw [hg i k hi hk e2]
      · rw [hg k i hk hi (by omega)]; omega
  omega
/-- Cramer: a row by the others -/
theorem dt_cramer : ∀ (n : Nat) (v : Nat → Nat → Int) (y : Nat → Int) (j : Nat), j < n → dt n v * y j = sZ n (fun k => dt n (up v k y) * v k j) := by
  intro n
  induction n with
  | zero => intro v y j h; omega
  | succ n ih =>
    intro v y j hj
    have e1 : sZ (n + 1) (fun k => dt (n + 1) (up v k y) * v k j) = y n * sZ (n + 1) (fun k => sg (n + k) * v k j * dt n (fun r => v (sk k r))) + sZ (n + 1) (fun k => sZ n (fun r => sg (n + sk k r) * v (sk k r) n * v k j * dt n (fun q => up v k y (sk (sk k r) q)))) := by
      rw [← sZ_mul, ← sZ_add]
      refine sZ_congr (fun k hk => ?_)
      rw [dt_up n k (by omega)]
      rw [show sZ n (fun r => sg (n + sk k r) * v (sk k r) n * v k j * dt n (fun q => up v k y (sk (sk k r) q))) = v k j * sZ n (fun r => sg (n + sk k r) * v (sk k r) n * dt n (fun q => up v k y (sk (sk k r) q))) from by
        rw [← sZ_mul]; exact sZ_congr (fun r hr => by grind)]
      grind
    rw [e1]
    by_cases h : j < n
    · rw [dt_over n ih v j h]
      have hx : ∀ G : Nat → Nat → Int, sZ (n + 1) (fun k => sZ n (fun r => G k (sk k r))) = sZ (n + 1) (fun i => sZ n (fun r => G (sk i r) i)) := by
        intro G
        have a1 : ∀ i, i < n + 1 → sZ n (fun r => G i (sk i r)) = sZ (n + 1) (fun k => if k = i then 0 else G i k) := by
          intro i hi
          rw [sZ_skip _ n i (by omega), if_pos rfl, sZ_congr (n := n) (f := fun r => if sk i r = i then 0 else G i (sk i r)) (g := fun r => G i (sk i r)) (fun r _ => if_neg (sk_ne i r))]
          omega
        have a2 : ∀ i, i < n + 1 → sZ n (fun r => G (sk i r) i) = sZ (n + 1) (fun k => if i = k then 0 else G k i) := by
          intro i hi
          rw [sZ_skip _ n i (by omega), if_pos rfl, sZ_congr (n := n) (f := fun r => if i = sk i r then 0 else G (sk i r) i) (g := fun r => G (sk i r) i) (fun r _ => if_neg (fun w => sk_ne i r w.symm))]
          omega
        rw [sZ_congr a1, sZ_congr a2, sZ_comm]
      rw [hx (fun k i => sg (n + i) * v i n * v k j * dt n (fun q => up v k y (sk i q)))]
      have e2 : sZ (n + 1) (fun i => sZ n (fun r => sg (n + i) * v i n * v (sk i r) j * dt n (fun q => up v (sk i r) y (sk i q)))) = sZ (n + 1) (fun i => y j * (sg (n + i) * v i n * dt n (fun r => v (sk i r)))) := by
        refine sZ_congr (fun i hi => ?_)
        have h3 := ih (fun r => v (sk i r)) y j h
        rw [show sZ n (fun r => sg (n + i) * v i n * v (sk i r) j * dt n (fun q => up v (sk i r) y (sk i q))) = sg (n + i) * v i n * sZ n (fun r => dt n (up (fun q => v (sk i q)) r y) * v (sk i r) j) from by
          rw [← sZ_mul]; exact sZ_congr (fun r hr => by rw [up_sk]; grind), ← h3]
        grind
      rw [e2, sZ_mul, ← dt_s]
      grind
    · obtain rfl : j = n := by omega
      rw [sZ_anti j (fun k i => sg (j + i) * v i j * v k j * dt j (fun q => up v k y (sk i q))), ← dt_s]
      · grind
      · intro i k hi hk hik
        obtain ⟨k', rfl⟩ : ∃ k', k = k' + 1 := ⟨k - 1, by omega⟩
        have f1 : (fun q => up v i y (sk (k' + 1) q)) = ins (fun r => v (sk i (sk k' r))) i y := by
          have : i = sk (k' + 1) i := (sk_lt hik).symm
          rw [show (fun q => up v i y (sk (k' + 1) q)) = fun q => up v (sk (k' + 1) i) y (sk (k' + 1) q) from by rw [← this], up_sk, up_ins]
          congr 1
          funext r
          show v (sk (k' + 1) (sk i r)) = v (sk i (sk k' r))
          rw [← sk_sk (show i ≤ k' by omega)]
        have f2 : (fun q => up v (k' + 1) y (sk i q)) = ins (fun r => v (sk i (sk k' r))) k' y := by
          have : k' + 1 = sk i k' := (sk_ge (by omega)).symm
          rw [this, up_sk, up_ins]
        show sg (j + (k' + 1)) * v (k' + 1) j * v i j * dt j (fun q => up v i y (sk (k' + 1) q)) = - (sg (j + i) * v i j * v (k' + 1) j * dt j (fun q => up v (k' + 1) y (sk i q)))
        rw [f1, f2, dt_ins j _ _ i (by omega), dt_ins j _ _ k' (by omega), ← Nat.add_assoc, sg_s, sg_add, sg_add j i]
        grind
