-- ===== determinants: equal rows, units, sizes =====
theorem dt_same (n : Nat) (v : Nat → Nat → Int) (a b : Nat) (ha : a < n) (hb : b < n) (hab : a ≠ b) (h : v a = v b) : dt n v = 0 := by
  obtain ⟨n, rfl⟩ : ∃ m, n = m + 1 := ⟨n - 1, by omega⟩
  obtain ⟨b', hb', e⟩ := sk_ex (k := a) (j := b) (n := n) (fun w => hab w.symm) hb (by omega)
  have h1 : dt (n + 1) v = sg a * dt (n + 1) (ins (fun r => v (sk a r)) 0 (v a)) := by
    rw [← dt_ins _ _ _ a ha, ← up_ins, up_self]
  have h2 : sg b' * dt (n + 1) (ins (fun r => v (sk a r)) 0 (v a)) = 0 := by
    rw [← dt_ins _ _ _ b' (by omega)]
    refine dt_near _ b' _ (by omega) (fun j _ => ?_)
    simp only [ins, Nat.lt_irrefl, if_false, if_true]
    rw [if_neg (by omega), if_neg (by omega), Nat.add_sub_cancel, e, h]
  have h3 := sg_sq b'
  have h4 : dt (n + 1) (ins (fun r => v (sk a r)) 0 (v a)) = 0 := by
    have : sg b' * (sg b' * dt (n + 1) (ins (fun r => v (sk a r)) 0 (v a))) = 0 := by rw [h2]; omega
    rw [← Int.mul_assoc, h3] at this
    omega
  rw [h1, h4]; omega
/-- a row put in that stands elsewhere -/
theorem dt_up_same (n : Nat) (v : Nat → Nat → Int) (a b : Nat) (ha : a < n) (hb : b < n) (hab : a ≠ b) : dt n (up v a (v b)) = 0 :=
  dt_same n _ a b ha hb hab (by rw [up_at, up_ne (fun w => hab w.symm)])
def un (j : Nat) : Nat → Int := fun i => if i = j then 1 else 0
theorem dt_un : ∀ n : Nat, dt n un = 1 := by
  intro n
  induction n with
  | zero => rfl
  | succ n ih =>
    rw [dt_s, sZ_one (k := n) (by omega)]
    · rw [sg_2, show un n n = 1 from if_pos rfl, dt_congr (w := un) (fun i hi j _ => by rw [sk_lt hi]), ih]; rfl
    · intro i hi hne
      rw [show un i n = 0 from if_neg (fun w => hne w.symm)]; grind
/-- another row's multiple taken away -/
theorem dt_less (n : Nat) (v : Nat → Nat → Int) (p k : Nat) (hp : p < n) (hk : k < n) (hpk : p ≠ k) (c : Int) : dt n (up v k (fun j => v k j - c * v p j)) = dt n v := by
  have h := dt_lin n k hk v 1 (- c) (v k) (v p)
  rw [show (fun j => 1 * v k j + - c * v p j) = fun j => v k j - c * v p j from by funext j; grind, up_self, dt_up_same n v k p hk hp (fun w => hpk w.symm)] at h
  rw [h]; omega
/-- from all rows but one -/
theorem dt_clear (n : Nat) (v : Nat → Nat → Int) (p : Nat) (hp : p < n) (c : Nat → Int) : ∀ t : Nat, t ≤ n → dt n (fun i => if i < t ∧ i ≠ p then (fun j => v i j - c i * v p j) else v i) = dt n v := by
  intro t
  induction t with
  | zero =>
    intro _
    exact congrArg (dt n) (funext fun i => if_neg (by omega))
  | succ t ih =>
    intro ht
    rw [← ih (by omega)]
    by_cases e : t = p
    · subst e
      congr 1
      funext i
      by_cases q : i < t ∧ i ≠ t
      · rw [if_pos q, if_pos ⟨by omega, q.2⟩]
      · rw [if_neg q, if_neg (by omega)]
    · rw [← dt_less n (fun i => if i < t ∧ i ≠ p then (fun j => v i j - c i * v p j) else v i) p t hp (by omega) (fun w => e w.symm) (c t)]
      congr 1
      funext i
      by_cases q : i = t
      · subst q
        rw [up_at, if_pos ⟨by omega, e⟩, if_neg (by omega), if_neg (by omega)]
      · rw [up_ne q]
        by_cases q2 : i < t ∧ i ≠ p
        · rw [if_pos q2, if_pos ⟨by omega, q2.2⟩]
        · rw [if_neg q2, if_neg (by omega)]
/-- a row of a graph with directed edges: places from s on are the ground -/
def gr (s : Nat) (v : Nat → Int) : Prop := ∃ (a : Int) (x y : Nat), (a = 0 ∨ a = 1 ∨ a = -1) ∧ ∀ j, j < s → v j = a * (un x j - un y j)
theorem gr_un (s j : Nat) : gr s (un j) := ⟨1, j, s, Or.inr (Or.inl rfl), fun i hi => by
  rw [show un s i = 0 from if_neg (by omega)]; omega⟩
/-- a graph's minors are 0, 1 or -1 -/
theorem dt_graph : ∀ (s : Nat) (v : Nat → Nat → Int), (∀ i, i < s → gr s (v i)) → (dt s v).natAbs ≤ 1 := by
  intro s
  induction s with
  | zero => intro v _; show (1 : Int).natAbs ≤ 1; omega
  | succ s ih =>
    intro v hv
    by_cases hz : ∀ i, i < s + 1 → v i s = 0
    · rw [dt_s, sZ_zero (fun i hi => by rw [hz i hi]; grind)]; omega
    · obtain ⟨p, hp⟩ := Classical.not_forall.mp hz
      obtain ⟨hps, hp⟩ := Classical.not_imp.mp hp
      -- the row with the sign e at the last place
      have hn : ∀ i, i < s + 1 → ∃ (a : Int) (x : Nat), (a = 0 ∨ a = 1 ∨ a = -1) ∧ x ≠ s ∧ v i s = a ∧ ∀ j, j < s → v i j = - (a * un x j) ∨ v i s = 0 := by
        intro i hi
        obtain ⟨a, x, y, ha, h⟩ := hv i hi
        by_cases ex : x = s
        · by_cases ey : y = s
          · refine ⟨0, s + 1, Or.inl rfl, by omega, ?_, fun j hj => ?_⟩
            · rw [h s (by omega), ex, ey]; omega
            · right
              rw [h s (by omega), ex, ey]; omega
          · refine ⟨a, y, ha, ey, ?_, fun j hj => Or.inl ?_⟩
            · rw [h s (by omega), ex, show un s s = 1 from if_pos rfl, show un y s = 0 from if_neg (fun w => ey w.symm)]; omega
            · rw [h j (by omega), ex, show un s j = 0 from if_neg (by omega)]; grind
        · by_cases ey : y = s
          · refine ⟨-a, x, by omega, ex, ?_, fun j hj => Or.inl ?_⟩
            · rw [h s (by omega), ey, show un s s = 1 from if_pos rfl, show un x s = 0 from if_neg (fun w => ex w.symm)]; omega
            · rw [h j (by omega), ey, show un s j = 0 from if_neg (by omega)]; grind
          · have h0 : v i s = 0 := by
              rw [h s (by omega), show un x s = 0 from if_neg (fun w => ex w.symm), show un y s = 0 from if_neg (fun w => ey w.symm)]; omega
            exact ⟨0, s + 1, Or.inl rfl, by omega, h0, fun j hj => Or.inr h0⟩
      obtain ⟨e, xp, he, hxp, hep, hpj⟩ := hn p hps
      have he0 : e ≠ 0 := fun w => hp (by rw [hep, w])
      have hee : e * e = 1 := by
        rcases he with rfl | rfl | rfl
        · exact absurd rfl he0
        · rfl
        · rfl
      rw [← dt_clear (s + 1) v p hps (fun i => v i s * e) (s + 1) (Nat.le_refl _), dt_s, sZ_one (k := p) hps]
      · have hm := ih (fun r => (fun i => if i < s + 1 ∧ i ≠ p then (fun j => v i j - v i s * e * v p j) else v i) (sk p r)) (fun r hr => by
          show gr s (if sk p r < s + 1 ∧ sk p r ≠ p then (fun j => v (sk p r) j - v (sk p r) s * e * v p j) else v (sk p r))
          rw [if_pos ⟨sk_bd hr, sk_ne p r⟩]
          obtain ⟨a, x, ha, hx, has, haj⟩ := hn (sk p r) (sk_bd hr)
          by_cases h0 : v (sk p r) s = 0
          · obtain ⟨b, x', y', hb, h'⟩ := hv (sk p r) (sk_bd hr)
            refine ⟨b, x', y', hb, fun j hj => ?_⟩
            show v (sk p r) j - v (sk p r) s * e * v p j = _
            rw [h0, ← h' j (by omega)]; grind
          · refine ⟨a, xp, x, ha, fun j hj => ?_⟩
            have h1 := (haj j hj).resolve_right h0
            have h2 := (hpj j hj).resolve_right (by rw [hep]; exact he0)
            show v (sk p r) j - v (sk p r) s * e * v p j = _
            rw [h1, h2, has]
            have : a * e * - (e * un xp j) = - (a * un xp j) := by grind
            rw [this]; grind)
        rw [if_neg (by omega), hep]
        generalize dt s _ = D at hm ⊢
        have h1 : (sg (s + p) * e).natAbs = 1 := by
          have : sg (s + p) = 1 ∨ sg (s + p) = -1 := by unfold sg; split <;> simp
          rcases this with w | w <;> rw [w] <;> rcases he with rfl | rfl | rfl <;> first | rfl | exact absurd rfl he0
        rw [Int.natAbs_mul, h1]; omega
      · intro i hi hne
        rw [if_pos ⟨hi, hne⟩]
        have : v i s - v i s * e * v p s = 0 := by rw [hep]; grind
        rw [this]; grind
/-- the product of bounds of the last columns -/
def pr (L : Nat → Nat) : Nat → Nat
  | 0 => 1
  | t + 1 => L t * pr L t
theorem sZ_drop (f : Nat → Int) (hf : ∀ i, 0 ≤ f i) (n k : Nat) (hk : k ≤ n) : sZ n (fun r => f (sk k r)) ≤ sZ (n + 1) f := by
  rw [sZ_skip f n k hk]; have := hf k; omega
/-- rows of a graph, but for the last columns: their sizes multiply -/
theorem dt_size (s : Nat) (L : Nat → Nat) : ∀ (t : Nat) (v : Nat → Nat → Int), (∀ i, i < s + t → gr s (v i)) → (∀ r, r < t → sZ (s + t) (fun i => ((v i (s + r)).natAbs : Int)) ≤ (L r : Int)) → (dt (s + t) v).natAbs ≤ pr L t := by
  intro t
  induction t with
  | zero => intro v hv _; exact dt_graph s v hv
  | succ t ih =>
    intro v hv hL
    rw [← Nat.add_assoc] at hv hL ⊢
    have hm : ∀ k, k < s + t + 1 → (dt (s + t) (fun r => v (sk k r))).natAbs ≤ pr L t := by
      intro k hk
      refine ih _ (fun i hi => hv _ (sk_bd hi)) (fun r hr => ?_)
      exact Int.le_trans (sZ_drop (fun i => ((v i (s + r)).natAbs : Int)) (fun i => by omega) (s + t) k (by omega)) (hL r (by omega))
    have h1 := sZ_abs (fun i => sg (s + t + i) * v i (s + t) * dt (s + t) (fun r => v (sk i r))) (s + t + 1)
    have h2 : sZ (s + t + 1) (fun i => ((sg (s + t + i) * v i (s + t) * dt (s + t) (fun r => v (sk i r))).natAbs : Int)) ≤ sZ (s + t + 1) (fun i => (pr L t : Int) * ((v i (s + t)).natAbs : Int)) := by
      refine sZ_le (fun i hi => ?_)
      have h3 : (sg (s + t + i)).natAbs = 1 := by unfold sg; split <;> rfl
      rw [Int.natAbs_mul, Int.natAbs_mul, h3, Nat.one_mul]
      have h4 := Nat.mul_le_mul_left (v i (s + t)).natAbs (hm i hi)
      rw [Nat.mul_comm _ (pr L t)] at h4
      exact_mod_cast h4
    rw [sZ_mul] at h2
    have h5 := hL t (by omega)
    have h6 := Int.mul_le_mul_of_nonneg_left h5 (show (0 : Int) ≤ (pr L t : Int) by omega)
    rw [← dt_s] at h1
    have h7 : ((dt (s + t + 1) v).natAbs : Int) ≤ (pr L t : Int) * (L t : Int) := Int.le_trans h1 (Int.le_trans h2 h6)
    show (dt (s + t + 1) v).natAbs ≤ L t * pr L t
    rw [Nat.mul_comm]
    exact_mod_cast h7
