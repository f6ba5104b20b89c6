-- ===== there is a corner at least as good; sizes of values =====
theorem cn_trunc {s : Nat → Bool} {n : Nat} : ∀ m : Nat, n ≤ m → (∀ i, n ≤ i → i < m → s i = false) → cn m s = cn n s := by
  intro m
  induction m with
  | zero => intro h _; obtain rfl : n = 0 := by omega
            rfl
  | succ m ih =>
    intro h hz
    by_cases q : n = m + 1
    · rw [q]
    · rw [cn_s, ih (by omega) (fun i a b => hz i a (by omega)), hz m (by omega) (by omega)]; rfl
section
variable {N : Nat} {σ : ZS} {φ : FR}
/-- a set's columns that bear, the others at their strengths -/
def CrS (φ : FR) (Cm c : Nat) (S : Nat → Int) (p x : Nat → Rat) (et : Rat) : Prop := (∀ e, e < 2 * nb φ → ab (x e) ≤ cS φ S e) ∧ (∀ j, j < dd φ → sQ (2 * nb φ) (fun e => x e * Rq φ e j) + et * pq φ c j = p j) ∧ (∀ e, e < 2 * nb φ → Cm.testBit e = false → ab (x e) = cS φ S e) ∧ (Cm.testBit (12 + c) = false → et = 0)
theorem corner0 (w : WF φ) (hNL : NLF φ) {S : Nat → Int} {p : Nat → Rat} (o : Nat → Rat) {z : Nat → Rat} (hz : ∀ e, e < 2 * nb φ → ab (z e) ≤ cS φ S e) (hp : ∀ j, j < dd φ → sQ (2 * nb φ) (fun e => z e * Rq φ e j) = p j) : ∃ Cm x, Cm < 2 ^ (2 * nb φ) ∧ cn 12 (bt Cm) = dd φ ∧ IndC φ Cm 0 ∧ CrS φ Cm 0 S p x 0 ∧ sQ (2 * nb φ) (fun e => o e * z e) ≤ sQ (2 * nb φ) (fun e => o e * x e) := by
  have hw2 := w.2.1
  obtain ⟨x, ⟨f1, f2⟩, ho, hI⟩ := vtx (n := 2 * nb φ) (N := 2 * nb φ) (d := dd φ) (A := Rq φ) (c := cS φ S) (b := p) o (Nat.le_refl _) (fun y hy _ e he => hy e he (by rw [decide_eq_false_iff_not]; omega)) (cn (2 * nb φ) (fr (2 * nb φ) (cS φ S) z)) z (Nat.le_refl _) ⟨hz, hp⟩
  have hle := ind_le hI
  obtain ⟨s', h1, h2, h3⟩ := ind_fill (N := 2 * nb φ) (d := dd φ) (A := Rq φ) (fun q hq => hNL q hq) (dd φ - cn (2 * nb φ) (fr (2 * nb φ) (cS φ S) x)) (fr (2 * nb φ) (cS φ S) x) (by omega) hI
  have hbit : ∀ k, (mkd s' 0 (2 * nb φ)).testBit k = (decide (k < 2 * nb φ) && s' k) := fun k => by rw [mkd_bit, Nat.zero_add]
  refine ⟨mkd s' 0 (2 * nb φ), x, mkd_lt _ _ _, ?_, fun dl_ et hd1 hd2 hd3 => ?_, ⟨f1, fun j hj => ?_, fun e he hb => ?_, fun _ => rfl⟩, ho⟩
  · rw [cn_trunc (n := 2 * nb φ) 12 (by omega) (fun i a _ => by
      show (mkd s' 0 (2 * nb φ)).testBit i = false
      rw [hbit, decide_eq_false (by omega), Bool.false_and]), ← h2]
    exact cn_congr (fun i hi => by
      show (mkd s' 0 (2 * nb φ)).testBit i = s' i
      rw [hbit, decide_eq_true hi, Bool.true_and])
  · have het : et = 0 := hd2 (by rw [hbit, decide_eq_false (by omega), Bool.false_and])
    refine ⟨h3 dl_ (fun e he hs => hd1 e he (by rw [hbit, hs, Bool.and_false])) (fun j hj => ?_), het⟩
    have := hd3 j hj
    rw [het] at this
    grind
  · rw [f2 j hj]; grind
  · rw [hbit, decide_eq_true he, Bool.true_and] at hb
    have hfr : fr (2 * nb φ) (cS φ S) x e = false := by
      cases hq : fr (2 * nb φ) (cS φ S) x e with
      | false => rfl
      | true => rw [h1 e he hq] at hb; exact absurd hb (by decide)
    unfold fr at hfr
    rw [if_pos he, decide_eq_false_iff_not] at hfr
    have := f1 e he
    exact Rat.le_antisymm this (Rat.not_lt.mp hfr)
/-- a set of ends with a case's loads -/
theorem or_bit {Cm c n : Nat} (hn : n ≤ 12) (h : Cm < 2 ^ n) (k : Nat) : (Cm ||| 2 ^ (12 + c)).testBit k = (Cm.testBit k || decide (k = 12 + c)) := by
  rw [Nat.testBit_or, Nat.testBit_two_pow]
  congr 1
  by_cases q : k = 12 + c
  · rw [decide_eq_true q, decide_eq_true q.symm]
  · rw [decide_eq_false q, decide_eq_false (fun z => q z.symm)]
theorem big_bit {Cm n k : Nat} (h : Cm < 2 ^ n) (hk : n ≤ k) : Cm.testBit k = false := Nat.testBit_lt_two_pow (Nat.lt_of_lt_of_le h (Nat.pow_le_pow_right (by decide) hk))
theorem cornerL (w : WF φ) (hNL : NLF φ) {S : Nat → Int} {c : Nat} (hpc : ∃ j, j < dd φ ∧ pq φ c j ≠ 0) {sg : Rat} {z : Nat → Rat} {f : Rat} (hz : Fz φ c S f z) : ∃ Cm x f', Cm < 2 ^ (2 * nb φ) ∧ cn 12 (bt Cm) + 1 = dd φ ∧ IndC φ (Cm ||| 2 ^ (12 + c)) c ∧ CrS φ (Cm ||| 2 ^ (12 + c)) c S (pq φ 0) x (-f') ∧ Fz φ c S f' x ∧ sg * f ≤ sg * f' := by
  have hw2 := w.2.1
  obtain ⟨A, hA⟩ : ∃ A : Nat → Nat → Rat, A = fun e => if e < 2 * nb φ then Rq φ e else pq φ c := ⟨_, rfl⟩
  have hA1 : ∀ e, e < 2 * nb φ → A e = Rq φ e := fun e he => by rw [hA]; exact if_pos he
  have hA2 : A (2 * nb φ) = pq φ c := by rw [hA]; exact if_neg (by omega)
  have hsum : ∀ (y : Nat → Rat) (j : Nat), sQ (2 * nb φ + 1) (fun e => y e * A e j) = sQ (2 * nb φ) (fun e => y e * Rq φ e j) + y (2 * nb φ) * pq φ c j := fun y j => by
    rw [sQ_s, hA2]
    congr 1
    exact sQ_congr (fun e he => by try dsimp only
                                   rw [hA1 e he])
  have hu : Ind (2 * nb φ + 1) (dd φ) A (fun e => decide (2 * nb φ ≤ e)) := fun y hy hs e he => by
    have hz0 : ∀ e, e < 2 * nb φ → y e = 0 := fun e he => hy e (by omega) (by rw [decide_eq_false_iff_not]; omega)
    by_cases q : e < 2 * nb φ
    · exact hz0 e q
    · obtain rfl : e = 2 * nb φ := by omega
      obtain ⟨j, hj, hpj⟩ := hpc
      have h1 := hs j hj
      rw [hsum y j, sQ_zero (fun i hi => by rw [hz0 i hi, Rat.zero_mul]), Rat.zero_add] at h1
      exact (Rat.mul_eq_zero.mp h1).resolve_right hpj
  obtain ⟨z', hz'⟩ : ∃ z' : Nat → Rat, z' = fun e => if e < 2 * nb φ then z e else -f := ⟨_, rfl⟩
  have hz1 : ∀ e, e < 2 * nb φ → z' e = z e := fun e he => by rw [hz']; exact if_pos he
  have hz2 : z' (2 * nb φ) = -f := by rw [hz']; exact if_neg (by omega)
  have hF : Fea (2 * nb φ) (2 * nb φ + 1) (dd φ) A (cS φ S) (pq φ 0) z' := by
    refine ⟨fun e he => by rw [hz1 e he]; exact hz.1 e he, fun j hj => ?_⟩
    have hcg : ∀ e, e < 2 * nb φ → z' e * Rq φ e j = z e * Rq φ e j := fun e he => by rw [hz1 e he]
    rw [hsum z' j, hz2, sQ_congr hcg, hz.2 j hj]
    unfold PF
    grind
  obtain ⟨x, ⟨f1, f2⟩, ho, hI⟩ := vtx (n := 2 * nb φ) (N := 2 * nb φ + 1) (d := dd φ) (A := A) (c := cS φ S) (b := pq φ 0) (fun e => if e < 2 * nb φ then 0 else -sg) (by omega) hu (cn (2 * nb φ + 1) (fr (2 * nb φ) (cS φ S) z')) z' (Nat.le_refl _) hF
  have hle := ind_le hI
  obtain ⟨s', h1, h2, h3⟩ := ind_fill (N := 2 * nb φ + 1) (d := dd φ) (A := A) (fun q hq => hNL q (fun e he => by
    have := hq e (by omega)
    rw [hA1 e he] at this
    exact this)) (dd φ - cn (2 * nb φ + 1) (fr (2 * nb φ) (cS φ S) x)) (fr (2 * nb φ) (cS φ S) x) (by omega) hI
  have hsl : s' (2 * nb φ) = true := h1 _ (by omega) (by unfold fr; rw [if_neg (by omega)])
  have hcs : cn (2 * nb φ + 1) s' = cn (2 * nb φ) s' + 1 := by rw [cn_s, if_pos hsl]
  have hlt : mkd s' 0 (2 * nb φ) < 2 ^ (2 * nb φ) := mkd_lt _ _ _
  have hbit : ∀ k, (mkd s' 0 (2 * nb φ)).testBit k = (decide (k < 2 * nb φ) && s' k) := fun k => by rw [mkd_bit, Nat.zero_add]
  have hob := or_bit (c := c) (n := 2 * nb φ) (by omega) hlt
  have hobe : ∀ e, e < 2 * nb φ → (mkd s' 0 (2 * nb φ) ||| 2 ^ (12 + c)).testBit e = s' e := fun e he => by
    rw [hob, hbit, decide_eq_true he, Bool.true_and, decide_eq_false (by omega), Bool.or_false]
  have hfz : Fz φ c S (-(x (2 * nb φ))) x := by
    refine ⟨f1, fun j hj => ?_⟩
    have := f2 j hj
    rw [hsum x j] at this
    unfold PF
    grind
  refine ⟨mkd s' 0 (2 * nb φ), x, -(x (2 * nb φ)), hlt, ?_, fun dl_ et hd1 hd2 hd3 => ?_, ⟨f1, fun j hj => ?_, fun e he hb => ?_, fun hb => ?_⟩, hfz, ?_⟩
  · rw [cn_trunc (n := 2 * nb φ) 12 (by omega) (fun i a _ => by
      show (mkd s' 0 (2 * nb φ)).testBit i = false
      rw [hbit, decide_eq_false (by omega), Bool.false_and]), ← h2, hcs]
    congr 1
    exact cn_congr (fun i hi => by
      show (mkd s' 0 (2 * nb φ)).testBit i = s' i
      rw [hbit, decide_eq_true hi, Bool.true_and])
  · have h4 := h3 (fun e => if e < 2 * nb φ then dl_ e else et) (fun e he hs => by
      try dsimp only
      by_cases q : e < 2 * nb φ
      · rw [if_pos q]
        exact hd1 e q (by rw [hobe e q]; exact hs)
      · obtain rfl : e = 2 * nb φ := by omega
        rw [hsl] at hs
        exact absurd hs (by decide)) (fun j hj => by
      rw [hsum]
      try dsimp only
      have hcg : ∀ e, e < 2 * nb φ → (if e < 2 * nb φ then dl_ e else et) * Rq φ e j = dl_ e * Rq φ e j := fun e he => by rw [if_pos he]
      rw [if_neg (by omega), sQ_congr hcg]
      exact hd3 j hj)
    refine ⟨fun e he => ?_, ?_⟩
    · have := h4 e (by omega)
      try dsimp only at this
      rw [if_pos he] at this
      exact this
    · have := h4 (2 * nb φ) (by omega)
      try dsimp only at this
      rw [if_neg (by omega)] at this
      exact this
  · have := f2 j hj
    rw [hsum x j] at this
    grind
  · rw [hobe e he] at hb
    have hfr : fr (2 * nb φ) (cS φ S) x e = false := by
      cases hq : fr (2 * nb φ) (cS φ S) x e with
      | false => rfl
      | true => rw [h1 e (by omega) hq] at hb; exact absurd hb (by decide)
    unfold fr at hfr
    rw [if_pos he, decide_eq_false_iff_not] at hfr
    have := f1 e he
    exact Rat.le_antisymm this (Rat.not_lt.mp hfr)
  · rw [hob, decide_eq_true rfl, Bool.or_true] at hb
    exact absurd hb (by decide)
  · have hs2 : ∀ y : Nat → Rat, sQ (2 * nb φ + 1) (fun e => (if e < 2 * nb φ then 0 else -sg) * y e) = -sg * y (2 * nb φ) := fun y => by
      rw [sQ_s, sQ_zero (fun i hi => by rw [if_pos hi, Rat.zero_mul]), if_neg (by omega), Rat.zero_add]
    rw [hs2, hs2, hz2] at ho
    grind
/-- sizes of values -/
theorem val_bd (w : WF φ) {s : ZS} {Cm : Nat} {P : Nat → Nat → Int} {pi : Nat → Nat} {B1 B2 : Nat} (hV : SLV φ s Cm P pi B1 B2) {S : Nat → Int} (hS : ∀ b, b < nb φ → 0 ≤ S b ∧ S b ≤ 13) (T : Nat → Int) {by_ : Int} {i : Nat} (hi : i < dd φ) (g : Nat) : (val φ Cm P pi S T by_ i g).natAbs ≤ 12 * ((T 0).natAbs + (T 1).natAbs + (T 2).natAbs) * B2 + 1872 * by_.natAbs * B1 := by
  have hw2 := w.2.1
  have hL : ∀ k, k < 15 → (dt (dd φ) (up P (pi i) (rcl φ k))).natAbs ≤ if k < 12 then B1 else B2 := fun k hk => hV.2.2.2.2.2 i k hi hk
  have l12 := hL 12 (by omega)
  have l13 := hL 13 (by omega)
  have l14 := hL 14 (by omega)
  rw [if_neg (by omega)] at l12 l13 l14
  have m0 := mul_bd (Nat.le_refl (T 0).natAbs) l12
  have m1 := mul_bd (Nat.le_refl (T 1).natAbs) l13
  have m2 := mul_bd (Nat.le_refl (T 2).natAbs) l14
  have hv0 : (v0 φ P pi T i).natAbs ≤ 12 * ((T 0).natAbs + (T 1).natAbs + (T 2).natAbs) * B2 := by
    have e : 12 * ((T 0).natAbs + (T 1).natAbs + (T 2).natAbs) * B2 = 12 * ((T 0).natAbs * B2 + (T 1).natAbs * B2 + (T 2).natAbs * B2) := by
      rw [Nat.mul_assoc, Nat.add_mul, Nat.add_mul]
    rw [e]
    unfold v0
    omega
  have hcb := cn_bd (ff Cm) (2 * nb φ)
  have hs1 : (sZ (cn (2 * nb φ) (ff Cm)) (fun k => (if g.testBit k = true then -1 else 1) * tn φ Cm P pi S by_ i k)).natAbs ≤ cn (2 * nb φ) (ff Cm) * (by_.natAbs * 156 * B1) := sZ_bd (fun k hk => by
    obtain ⟨r1, _, _⟩ := fre_ok (φ := φ) hk
    have hb2 : fre φ Cm k / 2 < nb φ := by omega
    have h12 := (len_12 w hb2).2
    have hs := hS _ hb2
    have hl := hL (fre φ Cm k) (by omega)
    rw [if_pos (by omega)] at hl
    have a1 := mul_bd (Nat.le_refl by_.natAbs) (b := 12 / lenB φ (fre φ Cm k / 2)) (B := 12) (by omega)
    have a2 := mul_bd a1 (b := S (fre φ Cm k / 2)) (B := 13) (by omega)
    have a3 := mul_bd a2 hl
    have a4 : by_.natAbs * 12 * 13 * B1 = by_.natAbs * 156 * B1 := by rw [Nat.mul_assoc by_.natAbs]
    rw [a4] at a3
    have a5 : (tn φ Cm P pi S by_ i k).natAbs ≤ by_.natAbs * 156 * B1 := a3
    split <;> omega)
  have hs2 : cn (2 * nb φ) (ff Cm) * (by_.natAbs * 156 * B1) ≤ 12 * (by_.natAbs * 156 * B1) := Nat.mul_le_mul_right _ (by omega)
  have hs3 : 12 * (by_.natAbs * 156 * B1) = 1872 * by_.natAbs * B1 := by
    rw [← Nat.mul_assoc, show 12 * (by_.natAbs * 156) = 1872 * by_.natAbs by omega]
  unfold val
  omega
theorem mst_bd (w : WF φ) {s : ZS} {Cm : Nat} {P : Nat → Nat → Int} {pi : Nat → Nat} {B1 B2 : Nat} (hV : SLV φ s Cm P pi B1 B2) {S : Nat → Int} (hS : ∀ b, b < nb φ → 0 ≤ S b ∧ S b ≤ 13) {by_ : Int} {e : Nat} (he : e < 2 * nb φ) : (mst φ P S by_ e).natAbs ≤ 156 * by_.natAbs * B1 := by
  have hb2 : e / 2 < nb φ := by omega
  have h12 := (len_12 w hb2).2
  have hs := hS _ hb2
  have a1 := mul_bd (a := 12 / lenB φ (e / 2)) (A := 12) (by omega) (Nat.le_refl by_.natAbs)
  have a2 := mul_bd a1 (b := ((dt (dd φ) P).natAbs : Int)) (B := B1) (by have := hV.2.2.2.2.1; omega)
  have a3 := mul_bd a2 (b := S (e / 2)) (B := 13) (by omega)
  have a4 : 12 * by_.natAbs * B1 * 13 = 156 * by_.natAbs * B1 := by
    rw [Nat.mul_comm _ 13, ← Nat.mul_assoc, ← Nat.mul_assoc]
  rw [a4] at a3
  exact a3
end
