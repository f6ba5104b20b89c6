-- ===== how the reference joins nodes =====
def ju (φ : FR) (v b : Nat) (g : Nat → Nat) : Nat → Nat := if srt φ v b = true then (fun n => if n = ba φ b ∨ n = bz φ b then min (g (ba φ b)) (g (bz φ b)) else g n) else g
def jb (φ : FR) (v : Nat) : Nat → (Nat → Nat) → Nat → Nat
  | 0, g => g
  | b + 1, g => ju φ v b (jb φ v b g)
def jr (φ : FR) (v : Nat) : Nat → Nat → Nat
  | 0 => fun n => n
  | r + 1 => jb φ v (nb φ) (jr φ v r)
section
variable {φ : FR} {v : Nat}
/-- labels are nodes that go alike, no greater -/
def JI (φ : FR) (v : Nat) (g : Nat → Nat) : Prop := ∀ n, g n ≤ n ∧ eqv φ v (g n) n
theorem ju_le {b n : Nat} {g : Nat → Nat} : ju φ v b g n ≤ g n := by
  unfold ju
  split
  · dsimp only
    split
    · rename_i h
      rcases h with rfl | rfl <;> omega
    · exact Nat.le_refl _
  · exact Nat.le_refl _
theorem jb_le {n : Nat} {g : Nat → Nat} : ∀ b, jb φ v b g n ≤ g n := by
  intro b
  induction b with
  | zero => exact Nat.le_refl _
  | succ b ih => exact Nat.le_trans ju_le ih
theorem ju_I {b : Nat} (hb : b < nb φ) {g : Nat → Nat} (h : JI φ v g) : JI φ v (ju φ v b g) := by
  intro n
  unfold ju
  by_cases e : srt φ v b = true
  · rw [if_pos e]
    by_cases q : n = ba φ b ∨ n = bz φ b
    · rw [if_pos q]
      have e1 := eqv_bar hb e
      have h1 := h (ba φ b)
      have h2 := h (bz φ b)
      have hm : min (g (ba φ b)) (g (bz φ b)) = g (ba φ b) ∨ min (g (ba φ b)) (g (bz φ b)) = g (bz φ b) := by omega
      have hm1 : eqv φ v (min (g (ba φ b)) (g (bz φ b))) (ba φ b) := by
        rcases hm with a | a <;> rw [a]
        · exact h1.2
        · exact eqv_tr h2.2 (eqv_sy e1)
      rcases q with rfl | rfl
      · exact ⟨by omega, hm1⟩
      · exact ⟨by omega, eqv_tr hm1 e1⟩
    · rw [if_neg q]; exact h n
  · rw [if_neg e]; exact h n
theorem jb_I {g : Nat → Nat} (h : JI φ v g) : ∀ b, b ≤ nb φ → JI φ v (jb φ v b g) := by
  intro b
  induction b with
  | zero => intro _; exact h
  | succ b ih => intro hb; exact ju_I (by omega) (ih (by omega))
theorem jr_I : ∀ r, JI φ v (jr φ v r) := by
  intro r
  induction r with
  | zero => intro n; exact ⟨Nat.le_refl _, eqv_rf φ v n⟩
  | succ r ih => exact jb_I ih _ (Nat.le_refl _)
/-- bars all of whose nodes have the label -/
def jc (φ : FR) (v m : Nat) (g : Nat → Nat) : Nat := cn (nb φ) (fun b => srt φ v b && (g (ba φ b) == m && g (bz φ b) == m))
/-- a label that no bar spreads is on all nodes that go alike -/
theorem j_cross {m : Nat} {g : Nat → Nat} (hm : g m = m) (h : ∀ b, b < nb φ → srt φ v b = true → (g (ba φ b) = m ↔ g (bz φ b) = m)) {n : Nat} (he : eqv φ v m n) : g n = m := by
  have := he (fun k => if g k = m then 1 else 0) (fun b hb hs => by
    have := h b hb hs
    by_cases q : g (ba φ b) = m
    · rw [if_pos q, if_pos (this.mp q)]
    · rw [if_neg q, if_neg (fun w => q (this.mpr w))])
  rw [if_pos hm] at this
  by_cases q : g n = m
  · exact q
  · rw [if_neg q] at this; omega
theorem hd_le {k n : Nat} (hv : v ≠ 2) (h : eqv φ v k n) : hdF φ v n ≤ k := by
  unfold hdF
  rw [if_neg hv]
  by_cases e : k ≤ n
  · have h3 := (lst_ok (s := fun k => cd (eqv φ v k n)) n (Or.inr (cd_iff.mpr (eqv_rf φ v n)))).2.2
    apply Nat.le_of_not_lt
    intro w
    have := h3 k w
    rw [cd_f] at this
    exact this h
  · have := (lst_ok (s := fun k => cd (eqv φ v k n)) n (Or.inr (cd_iff.mpr (eqv_rf φ v n)))).2.1
    omega
theorem JI_ge (hv : v ≠ 2) {g : Nat → Nat} (h : JI φ v g) (n : Nat) : hdF φ v n ≤ g n := hd_le hv (h n).2
theorem jb_keep {m n : Nat} (hv : v ≠ 2) {g : Nat → Nat} (h : JI φ v g) (hm : hdF φ v n = m) {b : Nat} (hb : b ≤ nb φ) (hg : g n = m) : jb φ v b g n = m := by
  have h1 := JI_ge hv (jb_I h b hb) n
  have h2 := @jb_le φ v n g b
  omega
/-- a bar that spreads a label does so in the round -/
theorem jb_spread {m : Nat} (hv : v ≠ 2) {g : Nat → Nat} (h : JI φ v g) {b : Nat} (hb : b < nb φ) (hs : srt φ v b = true) (hm : hdF φ v (ba φ b) = m) (hg : g (ba φ b) = m ∨ g (bz φ b) = m) : jb φ v (nb φ) g (ba φ b) = m ∧ jb φ v (nb φ) g (bz φ b) = m := by
  have hm2 : hdF φ v (bz φ b) = m := by rw [← hm]; exact ((hdF_iff hv).mpr (eqv_bar hb hs)).symm
  have key : ∀ k, b + 1 + k ≤ nb φ → jb φ v (b + 1 + k) g (ba φ b) = m ∧ jb φ v (b + 1 + k) g (bz φ b) = m := by
    intro k
    induction k with
    | zero =>
      intro hk
      have i1 := JI_ge hv (jb_I h (b + 1) (by omega)) (ba φ b)
      have i2 := JI_ge hv (jb_I h (b + 1) (by omega)) (bz φ b)
      have l1 := @jb_le φ v (ba φ b) g b
      have l2 := @jb_le φ v (bz φ b) g b
      have e1 : jb φ v (b + 1) g (ba φ b) = min (jb φ v b g (ba φ b)) (jb φ v b g (bz φ b)) := by
        show ju φ v b (jb φ v b g) (ba φ b) = _
        unfold ju; rw [if_pos hs, if_pos (Or.inl rfl)]
      have e2 : jb φ v (b + 1) g (bz φ b) = min (jb φ v b g (ba φ b)) (jb φ v b g (bz φ b)) := by
        show ju φ v b (jb φ v b g) (bz φ b) = _
        unfold ju; rw [if_pos hs, if_pos (Or.inr rfl)]
      rw [Nat.add_zero]
      omega
    | succ k ih =>
      intro hk
      obtain ⟨i1, i2⟩ := ih (by omega)
      have g1 := JI_ge hv (jb_I h (b + 1 + (k + 1)) (by omega)) (ba φ b)
      have g2 := JI_ge hv (jb_I h (b + 1 + (k + 1)) (by omega)) (bz φ b)
      have l1 := @ju_le φ v (b + 1 + k) (ba φ b) (jb φ v (b + 1 + k) g)
      have l2 := @ju_le φ v (b + 1 + k) (bz φ b) (jb φ v (b + 1 + k) g)
      have e1 : jb φ v (b + 1 + (k + 1)) g = ju φ v (b + 1 + k) (jb φ v (b + 1 + k) g) := rfl
      rw [e1] at g1 g2 ⊢
      omega
  have := key (nb φ - (b + 1)) (by omega)
  rw [show b + 1 + (nb φ - (b + 1)) = nb φ by omega] at this
  exact this
/-- after enough rounds every label is the least node -/
theorem jr_hd (hv : v ≠ 2) (n : Nat) : jr φ v (nb φ) n = hdF φ v n := by
  obtain ⟨m, hm⟩ : ∃ m, m = hdF φ v n := ⟨_, rfl⟩
  have hmm : hdF φ v m = m := by rw [hm]; exact hdF_hd φ v n
  have hgm : ∀ r, jr φ v r m = m := fun r => by
    have h1 := (jr_I (φ := φ) (v := v) r m).1
    have h2 := JI_ge hv (jr_I (φ := φ) (v := v) r) m
    omega
  have hin : ∀ r b, b < nb φ → srt φ v b = true → (jr φ v r (ba φ b) = m ∨ jr φ v r (bz φ b) = m) → hdF φ v (ba φ b) = m := fun r b hb hs hg => by
    rcases hg with a | a
    · have := (jr_I (φ := φ) (v := v) r (ba φ b)).2
      rw [a] at this
      rw [← hmm]; exact ((hdF_iff hv).mpr this).symm
    · have := (jr_I (φ := φ) (v := v) r (bz φ b)).2
      rw [a] at this
      rw [← hmm]; exact ((hdF_iff hv).mpr (eqv_tr this (eqv_sy (eqv_bar hb hs)))).symm
  have key : ∀ r, (∀ k, eqv φ v m k → jr φ v r k = m) ∨ r ≤ jc φ v m (jr φ v r) := by
    intro r
    induction r with
    | zero => right; exact Nat.zero_le _
    | succ r ih =>
      have hI := jr_I (φ := φ) (v := v) r
      have hk : ∀ k, eqv φ v m k → jr φ v r k = m → jr φ v (r + 1) k = m := fun k he hg => jb_keep hv hI (by rw [← hmm]; exact ((hdF_iff hv).mpr he).symm) (Nat.le_refl _) hg
      rcases ih with ih | ih
      · left; exact fun k he => hk k he (ih k he)
      · by_cases hc : ∀ b, b < nb φ → srt φ v b = true → (jr φ v r (ba φ b) = m ↔ jr φ v r (bz φ b) = m)
        · left
          exact fun k he => hk k he (j_cross (hgm r) hc he)
        · right
          have hc2 : ∃ b, b < nb φ ∧ srt φ v b = true ∧ ¬ (jr φ v r (ba φ b) = m ↔ jr φ v r (bz φ b) = m) := by
            apply Classical.byContradiction
            intro w
            apply hc
            intro b hb hs
            apply Classical.byContradiction
            intro w2
            exact w ⟨b, hb, hs, w2⟩
          obtain ⟨b, hb, hs, hx⟩ := hc2
          have hor : jr φ v r (ba φ b) = m ∨ jr φ v r (bz φ b) = m := by
            apply Classical.byContradiction
            intro w
            apply hx
            exact ⟨fun a => absurd (Or.inl a) w, fun a => absurd (Or.inr a) w⟩
          obtain ⟨s1, s2⟩ := jb_spread hv hI hb hs (hin r b hb hs hor) hor
          have := cn_lt (n := nb φ) (s := fun b => srt φ v b && (jr φ v r (ba φ b) == m && jr φ v r (bz φ b) == m)) (t := fun b => srt φ v b && (jr φ v (r + 1) (ba φ b) == m && jr φ v (r + 1) (bz φ b) == m)) (fun i hi ht => by
            simp only [Bool.and_eq_true, beq_iff_eq] at ht ⊢
            obtain ⟨t1, t2, t3⟩ := ht
            obtain ⟨u1, u2⟩ := jb_spread hv hI hi t1 (hin r i hi t1 (Or.inl t2)) (Or.inl t2)
            exact ⟨t1, u1, u2⟩) ⟨b, hb, by
              apply Bool.eq_false_iff.mpr
              intro w
              simp only [Bool.and_eq_true, beq_iff_eq] at w
              exact hx ⟨fun _ => w.2.2, fun _ => w.2.1⟩, by
              simp only [Bool.and_eq_true, beq_iff_eq]
              exact ⟨hs, s1, s2⟩⟩
          have this : jc φ v m (jr φ v r) < jc φ v m (jr φ v (r + 1)) := this
          omega
  have he : eqv φ v m n := by rw [hm]; exact hdF_eqv hv n
  rw [← hm]
  rcases key (nb φ) with h | h
  · exact h n he
  · refine j_cross (hgm _) (fun b hb hs => ?_) he
    have h1 : jc φ v m (jr φ v (nb φ)) = nb φ := Nat.le_antisymm (cn_bd _ _) h
    have h2 : (fun b => srt φ v b && (jr φ v (nb φ) (ba φ b) == m && jr φ v (nb φ) (bz φ b) == m)) b = true := by
      apply Classical.byContradiction
      intro w
      have := cn_lt (n := nb φ) (s := fun b => srt φ v b && (jr φ v (nb φ) (ba φ b) == m && jr φ v (nb φ) (bz φ b) == m)) (t := fun _ => true) (fun _ _ _ => rfl) ⟨b, hb, by simpa using w, rfl⟩
      have h4 : jc φ v m (jr φ v (nb φ)) < cn (nb φ) (fun _ => true) := this
      have h5 := cn_bd (fun _ => true) (nb φ)
      omega
    simp only [Bool.and_eq_true, beq_iff_eq] at h2
    exact ⟨fun _ => h2.2.2, fun _ => h2.2.1⟩
end
