-- ===== sizes of determinants with loads =====
theorem sZ_wt {f x : Nat → Int} {B : Nat} : ∀ {n : Nat}, (∀ j, j < n → f j = 0 ∨ (x j).natAbs ≤ B) → ((sZ n (fun j => f j * x j)).natAbs : Int) ≤ sZ n (fun j => ((f j).natAbs : Int)) * B := by
  intro n
  induction n with
  | zero => intro _; show ((0 : Int).natAbs : Int) ≤ 0 * B; omega
  | succ n ih =>
    intro h
    have h1 := ih (fun j hj => h j (by omega))
    have h2 : (f n * x n).natAbs ≤ (f n).natAbs * B := by
      rcases h n (by omega) with q | q
      · rw [q, Int.zero_mul]; exact Nat.zero_le _
      · rw [Int.natAbs_mul]; exact Nat.mul_le_mul_left _ q
    have h3 : ((f n * x n).natAbs : Int) ≤ ((f n).natAbs : Int) * B := by exact_mod_cast h2
    rw [sZ_s, sZ_s, Int.add_mul]
    have h4 := Int.natAbs_add_le (sZ n (fun j => f j * x j)) (f n * x n)
    omega
theorem sZ_dl (a : Int) : ∀ n : Nat, 0 ≤ sZ n (fun j => dl a j) ∧ sZ n (fun j => dl a j) ≤ if 0 ≤ a ∧ a < n then 1 else 0 := by
  intro n
  induction n with
  | zero => exact ⟨Int.le_refl _, by show (0 : Int) ≤ _; split <;> decide⟩
  | succ n ih =>
    rw [sZ_s]
    try dsimp only
    by_cases q : a = (n : Int)
    · have h1 : dl a n = 1 := if_pos q
      have h2 : ¬ (0 ≤ a ∧ a < (n : Int)) := by omega
      rw [if_neg h2] at ih
      rw [h1, if_pos (by omega)]
      omega
    · have h1 : dl a n = 0 := if_neg q
      rw [h1, Int.add_zero]
      refine ⟨ih.1, Int.le_trans ih.2 ?_⟩
      by_cases q2 : 0 ≤ a ∧ a < (n : Int)
      · rw [if_pos q2, if_pos (by omega)]; exact Int.le_refl _
      · rw [if_neg q2]
        split <;> decide
section
variable {φ : FR}
/-- a case's loads are few -/
theorem pz_sum (w : WF φ) {c : Nat} (hc : c < 3) : sZ (dd φ) (fun j => ((pz φ c j).natAbs : Int)) ≤ 70 := by
  have hw1 := w.1
  have h1 : sZ (dd φ) (fun j => ((pz φ c j).natAbs : Int)) ≤ sZ (dd φ) (fun j => sZ (nn φ) (fun n => 5 * dl (num φ 0 n) j + 5 * dl (num φ 1 n) j)) := sZ_le (fun j _ => by
    unfold pz
    refine Int.le_trans (sZ_abs _ _) (sZ_le (fun n hn => ?_))
    try dsimp only
    have l1 := w.2.2.2.2 (6 + 2 * c) n (by omega) (by omega) (by omega)
    have l2 := w.2.2.2.2 (7 + 2 * c) n (by omega) (by omega) (by omega)
    have hd : ∀ a : Int, dl a j = 0 ∨ dl a j = 1 := fun a => by unfold dl; split <;> omega
    rcases hd (num φ 0 n) with q | q <;> rcases hd (num φ 1 n) with q2 | q2 <;> rw [q, q2] <;> omega)
  refine Int.le_trans h1 ?_
  rw [sZ_comm]
  have h2 : sZ (nn φ) (fun n => sZ (dd φ) (fun j => 5 * dl (num φ 0 n) j + 5 * dl (num φ 1 n) j)) ≤ sZ (nn φ) (fun _ => 10) := sZ_le (fun n _ => by
    try dsimp only
    rw [sZ_add, sZ_mul, sZ_mul]
    have a0 := sZ_dl (num φ 0 n) (dd φ)
    have a1 := sZ_dl (num φ 1 n) (dd φ)
    have b0 : sZ (dd φ) (dl (num φ 0 n)) ≤ 1 := Int.le_trans a0.2 (by split <;> decide)
    have b1 : sZ (dd φ) (dl (num φ 1 n)) ≤ 1 := Int.le_trans a1.2 (by split <;> decide)
    omega)
  have h3 : ∀ n : Nat, sZ n (fun _ => 10) = 10 * n := fun n => by
    induction n with
    | zero => rfl
    | succ n ih => rw [sZ_s, ih]; omega
  rw [h3] at h2
  omega
theorem dt_pz (v : Nat → Nat → Int) {k : Nat} (hk : k < dd φ) (c : Nat) : dt (dd φ) (up v k (pz φ c)) = sZ (dd φ) (fun j => pz φ c j * dt (dd φ) (up v k (un j))) := (dt_adj (dd φ) v k hk (pz φ c)).symm
/-- one row of loads: seventy times -/
theorem dt_ld (w : WF φ) {v : Nat → Nat → Int} {k c B : Nat} (hk : k < dd φ) (hc : c < 3) (h : ∀ j, j < ds φ → (dt (dd φ) (up v k (un j))).natAbs ≤ B) : (dt (dd φ) (up v k (pz φ c))).natAbs ≤ 70 * B := by
  rw [dt_pz v hk c]
  have h1 := sZ_wt (f := pz φ c) (x := fun j => dt (dd φ) (up v k (un j))) (B := B) (n := dd φ) (fun j hj => by
    by_cases q : j < ds φ
    · exact Or.inr (h j q)
    · exact Or.inl (pz_turn w (by omega)))
  have h2 := pz_sum w hc
  have h3 : sZ (dd φ) (fun j => ((pz φ c j).natAbs : Int)) * (B : Int) ≤ 70 * B := Int.mul_le_mul_of_nonneg_right h2 (by omega)
  omega
/-- sizes of codes' determinants -/
def Bm (φ : FR) (m B : Nat) : Prop := ds φ ≤ m ∧ ∀ Y : Nat → Nat, (∀ i, i < dd φ → okc φ m (Y i)) → (dt (dd φ) (Mx φ Y)).natAbs ≤ B
theorem Bm_any (w : WF φ) : Bm φ (dd φ) 67108864 := ⟨ds_le, fun _ h => dt_any w h⟩
theorem Bm_few (w : WF φ) : Bm φ (ds φ) 524288 := ⟨Nat.le_refl _, fun _ h => dt_few w h⟩
/-- a column put in a slot -/
theorem dt_col (w : WF φ) {m B : Nat} (hB : Bm φ m B) {Y : Nat → Nat} (hY : ∀ i, i < dd φ → okc φ m (Y i)) {k col : Nat} (hk : k < dd φ) (hcol : col < 15) : (dt (dd φ) (up (Mx φ Y) k (rcl φ col))).natAbs ≤ if col < 12 then B else 70 * B := by
  have hw2 := w.2.1
  by_cases q : col < 12
  · rw [if_pos q]
    by_cases q2 : col < 2 * nb φ
    · have : rcl φ col = Rz φ col := by
        funext j; unfold rcl; rw [if_pos q, if_pos q2]
      rw [this, ← Mx_up w Y k q2]
      exact hB.2 _ (okc_up hY (Or.inl q2))
    · rw [dt_zero _ _ hk _ _ (fun j _ => by unfold rcl; rw [if_pos q, if_neg q2])]
      exact Nat.zero_le _
  · rw [if_neg q]
    have : rcl φ col = pz φ (col - 12) := by
      funext j; unfold rcl; rw [if_neg q]
    rw [this]
    refine dt_ld w hk (by omega) (fun j hj => ?_)
    rw [← Mx_un]
    have := ds_le (φ := φ)
    exact hB.2 _ (okc_up hY (Or.inr ⟨by omega, by have := hB.1; omega⟩))
/-- the same beside a row of loads -/
theorem dt_col2 (w : WF φ) {m B : Nat} (hB : Bm φ m B) {Y : Nat → Nat} {c k1 : Nat} (hc : c < 3) (hk1 : k1 < dd φ) (hY : ∀ i, i < dd φ → i ≠ k1 → okc φ m (Y i)) {k col : Nat} (hk : k < dd φ) (hcol : col < 15) (hne : k ≠ k1) : (dt (dd φ) (up (up (Mx φ Y) k1 (pz φ c)) k (rcl φ col))).natAbs ≤ if col < 12 then 70 * B else 4900 * B := by
  rw [up_comm (fun q => hne q.symm)]
  have h1 := dt_ld w (v := up (Mx φ Y) k (rcl φ col)) (k := k1) (c := c) (B := if col < 12 then B else 70 * B) hk1 hc (fun j hj => by
    rw [up_comm hne, ← Mx_un]
    refine dt_col w hB (fun i hi => ?_) hk hcol
    unfold upN
    by_cases q : i = k1
    · rw [if_pos q]; exact Or.inr ⟨by omega, by have := hB.1; omega⟩
    · rw [if_neg q]; exact hY i hi q)
  refine Nat.le_trans h1 ?_
  by_cases q : col < 12
  · rw [if_pos q, if_pos q]; exact Nat.le_refl _
  · rw [if_neg q, if_neg q]; omega
end
