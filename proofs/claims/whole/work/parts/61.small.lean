-- ===== the class's small methods =====
section
variable {N : Nat} {σ : ZS} {φ : FR}
theorem s_isNode (h : CFr σ 0 φ) (w : WF φ) {x : Int} (hx : iR x) : f_X5_isNode N (nt x) σ = some (nt (if 0 ≤ x ∧ x ≤ nn φ - 1 then 1 else 0), σ) := by
  have := w.1
  unfold f_X5_isNode
  rw [CFr_n h, n_0, n_1, nt_sub, s_within N x 0 _ hx ⟨by omega, by omega⟩ ⟨by omega, by omega⟩]
  simp (disch := omega) only [bd_eq, obd_some, ck_inb, nat_k, nat_nt, nt_add, nt_sub, nt_mul, nt_neg, le_t, le_f, lt_t, lt_f, eq_t, eq_f, br_p, bb_p, n_0, n_1, n_2, n_3, n_4, n_5, n_6, n_7, n_8, n_9, n_10, n_11, n_12, n_13, n_14, n_15, n_16, n_17, n_18, n_19, n_20, n_21, n_22, n_23, n_24, n_25, n_26, n_27, n_28, n_29, n_30, n_31, n_32, n_42, n_83, n_99, n_100, n_126, n_127, n_180, n_200, n_252, n_924, n_4096, n_20000, n_m1, n_m2, n_m3, n_m4, n_m5, n_m6, n_m99]
theorem s_isBar (h : CFr σ 0 φ) (w : WF φ) {x : Int} (hx : iR x) : f_X5_isBar N (nt x) σ = some (nt (if 0 ≤ x ∧ x ≤ nb φ - 1 then 1 else 0), σ) := by
  have := w.2.1
  unfold f_X5_isBar
  rw [CFr_b h, n_0, n_1, nt_sub, s_within N x 0 _ hx ⟨by omega, by omega⟩ ⟨by omega, by omega⟩]
  simp (disch := omega) only [bd_eq, obd_some, ck_inb, nat_k, nat_nt, nt_add, nt_sub, nt_mul, nt_neg, le_t, le_f, lt_t, lt_f, eq_t, eq_f, br_p, bb_p, n_0, n_1, n_2, n_3, n_4, n_5, n_6, n_7, n_8, n_9, n_10, n_11, n_12, n_13, n_14, n_15, n_16, n_17, n_18, n_19, n_20, n_21, n_22, n_23, n_24, n_25, n_26, n_27, n_28, n_29, n_30, n_31, n_32, n_42, n_83, n_99, n_100, n_126, n_127, n_180, n_200, n_252, n_924, n_4096, n_20000, n_m1, n_m2, n_m3, n_m4, n_m5, n_m6, n_m99]
theorem s_isEnd (h : CFr σ 0 φ) (w : WF φ) {x : Int} (hx : iR x) : f_X5_isEnd N (nt x) σ = some (nt (if 0 ≤ x ∧ x ≤ 2 * nb φ - 1 then 1 else 0), σ) := by
  have := w.2.1
  unfold f_X5_isEnd
  rw [CFr_b h, n_0, n_1, n_2, nt_mul, nt_sub, s_within N x 0 _ hx ⟨by omega, by omega⟩ ⟨by omega, by omega⟩]
  simp (disch := omega) only [bd_eq, obd_some, ck_inb, nat_k, nat_nt, nt_add, nt_sub, nt_mul, nt_neg, le_t, le_f, lt_t, lt_f, eq_t, eq_f, br_p, bb_p, n_0, n_1, n_2, n_3, n_4, n_5, n_6, n_7, n_8, n_9, n_10, n_11, n_12, n_13, n_14, n_15, n_16, n_17, n_18, n_19, n_20, n_21, n_22, n_23, n_24, n_25, n_26, n_27, n_28, n_29, n_30, n_31, n_32, n_42, n_83, n_99, n_100, n_126, n_127, n_180, n_200, n_252, n_924, n_4096, n_20000, n_m1, n_m2, n_m3, n_m4, n_m5, n_m6, n_m99]
theorem s_isFactored {x : Int} (hx : iR x) : f_X5_isFactored N (nt x) σ = some (nt (if 1 ≤ x ∧ x ≤ 2 then 1 else 0), σ) := by
  unfold f_X5_isFactored
  rw [n_1, n_2, s_within N x 1 2 hx ⟨by omega, by omega⟩ ⟨by omega, by omega⟩]
  simp (disch := omega) only [bd_eq, obd_some, ck_inb, nat_k, nat_nt, nt_add, nt_sub, nt_mul, nt_neg, le_t, le_f, lt_t, lt_f, eq_t, eq_f, br_p, bb_p, n_0, n_1, n_2, n_3, n_4, n_5, n_6, n_7, n_8, n_9, n_10, n_11, n_12, n_13, n_14, n_15, n_16, n_17, n_18, n_19, n_20, n_21, n_22, n_23, n_24, n_25, n_26, n_27, n_28, n_29, n_30, n_31, n_32, n_42, n_83, n_99, n_100, n_126, n_127, n_180, n_200, n_252, n_924, n_4096, n_20000, n_m1, n_m2, n_m3, n_m4, n_m5, n_m6, n_m99]
theorem s_forgetShape : f_X5_forgetShape N σ = some ((), sI (sI σ 0 7 (nt 0)) 0 8 (nt 0)) := rfl
theorem s_barBetween (hN : 100 ≤ N) (h : CFr σ 0 φ) (w : WF φ) {x y : Int} (hx : iR x) (hy : iR y) : f_X2_barBetween N (nt x) (nt y) σ = some (nt (if an (fun n => decide (φ.1 3 n = x ∧ φ.1 4 n = y)) (nb φ) = true then 1 else 0), σ) := by
  unfold f_X2_barBetween
  have hw := w.2.1
  have hw1 := w.1
  have hg : ∀ k, k < nb φ → (nt (φ.1 3 k) = nt x ↔ φ.1 3 k = x) ∧ (nt (φ.1 4 k) = nt y ↔ φ.1 4 k = y) := fun k hk => by
    have := w.2.2.2.1 k hk
    exact ⟨nt_eq ⟨by omega, by omega⟩ hx, nt_eq ⟨by omega, by omega⟩ hy⟩
  have := lp_any (fun n k => f_X2_barBetween_h2 N (nt x) (nt y) n (nt (k : Nat)) σ) (fun n => decide (φ.1 3 n = x ∧ φ.1 4 n = y)) (nb φ) (some (nt 0, σ)) (some (nt 1, σ)) (fun n => by
      rw [f_X2_barBetween_h2, CFr_b h, le_t (by omega) (by omega) (by omega), n_0]) (fun n k hk hp => by
      rw [decide_eq_true_eq] at hp
      rw [f_X2_barBetween_h2, CFr_b h, le_f (by omega) (by omega) (by omega), ck_inb (by omega) (by omega) (by omega), nat_k (by omega), CFr_f h hk, CFr_g h hk, if_pos ((hg k hk).1.mpr hp.1), ck_inb (by omega) (by omega) (by omega), if_pos ((hg k hk).2.mpr hp.2), n_1]) (fun n k hk hp => by
      rw [decide_eq_false_iff_not] at hp
      rw [f_X2_barBetween_h2, CFr_b h, le_f (by omega) (by omega) (by omega), ck_inb (by omega) (by omega) (by omega), nat_k (by omega), CFr_f h hk, CFr_g h hk]
      have e : f_X2_barBetween_b32 N (fun x3_ σ_ => f_X2_barBetween_h2 N (nt x) (nt y) n x3_ σ_) (nt x) (nt y) (nt (k : Nat)) σ = f_X2_barBetween_h2 N (nt x) (nt y) n (nt ((k + 1 : Nat) : Int)) σ := by
        rw [f_X2_barBetween_b32, bd_eq, n_1, nt_add]; rfl
      by_cases e1 : φ.1 3 k = x
      · rw [if_pos ((hg k hk).1.mpr e1), ck_inb (by omega) (by omega) (by omega), if_neg (fun q => hp ⟨e1, (hg k hk).2.mp q⟩), e]
      · rw [if_neg (fun q => e1 ((hg k hk).1.mp q)), e]) (nb φ) 0 N (by omega) (by omega) (fun k hk => by omega)
  rw [show (0 : Int32) = nt ((0 : Nat) : Int) from rfl, this]
  split <;> rfl
theorem s_canJoin (h : CFr σ 0 φ) (w : WF φ) {a b : Nat} (ha : a < nn φ) (hb : b < nn φ) : f_X2_canJoin N (nt a) (nt b) σ = some (nt (if (φ.1 1 b - φ.1 1 a = 0 ∧ 1 ≤ φ.1 0 b - φ.1 0 a ∧ φ.1 0 b - φ.1 0 a ≤ 4) ∨ (φ.1 0 b - φ.1 0 a = 0 ∧ 1 ≤ φ.1 1 b - φ.1 1 a ∧ φ.1 1 b - φ.1 1 a ≤ 4) then 1 else 0), σ) := by
  have hw := w.1
  have h1 := w.2.2.1 a ha
  have h2 := w.2.2.1 b hb
  unfold f_X2_canJoin
  rw [ck_inb (by omega) (by omega) (by omega), ck_inb (by omega) (by omega) (by omega), nat_k (by omega), nat_k (by omega), CFr_x h ha, CFr_x h hb, nt_sub, bd_eq, ck_inb (by omega) (by omega) (by omega), ck_inb (by omega) (by omega) (by omega), CFr_y h ha, CFr_y h hb, nt_sub, bd_eq]
  have hX : iR (φ.1 0 b - φ.1 0 a) := ⟨by omega, by omega⟩
  have hY : iR (φ.1 1 b - φ.1 1 a) := ⟨by omega, by omega⟩
  generalize φ.1 0 b - φ.1 0 a = X at *
  generalize φ.1 1 b - φ.1 1 a = Y at *
  have hX1 := hX.1
  have hX2 := hX.2
  have hY1 := hY.1
  have hY2 := hY.2
  have e : ∀ (p : Prop) [Decidable p], (if nt X = 0 then obd (f_X5_within N (nt Y) (1 : Int32) (4 : Int32) σ) fun v9 σ10 => (if v9 = 0 then some ((0 : Int32), σ10) else f_X2_canJoin_b57 N σ10) else some ((0 : Int32), σ)) = some (nt (if X = 0 ∧ 1 ≤ Y ∧ Y ≤ 4 then 1 else 0), σ) := by
    intro p _
    rw [n_1, n_4, s_within N Y 1 4 hY ⟨by omega, by omega⟩ ⟨by omega, by omega⟩, obd_some, br_p]
    by_cases e1 : X = 0
    · rw [n_0, eq_t e1]
      by_cases e2 : 1 ≤ Y ∧ Y ≤ 4
      · rw [if_pos e2, if_pos ⟨e1, e2⟩]; rfl
      · rw [if_neg e2, if_neg (fun q => e2 q.2)]
    · rw [n_0, eq_f e1 (by omega) (by omega) (by omega) (by omega), if_neg (fun q => e1 q.1)]
  have e9 : f_X2_canJoin_b43 N (nt X) (nt Y) σ = some (nt (if X = 0 ∧ 1 ≤ Y ∧ Y ≤ 4 then 1 else 0), σ) := by
    unfold f_X2_canJoin_b43
    exact e True
  rw [n_1, n_4, s_within N X 1 4 hX ⟨by omega, by omega⟩ ⟨by omega, by omega⟩, obd_some, br_p, e9, n_0]
  unfold f_X2_canJoin_b57
  by_cases e1 : Y = 0
  · rw [eq_t e1]
    by_cases e2 : 1 ≤ X ∧ X ≤ 4
    · rw [if_pos e2, if_pos (Or.inl ⟨e1, e2⟩)]; rfl
    · rw [if_neg e2]
      by_cases e3 : X = 0 ∧ 1 ≤ Y ∧ Y ≤ 4
      · rw [if_pos e3, if_pos (Or.inr e3)]
      · rw [if_neg e3, if_neg (by omega)]
  · rw [eq_f e1 (by omega) (by omega) (by omega) (by omega)]
    by_cases e3 : X = 0 ∧ 1 ≤ Y ∧ Y ≤ 4
    · rw [if_pos e3, if_pos (Or.inr e3)]
    · rw [if_neg e3, if_neg (by omega)]
theorem s_isVertical (h : CFr σ 0 φ) (w : WF φ) {b : Nat} (hb : b < nb φ) : f_X2_isVertical N (nt b) σ = some (nt (if φ.1 0 (φ.1 3 b).toNat = φ.1 0 (φ.1 4 b).toNat then 1 else 0), σ) := by
  have hw := w.1
  have hw2 := w.2.1
  have h1 := w.2.2.2.1 b hb
  have h2 := w.2.2.1 (φ.1 3 b).toNat (by omega)
  have h3 := w.2.2.1 (φ.1 4 b).toNat (by omega)
  unfold f_X2_isVertical
  rw [nat_k (by omega), CFr_f h hb, CFr_g h hb]
  simp (disch := omega) only [bd_eq, obd_some, ck_inb, nat_k, nat_nt, nt_add, nt_sub, nt_mul, nt_neg, le_t, le_f, lt_t, lt_f, eq_t, eq_f, br_p, bb_p, n_0, n_1, n_2, n_3, n_4, n_5, n_6, n_7, n_8, n_9, n_10, n_11, n_12, n_13, n_14, n_15, n_16, n_17, n_18, n_19, n_20, n_21, n_22, n_23, n_24, n_25, n_26, n_27, n_28, n_29, n_30, n_31, n_32, n_42, n_83, n_99, n_100, n_126, n_127, n_180, n_200, n_252, n_924, n_4096, n_20000, n_m1, n_m2, n_m3, n_m4, n_m5, n_m6, n_m99]
  rw [CFr_x h (by omega), CFr_x h (by omega)]
  by_cases e : φ.1 0 (φ.1 3 b).toNat = φ.1 0 (φ.1 4 b).toNat
  · rw [if_pos e, eq_t e]
  · rw [if_neg e, eq_f e (by omega) (by omega) (by omega) (by omega)]
theorem s_length (h : CFr σ 0 φ) (w : WF φ) {b : Nat} (hb : b < nb φ) : f_X2_length N (nt b) σ = some (nt (φ.1 0 (φ.1 4 b).toNat - φ.1 0 (φ.1 3 b).toNat + φ.1 1 (φ.1 4 b).toNat - φ.1 1 (φ.1 3 b).toNat), σ) := by
  have hw := w.1
  have hw2 := w.2.1
  have h1 := w.2.2.2.1 b hb
  unfold f_X2_length
  rw [nat_k (by omega), CFr_f h hb, CFr_g h hb]
  simp (disch := omega) only [bd_eq, obd_some, ck_inb, nat_k, nat_nt, nt_add, nt_sub, nt_mul, nt_neg, le_t, le_f, lt_t, lt_f, eq_t, eq_f, br_p, bb_p, n_0, n_1, n_2, n_3, n_4, n_5, n_6, n_7, n_8, n_9, n_10, n_11, n_12, n_13, n_14, n_15, n_16, n_17, n_18, n_19, n_20, n_21, n_22, n_23, n_24, n_25, n_26, n_27, n_28, n_29, n_30, n_31, n_32, n_42, n_83, n_99, n_100, n_126, n_127, n_180, n_200, n_252, n_924, n_4096, n_20000, n_m1, n_m2, n_m3, n_m4, n_m5, n_m6, n_m99]
  rw [CFr_x h (by omega), CFr_x h (by omega), CFr_y h (by omega), CFr_y h (by omega)]
  simp (disch := omega) only [bd_eq, obd_some, ck_inb, nat_k, nat_nt, nt_add, nt_sub, nt_mul, nt_neg, le_t, le_f, lt_t, lt_f, eq_t, eq_f, br_p, bb_p, n_0, n_1, n_2, n_3, n_4, n_5, n_6, n_7, n_8, n_9, n_10, n_11, n_12, n_13, n_14, n_15, n_16, n_17, n_18, n_19, n_20, n_21, n_22, n_23, n_24, n_25, n_26, n_27, n_28, n_29, n_30, n_31, n_32, n_42, n_83, n_99, n_100, n_126, n_127, n_180, n_200, n_252, n_924, n_4096, n_20000, n_m1, n_m2, n_m3, n_m4, n_m5, n_m6, n_m99]
theorem s_shifts (h : CFr σ 0 φ) (w : WF φ) {n : Nat} (hn : n < nn φ) {x : Int} (hx : x = 0 ∨ x = 1) : f_X2_shifts N (nt n) (nt x) σ = some (nt (if φ.1 2 n = 0 ∨ (φ.1 2 n = 3 ∧ x = 0) then 1 else 0), σ) := by
  have hw := w.1
  have h1 := w.2.2.1 n hn
  unfold f_X2_shifts f_X2_shifts_b23
  rw [nat_k (by omega), CFr_k h hn, ck_inb (by omega) (by omega) (by omega), ck_inb (by omega) (by omega) (by omega), n_0, n_1, n_3]
  by_cases e : φ.1 2 n = 0
  · rw [eq_t e, if_pos (Or.inl e)]
  · rw [eq_f e (by omega) (by omega) (by omega) (by omega)]
    by_cases e2 : φ.1 2 n = 3
    · rw [eq_t e2]
      rcases hx with rfl | rfl
      · rw [eq_t rfl, if_pos (Or.inr ⟨e2, rfl⟩)]
      · rw [eq_f (by omega) (by omega) (by omega) (by omega) (by omega), if_neg (by omega)]
    · rw [eq_f e2 (by omega) (by omega) (by omega) (by omega), if_neg (by omega)]
theorem s_turns (h : CFr σ 0 φ) (w : WF φ) {n : Nat} (hn : n < nn φ) : f_X2_turns N (nt n) σ = some (nt (if φ.1 2 n = 2 then 0 else 1), σ) := by
  have hw := w.1
  have h1 := w.2.2.1 n hn
  unfold f_X2_turns
  rw [nat_k (by omega), CFr_k h hn, ck_inb (by omega) (by omega) (by omega), n_0, n_1, n_2]
  by_cases e : φ.1 2 n = 2
  · rw [eq_t e, if_pos e]
  · rw [eq_f e (by omega) (by omega) (by omega) (by omega), if_neg e]
end
