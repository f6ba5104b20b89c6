def zOff (c : Nat) : Nat := if c < 65 then [0, 15, 1, 16, 30, 46, 45, 44, 1066, 1062, 1063, 1064, 1065, 8, 23, 37, 47, 127, 131, 1057, 2, 3, 4, 5, 6, 7, 17, 18, 19, 20, 21, 22, 31, 32, 33, 34, 35, 36, 9, 10, 11, 12, 13, 14, 24, 25, 26, 27, 28, 29, 38, 39, 40, 41, 42, 43, 126, 128, 129, 130, 1056, 1061, 1058, 1059, 1060].getD c 0 else if c < 143 then c - 17 else if c < 1067 then c - 11 else c
def zG (s0 : Nat) (D : va_G) (cy : Nat → ClassId) : ZG := (fun c => s0 + zOff c, D, cy)
def z0 : ZS := (fun c k => if c = 1067 then (if k = 9 then 1 else if k = 30 then -1 else 0) else 0, fun c k => if k = 1 then (if 8 ≤ c ∧ c ≤ 12 then 1 else 0) else 0)
theorem zInt {D : va_G} {cl : List vw_C} {a n : Nat} {cA : ClassId} {f g : Nat → Int32} {H : Heap} (h : va_at D cl (a, .inl (cA, (n, .inl f))) H) (e : g = f) : va_at D cl (a, .inl (cA, (n, .inl g))) H := by subst e; exact h
theorem zLong {D : va_G} {cl : List vw_C} {a n : Nat} {cA : ClassId} {f g : Nat → Int64} {H : Heap} (h : va_at D cl (a, .inl (cA, (n, .inr (.inl f)))) H) (e : g = f) : va_at D cl (a, .inl (cA, (n, .inr (.inl g)))) H := by subst e; exact h
theorem arrV_congr (cA : ClassId) (n : Nat) {f g : Nat → Value} (e : ∀ j, j < n → f j = g j) : arrV cA n f = arrV cA n g := by
  unfold arrV
  congr 1
  apply Array.ext
  · simp
  · intro i h1 h2
    simp only [Array.getElem_ofFn]
    exact e i (by simpa using h1)
theorem zRefs {D : va_G} {cl : List vw_C} {a n : Nat} {cA : ClassId} {f g : Nat → Option Nat} {H : Heap} (h : va_at D cl (a, .inl (cA, (n, .inr (.inr (.inr (.inr f)))))) H) (e : ∀ j, j < n → g j = f j) : va_at D cl (a, .inl (cA, (n, .inr (.inr (.inr (.inr g)))))) H := by
  have h : H[a]? = some (vp_cell cA (n, .inr (.inr (.inr (.inr f))))) := h
  show H[a]? = some (vp_cell cA (n, .inr (.inr (.inr (.inr g)))))
  rw [h, vp_cell_q, vp_cell_q, arrV_congr cA n (fun j hj => congrArg va_rf (e j hj))]
theorem zObj {D : va_G} {cl : List vw_C} {a k : Nat} {fs gs : List Value} {H : Heap} (h : va_at D cl (a, .inr (k, fs)) H) (e : gs = fs) : va_at D cl (a, .inr (k, gs)) H := by subst e; exact h
theorem z0I {c : Nat} (h : c ≠ 1067) : z0.1 c = fun _ => 0 := by funext k; simp [z0, h]
theorem z0J {c : Nat} (h : ¬ (8 ≤ c ∧ c ≤ 12)) : z0.2 c = fun _ => 0 := by funext k; simp only [z0, if_neg h]; split <;> rfl
section ZFIRST
variable {s0 : Nat} {D : va_G} {cy : Nat → ClassId} {H : Heap}
set_option maxRecDepth 100000 in
set_option maxHeartbeats 2000000 in
theorem zc_0 (h1 : va_P D vwCl (cW s0 (s0 + 1) (.inr (5, fin_X5 (zG s0 D cy) (s0 + 1))) (es_X5 (zG s0 D cy) (s0 + 1))) H) (h2 : va_P D vwCl (cW (s0 + 1067) (s0 + 1068) (.inr (6, fin_X6 (zG s0 D cy) (s0 + 1068))) (es_X6 (zG s0 D cy) (s0 + 1068))) H) : va_at D vwCl ((zG s0 D cy).1 0, ent (zG s0 D cy) z0 0) H := by
  have h := h1 0 _ rfl
  rw [ent_obj (by decide)]
  exact zObj h (by rfl)
set_option maxRecDepth 100000 in
set_option maxHeartbeats 2000000 in
theorem zc_1 (h1 : va_P D vwCl (cW s0 (s0 + 1) (.inr (5, fin_X5 (zG s0 D cy) (s0 + 1))) (es_X5 (zG s0 D cy) (s0 + 1))) H) (h2 : va_P D vwCl (cW (s0 + 1067) (s0 + 1068) (.inr (6, fin_X6 (zG s0 D cy) (s0 + 1068))) (es_X6 (zG s0 D cy) (s0 + 1068))) H) : va_at D vwCl ((zG s0 D cy).1 1, ent (zG s0 D cy) z0 1) H := by
  have h := h1 15 (s0 + 15, (.inl ((zG s0 D cy).2.2 4, (2, .inr (.inr (.inr (.inr (va_up (va_up (fun _ => none) ((0 : Int32)).toNatClampNeg (some (s0 + 1 + 15))) ((1 : Int32)).toNatClampNeg (some (s0 + 1 + 29)))))))))) ((cW_at (i := 14) (by simp only [es_X5, es_X2, es_X0, es_X1, es_X3, es_X4, List.getElem?_append, List.getElem?_replicate, List.getElem?_cons, List.length_append, List.length_cons, List.length_nil, List.length_replicate, es_X5_len, es_X2_len, es_X0_len, es_X1_len, es_X3_len, es_X4_len, es_X6_len] <;> rfl)).trans (by rw [show s0 + 1 + 14 = s0 + 15 by omega]))
  rw [ent_refs (by decide)]
  refine zRefs h (fun j hj => ?_)
  match j, hj with
  | 0, _ => rfl
  | 1, _ => rfl
set_option maxRecDepth 100000 in
set_option maxHeartbeats 2000000 in
theorem zc_2 (h1 : va_P D vwCl (cW s0 (s0 + 1) (.inr (5, fin_X5 (zG s0 D cy) (s0 + 1))) (es_X5 (zG s0 D cy) (s0 + 1))) H) (h2 : va_P D vwCl (cW (s0 + 1067) (s0 + 1068) (.inr (6, fin_X6 (zG s0 D cy) (s0 + 1068))) (es_X6 (zG s0 D cy) (s0 + 1068))) H) : va_at D vwCl ((zG s0 D cy).1 2, ent (zG s0 D cy) z0 2) H := by
  have h := h1 1 (s0 + 1, (.inr (2, fin_X2 (zG s0 D cy) (s0 + 2)))) ((cW_at (i := 0) (by simp only [es_X5, es_X2, es_X0, es_X1, es_X3, es_X4, List.getElem?_append, List.getElem?_replicate, List.getElem?_cons, List.length_append, List.length_cons, List.length_nil, List.length_replicate, es_X5_len, es_X2_len, es_X0_len, es_X1_len, es_X3_len, es_X4_len, es_X6_len] <;> rfl)).trans (by rw [show s0 + 1 + 0 = s0 + 1 by omega]))
  rw [ent_obj (by decide)]
  exact zObj h (by rfl)
set_option maxRecDepth 100000 in
set_option maxHeartbeats 2000000 in
theorem zc_3 (h1 : va_P D vwCl (cW s0 (s0 + 1) (.inr (5, fin_X5 (zG s0 D cy) (s0 + 1))) (es_X5 (zG s0 D cy) (s0 + 1))) H) (h2 : va_P D vwCl (cW (s0 + 1067) (s0 + 1068) (.inr (6, fin_X6 (zG s0 D cy) (s0 + 1068))) (es_X6 (zG s0 D cy) (s0 + 1068))) H) : va_at D vwCl ((zG s0 D cy).1 3, ent (zG s0 D cy) z0 3) H := by
  have h := h1 16 (s0 + 16, (.inr (2, fin_X2 (zG s0 D cy) (s0 + 17)))) ((cW_at (i := 15) (by simp only [es_X5, es_X2, es_X0, es_X1, es_X3, es_X4, List.getElem?_append, List.getElem?_replicate, List.getElem?_cons, List.length_append, List.length_cons, List.length_nil, List.length_replicate, es_X5_len, es_X2_len, es_X0_len, es_X1_len, es_X3_len, es_X4_len, es_X6_len] <;> rfl)).trans (by rw [show s0 + 1 + 15 = s0 + 16 by omega]))
  rw [ent_obj (by decide)]
  exact zObj h (by rfl)
set_option maxRecDepth 100000 in
set_option maxHeartbeats 2000000 in
theorem zc_4 (h1 : va_P D vwCl (cW s0 (s0 + 1) (.inr (5, fin_X5 (zG s0 D cy) (s0 + 1))) (es_X5 (zG s0 D cy) (s0 + 1))) H) (h2 : va_P D vwCl (cW (s0 + 1067) (s0 + 1068) (.inr (6, fin_X6 (zG s0 D cy) (s0 + 1068))) (es_X6 (zG s0 D cy) (s0 + 1068))) H) : va_at D vwCl ((zG s0 D cy).1 4, ent (zG s0 D cy) z0 4) H := by
  have h := h1 30 (s0 + 30, (.inr (2, fin_X2 (zG s0 D cy) (s0 + 31)))) ((cW_at (i := 29) (by simp only [es_X5, es_X2, es_X0, es_X1, es_X3, es_X4, List.getElem?_append, List.getElem?_replicate, List.getElem?_cons, List.length_append, List.length_cons, List.length_nil, List.length_replicate, es_X5_len, es_X2_len, es_X0_len, es_X1_len, es_X3_len, es_X4_len, es_X6_len] <;> rfl)).trans (by rw [show s0 + 1 + 29 = s0 + 30 by omega]))
  rw [ent_obj (by decide)]
  exact zObj h (by rfl)
set_option maxRecDepth 100000 in
set_option maxHeartbeats 2000000 in
theorem zc_5 (h1 : va_P D vwCl (cW s0 (s0 + 1) (.inr (5, fin_X5 (zG s0 D cy) (s0 + 1))) (es_X5 (zG s0 D cy) (s0 + 1))) H) (h2 : va_P D vwCl (cW (s0 + 1067) (s0 + 1068) (.inr (6, fin_X6 (zG s0 D cy) (s0 + 1068))) (es_X6 (zG s0 D cy) (s0 + 1068))) H) : va_at D vwCl ((zG s0 D cy).1 5, ent (zG s0 D cy) z0 5) H := by
  have h := h1 46 (s0 + 46, (.inr (4, fin_X4 (zG s0 D cy) (s0 + 47)))) ((cW_at (i := 45) (by simp only [es_X5, es_X2, es_X0, es_X1, es_X3, es_X4, List.getElem?_append, List.getElem?_replicate, List.getElem?_cons, List.length_append, List.length_cons, List.length_nil, List.length_replicate, es_X5_len, es_X2_len, es_X0_len, es_X1_len, es_X3_len, es_X4_len, es_X6_len] <;> rfl)).trans (by rw [show s0 + 1 + 45 = s0 + 46 by omega]))
  rw [ent_obj (by decide)]
  exact zObj h (by rfl)
set_option maxRecDepth 100000 in
set_option maxHeartbeats 2000000 in
theorem zc_6 (h1 : va_P D vwCl (cW s0 (s0 + 1) (.inr (5, fin_X5 (zG s0 D cy) (s0 + 1))) (es_X5 (zG s0 D cy) (s0 + 1))) H) (h2 : va_P D vwCl (cW (s0 + 1067) (s0 + 1068) (.inr (6, fin_X6 (zG s0 D cy) (s0 + 1068))) (es_X6 (zG s0 D cy) (s0 + 1068))) H) : va_at D vwCl ((zG s0 D cy).1 6, ent (zG s0 D cy) z0 6) H := by
  have h := h1 45 (s0 + 45, (.inr (3, fin_X3 (zG s0 D cy) (s0 + 46)))) ((cW_at (i := 44) (by simp only [es_X5, es_X2, es_X0, es_X1, es_X3, es_X4, List.getElem?_append, List.getElem?_replicate, List.getElem?_cons, List.length_append, List.length_cons, List.length_nil, List.length_replicate, es_X5_len, es_X2_len, es_X0_len, es_X1_len, es_X3_len, es_X4_len, es_X6_len] <;> rfl)).trans (by rw [show s0 + 1 + 44 = s0 + 45 by omega]))
  rw [ent_obj (by decide)]
  exact zObj h (by rfl)
set_option maxRecDepth 100000 in
set_option maxHeartbeats 2000000 in
theorem zc_7 (h1 : va_P D vwCl (cW s0 (s0 + 1) (.inr (5, fin_X5 (zG s0 D cy) (s0 + 1))) (es_X5 (zG s0 D cy) (s0 + 1))) H) (h2 : va_P D vwCl (cW (s0 + 1067) (s0 + 1068) (.inr (6, fin_X6 (zG s0 D cy) (s0 + 1068))) (es_X6 (zG s0 D cy) (s0 + 1068))) H) : va_at D vwCl ((zG s0 D cy).1 7, ent (zG s0 D cy) z0 7) H := by
  have h := h1 44 (s0 + 44, (.inr (0, fin_X0 (zG s0 D cy) (s0 + 45)))) ((cW_at (i := 43) (by simp only [es_X5, es_X2, es_X0, es_X1, es_X3, es_X4, List.getElem?_append, List.getElem?_replicate, List.getElem?_cons, List.length_append, List.length_cons, List.length_nil, List.length_replicate, es_X5_len, es_X2_len, es_X0_len, es_X1_len, es_X3_len, es_X4_len, es_X6_len] <;> rfl)).trans (by rw [show s0 + 1 + 43 = s0 + 44 by omega]))
  rw [ent_obj (by decide)]
  exact zObj h (by rfl)
set_option maxRecDepth 100000 in
set_option maxHeartbeats 2000000 in
theorem zc_8 (h1 : va_P D vwCl (cW s0 (s0 + 1) (.inr (5, fin_X5 (zG s0 D cy) (s0 + 1))) (es_X5 (zG s0 D cy) (s0 + 1))) H) (h2 : va_P D vwCl (cW (s0 + 1067) (s0 + 1068) (.inr (6, fin_X6 (zG s0 D cy) (s0 + 1068))) (es_X6 (zG s0 D cy) (s0 + 1068))) H) : va_at D vwCl ((zG s0 D cy).1 8, ent (zG s0 D cy) z0 8) H := by
  have h := h1 1066 (s0 + 1066, (.inr (1, fin_X1 (zG s0 D cy) (s0 + 1067)))) ((cW_at (i := 1065) (by simp only [es_X5, es_X2, es_X0, es_X1, es_X3, es_X4, List.getElem?_append, List.getElem?_replicate, List.getElem?_cons, List.length_append, List.length_cons, List.length_nil, List.length_replicate, es_X5_len, es_X2_len, es_X0_len, es_X1_len, es_X3_len, es_X4_len, es_X6_len] <;> rfl)).trans (by rw [show s0 + 1 + 1065 = s0 + 1066 by omega]))
  rw [ent_obj (by decide)]
  exact zObj h (by rfl)
set_option maxRecDepth 100000 in
set_option maxHeartbeats 2000000 in
theorem zc_9 (h1 : va_P D vwCl (cW s0 (s0 + 1) (.inr (5, fin_X5 (zG s0 D cy) (s0 + 1))) (es_X5 (zG s0 D cy) (s0 + 1))) H) (h2 : va_P D vwCl (cW (s0 + 1067) (s0 + 1068) (.inr (6, fin_X6 (zG s0 D cy) (s0 + 1068))) (es_X6 (zG s0 D cy) (s0 + 1068))) H) : va_at D vwCl ((zG s0 D cy).1 9, ent (zG s0 D cy) z0 9) H := by
  have h := h1 1062 (s0 + 1062, (.inr (1, fin_X1 (zG s0 D cy) (s0 + 1063)))) ((cW_at (i := 1061) (by simp only [es_X5, es_X2, es_X0, es_X1, es_X3, es_X4, List.getElem?_append, List.getElem?_replicate, List.getElem?_cons, List.length_append, List.length_cons, List.length_nil, List.length_replicate, es_X5_len, es_X2_len, es_X0_len, es_X1_len, es_X3_len, es_X4_len, es_X6_len] <;> rfl)).trans (by rw [show s0 + 1 + 1061 = s0 + 1062 by omega]))
  rw [ent_obj (by decide)]
  exact zObj h (by rfl)
set_option maxRecDepth 100000 in
set_option maxHeartbeats 2000000 in
theorem zc_10 (h1 : va_P D vwCl (cW s0 (s0 + 1) (.inr (5, fin_X5 (zG s0 D cy) (s0 + 1))) (es_X5 (zG s0 D cy) (s0 + 1))) H) (h2 : va_P D vwCl (cW (s0 + 1067) (s0 + 1068) (.inr (6, fin_X6 (zG s0 D cy) (s0 + 1068))) (es_X6 (zG s0 D cy) (s0 + 1068))) H) : va_at D vwCl ((zG s0 D cy).1 10, ent (zG s0 D cy) z0 10) H := by
  have h := h1 1063 (s0 + 1063, (.inr (1, fin_X1 (zG s0 D cy) (s0 + 1064)))) ((cW_at (i := 1062) (by simp only [es_X5, es_X2, es_X0, es_X1, es_X3, es_X4, List.getElem?_append, List.getElem?_replicate, List.getElem?_cons, List.length_append, List.length_cons, List.length_nil, List.length_replicate, es_X5_len, es_X2_len, es_X0_len, es_X1_len, es_X3_len, es_X4_len, es_X6_len] <;> rfl)).trans (by rw [show s0 + 1 + 1062 = s0 + 1063 by omega]))
  rw [ent_obj (by decide)]
  exact zObj h (by rfl)
set_option maxRecDepth 100000 in
set_option maxHeartbeats 2000000 in
theorem zc_11 (h1 : va_P D vwCl (cW s0 (s0 + 1) (.inr (5, fin_X5 (zG s0 D cy) (s0 + 1))) (es_X5 (zG s0 D cy) (s0 + 1))) H) (h2 : va_P D vwCl (cW (s0 + 1067) (s0 + 1068) (.inr (6, fin_X6 (zG s0 D cy) (s0 + 1068))) (es_X6 (zG s0 D cy) (s0 + 1068))) H) : va_at D vwCl ((zG s0 D cy).1 11, ent (zG s0 D cy) z0 11) H := by
  have h := h1 1064 (s0 + 1064, (.inr (1, fin_X1 (zG s0 D cy) (s0 + 1065)))) ((cW_at (i := 1063) (by simp only [es_X5, es_X2, es_X0, es_X1, es_X3, es_X4, List.getElem?_append, List.getElem?_replicate, List.getElem?_cons, List.length_append, List.length_cons, List.length_nil, List.length_replicate, es_X5_len, es_X2_len, es_X0_len, es_X1_len, es_X3_len, es_X4_len, es_X6_len] <;> rfl)).trans (by rw [show s0 + 1 + 1063 = s0 + 1064 by omega]))
  rw [ent_obj (by decide)]
  exact zObj h (by rfl)
set_option maxRecDepth 100000 in
set_option maxHeartbeats 2000000 in
theorem zc_12 (h1 : va_P D vwCl (cW s0 (s0 + 1) (.inr (5, fin_X5 (zG s0 D cy) (s0 + 1))) (es_X5 (zG s0 D cy) (s0 + 1))) H) (h2 : va_P D vwCl (cW (s0 + 1067) (s0 + 1068) (.inr (6, fin_X6 (zG s0 D cy) (s0 + 1068))) (es_X6 (zG s0 D cy) (s0 + 1068))) H) : va_at D vwCl ((zG s0 D cy).1 12, ent (zG s0 D cy) z0 12) H := by
  have h := h1 1065 (s0 + 1065, (.inr (1, fin_X1 (zG s0 D cy) (s0 + 1066)))) ((cW_at (i := 1064) (by simp only [es_X5, es_X2, es_X0, es_X1, es_X3, es_X4, List.getElem?_append, List.getElem?_replicate, List.getElem?_cons, List.length_append, List.length_cons, List.length_nil, List.length_replicate, es_X5_len, es_X2_len, es_X0_len, es_X1_len, es_X3_len, es_X4_len, es_X6_len] <;> rfl)).trans (by rw [show s0 + 1 + 1064 = s0 + 1065 by omega]))
  rw [ent_obj (by decide)]
  exact zObj h (by rfl)
set_option maxRecDepth 100000 in
set_option maxHeartbeats 2000000 in
theorem zc_13 (h1 : va_P D vwCl (cW s0 (s0 + 1) (.inr (5, fin_X5 (zG s0 D cy) (s0 + 1))) (es_X5 (zG s0 D cy) (s0 + 1))) H) (h2 : va_P D vwCl (cW (s0 + 1067) (s0 + 1068) (.inr (6, fin_X6 (zG s0 D cy) (s0 + 1068))) (es_X6 (zG s0 D cy) (s0 + 1068))) H) : va_at D vwCl ((zG s0 D cy).1 13, ent (zG s0 D cy) z0 13) H := by
  have h := h1 8 (s0 + 8, (.inl ((zG s0 D cy).2.2 5, (6, .inr (.inr (.inr (.inr (fun i => if i < 6 then some ((s0 + 8) + 1 + i) else none)))))))) ((cW_at (i := 7) (by simp only [es_X5, es_X2, es_X0, es_X1, es_X3, es_X4, List.getElem?_append, List.getElem?_replicate, List.getElem?_cons, List.length_append, List.length_cons, List.length_nil, List.length_replicate, es_X5_len, es_X2_len, es_X0_len, es_X1_len, es_X3_len, es_X4_len, es_X6_len] <;> rfl)).trans (by rw [show s0 + 1 + 7 = s0 + 8 by omega]))
  rw [ent_refs (by decide)]
  refine zRefs h (fun j hj => ?_)
  match j, hj with
  | 0, _ => rfl
  | 1, _ => rfl
  | 2, _ => rfl
  | 3, _ => rfl
  | 4, _ => rfl
  | 5, _ => rfl
set_option maxRecDepth 100000 in
set_option maxHeartbeats 2000000 in
theorem zc_14 (h1 : va_P D vwCl (cW s0 (s0 + 1) (.inr (5, fin_X5 (zG s0 D cy) (s0 + 1))) (es_X5 (zG s0 D cy) (s0 + 1))) H) (h2 : va_P D vwCl (cW (s0 + 1067) (s0 + 1068) (.inr (6, fin_X6 (zG s0 D cy) (s0 + 1068))) (es_X6 (zG s0 D cy) (s0 + 1068))) H) : va_at D vwCl ((zG s0 D cy).1 14, ent (zG s0 D cy) z0 14) H := by
  have h := h1 23 (s0 + 23, (.inl ((zG s0 D cy).2.2 5, (6, .inr (.inr (.inr (.inr (fun i => if i < 6 then some ((s0 + 23) + 1 + i) else none)))))))) ((cW_at (i := 22) (by simp only [es_X5, es_X2, es_X0, es_X1, es_X3, es_X4, List.getElem?_append, List.getElem?_replicate, List.getElem?_cons, List.length_append, List.length_cons, List.length_nil, List.length_replicate, es_X5_len, es_X2_len, es_X0_len, es_X1_len, es_X3_len, es_X4_len, es_X6_len] <;> rfl)).trans (by rw [show s0 + 1 + 22 = s0 + 23 by omega]))
  rw [ent_refs (by decide)]
  refine zRefs h (fun j hj => ?_)
  match j, hj with
  | 0, _ => rfl
  | 1, _ => rfl
  | 2, _ => rfl
  | 3, _ => rfl
  | 4, _ => rfl
  | 5, _ => rfl
set_option maxRecDepth 100000 in
set_option maxHeartbeats 2000000 in
theorem zc_15 (h1 : va_P D vwCl (cW s0 (s0 + 1) (.inr (5, fin_X5 (zG s0 D cy) (s0 + 1))) (es_X5 (zG s0 D cy) (s0 + 1))) H) (h2 : va_P D vwCl (cW (s0 + 1067) (s0 + 1068) (.inr (6, fin_X6 (zG s0 D cy) (s0 + 1068))) (es_X6 (zG s0 D cy) (s0 + 1068))) H) : va_at D vwCl ((zG s0 D cy).1 15, ent (zG s0 D cy) z0 15) H := by
  have h := h1 37 (s0 + 37, (.inl ((zG s0 D cy).2.2 5, (6, .inr (.inr (.inr (.inr (fun i => if i < 6 then some ((s0 + 37) + 1 + i) else none)))))))) ((cW_at (i := 36) (by simp only [es_X5, es_X2, es_X0, es_X1, es_X3, es_X4, List.getElem?_append, List.getElem?_replicate, List.getElem?_cons, List.length_append, List.length_cons, List.length_nil, List.length_replicate, es_X5_len, es_X2_len, es_X0_len, es_X1_len, es_X3_len, es_X4_len, es_X6_len] <;> rfl)).trans (by rw [show s0 + 1 + 36 = s0 + 37 by omega]))
  rw [ent_refs (by decide)]
  refine zRefs h (fun j hj => ?_)
  match j, hj with
  | 0, _ => rfl
  | 1, _ => rfl
  | 2, _ => rfl
  | 3, _ => rfl
  | 4, _ => rfl
  | 5, _ => rfl
set_option maxRecDepth 100000 in
set_option maxHeartbeats 2000000 in
theorem zc_16 (h1 : va_P D vwCl (cW s0 (s0 + 1) (.inr (5, fin_X5 (zG s0 D cy) (s0 + 1))) (es_X5 (zG s0 D cy) (s0 + 1))) H) (h2 : va_P D vwCl (cW (s0 + 1067) (s0 + 1068) (.inr (6, fin_X6 (zG s0 D cy) (s0 + 1068))) (es_X6 (zG s0 D cy) (s0 + 1068))) H) : va_at D vwCl ((zG s0 D cy).1 16, ent (zG s0 D cy) z0 16) H := by
  have h := h1 47 (s0 + 47, (.inl ((zG s0 D cy).2.2 6, (78, .inr (.inr (.inr (.inr (fun i => if i < 78 then some ((s0 + 47) + 1 + i) else none)))))))) ((cW_at (i := 46) (by simp only [es_X5, es_X2, es_X0, es_X1, es_X3, es_X4, List.getElem?_append, List.getElem?_replicate, List.getElem?_cons, List.length_append, List.length_cons, List.length_nil, List.length_replicate, es_X5_len, es_X2_len, es_X0_len, es_X1_len, es_X3_len, es_X4_len, es_X6_len] <;> rfl)).trans (by rw [show s0 + 1 + 46 = s0 + 47 by omega]))
  rw [ent_refs (by decide)]
  refine zRefs h (fun j hj => ?_)
  have hj : j < 78 := hj
  show some (s0 + zOff (rr 16 j)) = if j < 78 then some ((s0 + 47) + 1 + j) else none
  rw [if_pos hj]
  have e1 : rr 16 j = 65 + j := by simp [rr]
  rw [e1]
  congr 1
  unfold zOff
  rw [if_neg (by omega)]
  first | (rw [if_pos (by omega)]; omega) | (rw [if_neg (by omega), if_pos (by omega)]; omega)
set_option maxRecDepth 100000 in
set_option maxHeartbeats 2000000 in
theorem zc_17 (h1 : va_P D vwCl (cW s0 (s0 + 1) (.inr (5, fin_X5 (zG s0 D cy) (s0 + 1))) (es_X5 (zG s0 D cy) (s0 + 1))) H) (h2 : va_P D vwCl (cW (s0 + 1067) (s0 + 1068) (.inr (6, fin_X6 (zG s0 D cy) (s0 + 1068))) (es_X6 (zG s0 D cy) (s0 + 1068))) H) : va_at D vwCl ((zG s0 D cy).1 17, ent (zG s0 D cy) z0 17) H := by
  have h := h1 127 (s0 + 127, (.inl ((zG s0 D cy).2.2 5, (2, .inr (.inr (.inr (.inr (fun i => if i < 2 then some ((s0 + 127) + 1 + i) else none)))))))) ((cW_at (i := 126) (by simp only [es_X5, es_X2, es_X0, es_X1, es_X3, es_X4, List.getElem?_append, List.getElem?_replicate, List.getElem?_cons, List.length_append, List.length_cons, List.length_nil, List.length_replicate, es_X5_len, es_X2_len, es_X0_len, es_X1_len, es_X3_len, es_X4_len, es_X6_len] <;> rfl)).trans (by rw [show s0 + 1 + 126 = s0 + 127 by omega]))
  rw [ent_refs (by decide)]
  refine zRefs h (fun j hj => ?_)
  match j, hj with
  | 0, _ => rfl
  | 1, _ => rfl
set_option maxRecDepth 100000 in
set_option maxHeartbeats 2000000 in
theorem zc_18 (h1 : va_P D vwCl (cW s0 (s0 + 1) (.inr (5, fin_X5 (zG s0 D cy) (s0 + 1))) (es_X5 (zG s0 D cy) (s0 + 1))) H) (h2 : va_P D vwCl (cW (s0 + 1067) (s0 + 1068) (.inr (6, fin_X6 (zG s0 D cy) (s0 + 1068))) (es_X6 (zG s0 D cy) (s0 + 1068))) H) : va_at D vwCl ((zG s0 D cy).1 18, ent (zG s0 D cy) z0 18) H := by
  have h := h1 131 (s0 + 131, (.inl ((zG s0 D cy).2.2 6, (924, .inr (.inr (.inr (.inr (fun i => if i < 924 then some ((s0 + 131) + 1 + i) else none)))))))) ((cW_at (i := 130) (by simp only [es_X5, es_X2, es_X0, es_X1, es_X3, es_X4, List.getElem?_append, List.getElem?_replicate, List.getElem?_cons, List.length_append, List.length_cons, List.length_nil, List.length_replicate, es_X5_len, es_X2_len, es_X0_len, es_X1_len, es_X3_len, es_X4_len, es_X6_len] <;> rfl)).trans (by rw [show s0 + 1 + 130 = s0 + 131 by omega]))
  rw [ent_refs (by decide)]
  refine zRefs h (fun j hj => ?_)
  have hj : j < 924 := hj
  show some (s0 + zOff (rr 18 j)) = if j < 924 then some ((s0 + 131) + 1 + j) else none
  rw [if_pos hj]
  have e1 : rr 18 j = 143 + j := by simp [rr]
  rw [e1]
  congr 1
  unfold zOff
  rw [if_neg (by omega)]
  first | (rw [if_pos (by omega)]; omega) | (rw [if_neg (by omega), if_pos (by omega)]; omega)
set_option maxRecDepth 100000 in
set_option maxHeartbeats 2000000 in
theorem zc_19 (h1 : va_P D vwCl (cW s0 (s0 + 1) (.inr (5, fin_X5 (zG s0 D cy) (s0 + 1))) (es_X5 (zG s0 D cy) (s0 + 1))) H) (h2 : va_P D vwCl (cW (s0 + 1067) (s0 + 1068) (.inr (6, fin_X6 (zG s0 D cy) (s0 + 1068))) (es_X6 (zG s0 D cy) (s0 + 1068))) H) : va_at D vwCl ((zG s0 D cy).1 19, ent (zG s0 D cy) z0 19) H := by
  have h := h1 1057 (s0 + 1057, (.inl ((zG s0 D cy).2.2 6, (3, .inr (.inr (.inr (.inr (fun i => if i < 3 then some ((s0 + 1057) + 1 + i) else none)))))))) ((cW_at (i := 1056) (by simp only [es_X5, es_X2, es_X0, es_X1, es_X3, es_X4, List.getElem?_append, List.getElem?_replicate, List.getElem?_cons, List.length_append, List.length_cons, List.length_nil, List.length_replicate, es_X5_len, es_X2_len, es_X0_len, es_X1_len, es_X3_len, es_X4_len, es_X6_len] <;> rfl)).trans (by rw [show s0 + 1 + 1056 = s0 + 1057 by omega]))
  rw [ent_refs (by decide)]
  refine zRefs h (fun j hj => ?_)
  match j, hj with
  | 0, _ => rfl
  | 1, _ => rfl
  | 2, _ => rfl
set_option maxRecDepth 100000 in
set_option maxHeartbeats 2000000 in
theorem zc_20 (h1 : va_P D vwCl (cW s0 (s0 + 1) (.inr (5, fin_X5 (zG s0 D cy) (s0 + 1))) (es_X5 (zG s0 D cy) (s0 + 1))) H) (h2 : va_P D vwCl (cW (s0 + 1067) (s0 + 1068) (.inr (6, fin_X6 (zG s0 D cy) (s0 + 1068))) (es_X6 (zG s0 D cy) (s0 + 1068))) H) : va_at D vwCl ((zG s0 D cy).1 20, ent (zG s0 D cy) z0 20) H := by
  have h := h1 2 (s0 + 2, (.inl ((zG s0 D cy).2.2 1, (7, .inl (fun _ => 0))))) ((cW_at (i := 1) (by simp only [es_X5, es_X2, es_X0, es_X1, es_X3, es_X4, List.getElem?_append, List.getElem?_replicate, List.getElem?_cons, List.length_append, List.length_cons, List.length_nil, List.length_replicate, es_X5_len, es_X2_len, es_X0_len, es_X1_len, es_X3_len, es_X4_len, es_X6_len] <;> rfl)).trans (by rw [show s0 + 1 + 1 = s0 + 2 by omega]))
  rw [ent_int (by decide)]
  exact zInt h (z0I (by decide))
set_option maxRecDepth 100000 in
set_option maxHeartbeats 2000000 in
theorem zc_21 (h1 : va_P D vwCl (cW s0 (s0 + 1) (.inr (5, fin_X5 (zG s0 D cy) (s0 + 1))) (es_X5 (zG s0 D cy) (s0 + 1))) H) (h2 : va_P D vwCl (cW (s0 + 1067) (s0 + 1068) (.inr (6, fin_X6 (zG s0 D cy) (s0 + 1068))) (es_X6 (zG s0 D cy) (s0 + 1068))) H) : va_at D vwCl ((zG s0 D cy).1 21, ent (zG s0 D cy) z0 21) H := by
  have h := h1 3 (s0 + 3, (.inl ((zG s0 D cy).2.2 1, (7, .inl (fun _ => 0))))) ((cW_at (i := 2) (by simp only [es_X5, es_X2, es_X0, es_X1, es_X3, es_X4, List.getElem?_append, List.getElem?_replicate, List.getElem?_cons, List.length_append, List.length_cons, List.length_nil, List.length_replicate, es_X5_len, es_X2_len, es_X0_len, es_X1_len, es_X3_len, es_X4_len, es_X6_len] <;> rfl)).trans (by rw [show s0 + 1 + 2 = s0 + 3 by omega]))
  rw [ent_int (by decide)]
  exact zInt h (z0I (by decide))
set_option maxRecDepth 100000 in
set_option maxHeartbeats 2000000 in
theorem zc_22 (h1 : va_P D vwCl (cW s0 (s0 + 1) (.inr (5, fin_X5 (zG s0 D cy) (s0 + 1))) (es_X5 (zG s0 D cy) (s0 + 1))) H) (h2 : va_P D vwCl (cW (s0 + 1067) (s0 + 1068) (.inr (6, fin_X6 (zG s0 D cy) (s0 + 1068))) (es_X6 (zG s0 D cy) (s0 + 1068))) H) : va_at D vwCl ((zG s0 D cy).1 22, ent (zG s0 D cy) z0 22) H := by
  have h := h1 4 (s0 + 4, (.inl ((zG s0 D cy).2.2 1, (7, .inl (fun _ => 0))))) ((cW_at (i := 3) (by simp only [es_X5, es_X2, es_X0, es_X1, es_X3, es_X4, List.getElem?_append, List.getElem?_replicate, List.getElem?_cons, List.length_append, List.length_cons, List.length_nil, List.length_replicate, es_X5_len, es_X2_len, es_X0_len, es_X1_len, es_X3_len, es_X4_len, es_X6_len] <;> rfl)).trans (by rw [show s0 + 1 + 3 = s0 + 4 by omega]))
  rw [ent_int (by decide)]
  exact zInt h (z0I (by decide))
set_option maxRecDepth 100000 in
set_option maxHeartbeats 2000000 in
theorem zc_23 (h1 : va_P D vwCl (cW s0 (s0 + 1) (.inr (5, fin_X5 (zG s0 D cy) (s0 + 1))) (es_X5 (zG s0 D cy) (s0 + 1))) H) (h2 : va_P D vwCl (cW (s0 + 1067) (s0 + 1068) (.inr (6, fin_X6 (zG s0 D cy) (s0 + 1068))) (es_X6 (zG s0 D cy) (s0 + 1068))) H) : va_at D vwCl ((zG s0 D cy).1 23, ent (zG s0 D cy) z0 23) H := by
  have h := h1 5 (s0 + 5, (.inl ((zG s0 D cy).2.2 1, (6, .inl (fun _ => 0))))) ((cW_at (i := 4) (by simp only [es_X5, es_X2, es_X0, es_X1, es_X3, es_X4, List.getElem?_append, List.getElem?_replicate, List.getElem?_cons, List.length_append, List.length_cons, List.length_nil, List.length_replicate, es_X5_len, es_X2_len, es_X0_len, es_X1_len, es_X3_len, es_X4_len, es_X6_len] <;> rfl)).trans (by rw [show s0 + 1 + 4 = s0 + 5 by omega]))
  rw [ent_int (by decide)]
  exact zInt h (z0I (by decide))
set_option maxRecDepth 100000 in
set_option maxHeartbeats 2000000 in
theorem zc_24 (h1 : va_P D vwCl (cW s0 (s0 + 1) (.inr (5, fin_X5 (zG s0 D cy) (s0 + 1))) (es_X5 (zG s0 D cy) (s0 + 1))) H) (h2 : va_P D vwCl (cW (s0 + 1067) (s0 + 1068) (.inr (6, fin_X6 (zG s0 D cy) (s0 + 1068))) (es_X6 (zG s0 D cy) (s0 + 1068))) H) : va_at D vwCl ((zG s0 D cy).1 24, ent (zG s0 D cy) z0 24) H := by
  have h := h1 6 (s0 + 6, (.inl ((zG s0 D cy).2.2 1, (6, .inl (fun _ => 0))))) ((cW_at (i := 5) (by simp only [es_X5, es_X2, es_X0, es_X1, es_X3, es_X4, List.getElem?_append, List.getElem?_replicate, List.getElem?_cons, List.length_append, List.length_cons, List.length_nil, List.length_replicate, es_X5_len, es_X2_len, es_X0_len, es_X1_len, es_X3_len, es_X4_len, es_X6_len] <;> rfl)).trans (by rw [show s0 + 1 + 5 = s0 + 6 by omega]))
  rw [ent_int (by decide)]
  exact zInt h (z0I (by decide))
set_option maxRecDepth 100000 in
set_option maxHeartbeats 2000000 in
theorem zc_25 (h1 : va_P D vwCl (cW s0 (s0 + 1) (.inr (5, fin_X5 (zG s0 D cy) (s0 + 1))) (es_X5 (zG s0 D cy) (s0 + 1))) H) (h2 : va_P D vwCl (cW (s0 + 1067) (s0 + 1068) (.inr (6, fin_X6 (zG s0 D cy) (s0 + 1068))) (es_X6 (zG s0 D cy) (s0 + 1068))) H) : va_at D vwCl ((zG s0 D cy).1 25, ent (zG s0 D cy) z0 25) H := by
  have h := h1 7 (s0 + 7, (.inl ((zG s0 D cy).2.2 1, (6, .inl (fun _ => 0))))) ((cW_at (i := 6) (by simp only [es_X5, es_X2, es_X0, es_X1, es_X3, es_X4, List.getElem?_append, List.getElem?_replicate, List.getElem?_cons, List.length_append, List.length_cons, List.length_nil, List.length_replicate, es_X5_len, es_X2_len, es_X0_len, es_X1_len, es_X3_len, es_X4_len, es_X6_len] <;> rfl)).trans (by rw [show s0 + 1 + 6 = s0 + 7 by omega]))
  rw [ent_int (by decide)]
  exact zInt h (z0I (by decide))
set_option maxRecDepth 100000 in
set_option maxHeartbeats 2000000 in
theorem zc_26 (h1 : va_P D vwCl (cW s0 (s0 + 1) (.inr (5, fin_X5 (zG s0 D cy) (s0 + 1))) (es_X5 (zG s0 D cy) (s0 + 1))) H) (h2 : va_P D vwCl (cW (s0 + 1067) (s0 + 1068) (.inr (6, fin_X6 (zG s0 D cy) (s0 + 1068))) (es_X6 (zG s0 D cy) (s0 + 1068))) H) : va_at D vwCl ((zG s0 D cy).1 26, ent (zG s0 D cy) z0 26) H := by
  have h := h1 17 (s0 + 17, (.inl ((zG s0 D cy).2.2 1, (7, .inl (fun _ => 0))))) ((cW_at (i := 16) (by simp only [es_X5, es_X2, es_X0, es_X1, es_X3, es_X4, List.getElem?_append, List.getElem?_replicate, List.getElem?_cons, List.length_append, List.length_cons, List.length_nil, List.length_replicate, es_X5_len, es_X2_len, es_X0_len, es_X1_len, es_X3_len, es_X4_len, es_X6_len] <;> rfl)).trans (by rw [show s0 + 1 + 16 = s0 + 17 by omega]))
  rw [ent_int (by decide)]
  exact zInt h (z0I (by decide))
set_option maxRecDepth 100000 in
set_option maxHeartbeats 2000000 in
theorem zc_27 (h1 : va_P D vwCl (cW s0 (s0 + 1) (.inr (5, fin_X5 (zG s0 D cy) (s0 + 1))) (es_X5 (zG s0 D cy) (s0 + 1))) H) (h2 : va_P D vwCl (cW (s0 + 1067) (s0 + 1068) (.inr (6, fin_X6 (zG s0 D cy) (s0 + 1068))) (es_X6 (zG s0 D cy) (s0 + 1068))) H) : va_at D vwCl ((zG s0 D cy).1 27, ent (zG s0 D cy) z0 27) H := by
  have h := h1 18 (s0 + 18, (.inl ((zG s0 D cy).2.2 1, (7, .inl (fun _ => 0))))) ((cW_at (i := 17) (by simp only [es_X5, es_X2, es_X0, es_X1, es_X3, es_X4, List.getElem?_append, List.getElem?_replicate, List.getElem?_cons, List.length_append, List.length_cons, List.length_nil, List.length_replicate, es_X5_len, es_X2_len, es_X0_len, es_X1_len, es_X3_len, es_X4_len, es_X6_len] <;> rfl)).trans (by rw [show s0 + 1 + 17 = s0 + 18 by omega]))
  rw [ent_int (by decide)]
  exact zInt h (z0I (by decide))
set_option maxRecDepth 100000 in
set_option maxHeartbeats 2000000 in
theorem zc_28 (h1 : va_P D vwCl (cW s0 (s0 + 1) (.inr (5, fin_X5 (zG s0 D cy) (s0 + 1))) (es_X5 (zG s0 D cy) (s0 + 1))) H) (h2 : va_P D vwCl (cW (s0 + 1067) (s0 + 1068) (.inr (6, fin_X6 (zG s0 D cy) (s0 + 1068))) (es_X6 (zG s0 D cy) (s0 + 1068))) H) : va_at D vwCl ((zG s0 D cy).1 28, ent (zG s0 D cy) z0 28) H := by
  have h := h1 19 (s0 + 19, (.inl ((zG s0 D cy).2.2 1, (7, .inl (fun _ => 0))))) ((cW_at (i := 18) (by simp only [es_X5, es_X2, es_X0, es_X1, es_X3, es_X4, List.getElem?_append, List.getElem?_replicate, List.getElem?_cons, List.length_append, List.length_cons, List.length_nil, List.length_replicate, es_X5_len, es_X2_len, es_X0_len, es_X1_len, es_X3_len, es_X4_len, es_X6_len] <;> rfl)).trans (by rw [show s0 + 1 + 18 = s0 + 19 by omega]))
  rw [ent_int (by decide)]
  exact zInt h (z0I (by decide))
set_option maxRecDepth 100000 in
set_option maxHeartbeats 2000000 in
theorem zc_29 (h1 : va_P D vwCl (cW s0 (s0 + 1) (.inr (5, fin_X5 (zG s0 D cy) (s0 + 1))) (es_X5 (zG s0 D cy) (s0 + 1))) H) (h2 : va_P D vwCl (cW (s0 + 1067) (s0 + 1068) (.inr (6, fin_X6 (zG s0 D cy) (s0 + 1068))) (es_X6 (zG s0 D cy) (s0 + 1068))) H) : va_at D vwCl ((zG s0 D cy).1 29, ent (zG s0 D cy) z0 29) H := by
  have h := h1 20 (s0 + 20, (.inl ((zG s0 D cy).2.2 1, (6, .inl (fun _ => 0))))) ((cW_at (i := 19) (by simp only [es_X5, es_X2, es_X0, es_X1, es_X3, es_X4, List.getElem?_append, List.getElem?_replicate, List.getElem?_cons, List.length_append, List.length_cons, List.length_nil, List.length_replicate, es_X5_len, es_X2_len, es_X0_len, es_X1_len, es_X3_len, es_X4_len, es_X6_len] <;> rfl)).trans (by rw [show s0 + 1 + 19 = s0 + 20 by omega]))
  rw [ent_int (by decide)]
  exact zInt h (z0I (by decide))
set_option maxRecDepth 100000 in
set_option maxHeartbeats 2000000 in
theorem zc_30 (h1 : va_P D vwCl (cW s0 (s0 + 1) (.inr (5, fin_X5 (zG s0 D cy) (s0 + 1))) (es_X5 (zG s0 D cy) (s0 + 1))) H) (h2 : va_P D vwCl (cW (s0 + 1067) (s0 + 1068) (.inr (6, fin_X6 (zG s0 D cy) (s0 + 1068))) (es_X6 (zG s0 D cy) (s0 + 1068))) H) : va_at D vwCl ((zG s0 D cy).1 30, ent (zG s0 D cy) z0 30) H := by
  have h := h1 21 (s0 + 21, (.inl ((zG s0 D cy).2.2 1, (6, .inl (fun _ => 0))))) ((cW_at (i := 20) (by simp only [es_X5, es_X2, es_X0, es_X1, es_X3, es_X4, List.getElem?_append, List.getElem?_replicate, List.getElem?_cons, List.length_append, List.length_cons, List.length_nil, List.length_replicate, es_X5_len, es_X2_len, es_X0_len, es_X1_len, es_X3_len, es_X4_len, es_X6_len] <;> rfl)).trans (by rw [show s0 + 1 + 20 = s0 + 21 by omega]))
  rw [ent_int (by decide)]
  exact zInt h (z0I (by decide))
set_option maxRecDepth 100000 in
set_option maxHeartbeats 2000000 in
theorem zc_31 (h1 : va_P D vwCl (cW s0 (s0 + 1) (.inr (5, fin_X5 (zG s0 D cy) (s0 + 1))) (es_X5 (zG s0 D cy) (s0 + 1))) H) (h2 : va_P D vwCl (cW (s0 + 1067) (s0 + 1068) (.inr (6, fin_X6 (zG s0 D cy) (s0 + 1068))) (es_X6 (zG s0 D cy) (s0 + 1068))) H) : va_at D vwCl ((zG s0 D cy).1 31, ent (zG s0 D cy) z0 31) H := by
  have h := h1 22 (s0 + 22, (.inl ((zG s0 D cy).2.2 1, (6, .inl (fun _ => 0))))) ((cW_at (i := 21) (by simp only [es_X5, es_X2, es_X0, es_X1, es_X3, es_X4, List.getElem?_append, List.getElem?_replicate, List.getElem?_cons, List.length_append, List.length_cons, List.length_nil, List.length_replicate, es_X5_len, es_X2_len, es_X0_len, es_X1_len, es_X3_len, es_X4_len, es_X6_len] <;> rfl)).trans (by rw [show s0 + 1 + 21 = s0 + 22 by omega]))
  rw [ent_int (by decide)]
  exact zInt h (z0I (by decide))
set_option maxRecDepth 100000 in
set_option maxHeartbeats 2000000 in
theorem zc_32 (h1 : va_P D vwCl (cW s0 (s0 + 1) (.inr (5, fin_X5 (zG s0 D cy) (s0 + 1))) (es_X5 (zG s0 D cy) (s0 + 1))) H) (h2 : va_P D vwCl (cW (s0 + 1067) (s0 + 1068) (.inr (6, fin_X6 (zG s0 D cy) (s0 + 1068))) (es_X6 (zG s0 D cy) (s0 + 1068))) H) : va_at D vwCl ((zG s0 D cy).1 32, ent (zG s0 D cy) z0 32) H := by
  have h := h1 31 (s0 + 31, (.inl ((zG s0 D cy).2.2 1, (7, .inl (fun _ => 0))))) ((cW_at (i := 30) (by simp only [es_X5, es_X2, es_X0, es_X1, es_X3, es_X4, List.getElem?_append, List.getElem?_replicate, List.getElem?_cons, List.length_append, List.length_cons, List.length_nil, List.length_replicate, es_X5_len, es_X2_len, es_X0_len, es_X1_len, es_X3_len, es_X4_len, es_X6_len] <;> rfl)).trans (by rw [show s0 + 1 + 30 = s0 + 31 by omega]))
  rw [ent_int (by decide)]
  exact zInt h (z0I (by decide))
set_option maxRecDepth 100000 in
set_option maxHeartbeats 2000000 in
theorem zc_33 (h1 : va_P D vwCl (cW s0 (s0 + 1) (.inr (5, fin_X5 (zG s0 D cy) (s0 + 1))) (es_X5 (zG s0 D cy) (s0 + 1))) H) (h2 : va_P D vwCl (cW (s0 + 1067) (s0 + 1068) (.inr (6, fin_X6 (zG s0 D cy) (s0 + 1068))) (es_X6 (zG s0 D cy) (s0 + 1068))) H) : va_at D vwCl ((zG s0 D cy).1 33, ent (zG s0 D cy) z0 33) H := by
  have h := h1 32 (s0 + 32, (.inl ((zG s0 D cy).2.2 1, (7, .inl (fun _ => 0))))) ((cW_at (i := 31) (by simp only [es_X5, es_X2, es_X0, es_X1, es_X3, es_X4, List.getElem?_append, List.getElem?_replicate, List.getElem?_cons, List.length_append, List.length_cons, List.length_nil, List.length_replicate, es_X5_len, es_X2_len, es_X0_len, es_X1_len, es_X3_len, es_X4_len, es_X6_len] <;> rfl)).trans (by rw [show s0 + 1 + 31 = s0 + 32 by omega]))
  rw [ent_int (by decide)]
  exact zInt h (z0I (by decide))
set_option maxRecDepth 100000 in
set_option maxHeartbeats 2000000 in
theorem zc_34 (h1 : va_P D vwCl (cW s0 (s0 + 1) (.inr (5, fin_X5 (zG s0 D cy) (s0 + 1))) (es_X5 (zG s0 D cy) (s0 + 1))) H) (h2 : va_P D vwCl (cW (s0 + 1067) (s0 + 1068) (.inr (6, fin_X6 (zG s0 D cy) (s0 + 1068))) (es_X6 (zG s0 D cy) (s0 + 1068))) H) : va_at D vwCl ((zG s0 D cy).1 34, ent (zG s0 D cy) z0 34) H := by
  have h := h1 33 (s0 + 33, (.inl ((zG s0 D cy).2.2 1, (7, .inl (fun _ => 0))))) ((cW_at (i := 32) (by simp only [es_X5, es_X2, es_X0, es_X1, es_X3, es_X4, List.getElem?_append, List.getElem?_replicate, List.getElem?_cons, List.length_append, List.length_cons, List.length_nil, List.length_replicate, es_X5_len, es_X2_len, es_X0_len, es_X1_len, es_X3_len, es_X4_len, es_X6_len] <;> rfl)).trans (by rw [show s0 + 1 + 32 = s0 + 33 by omega]))
  rw [ent_int (by decide)]
  exact zInt h (z0I (by decide))
set_option maxRecDepth 100000 in
set_option maxHeartbeats 2000000 in
theorem zc_35 (h1 : va_P D vwCl (cW s0 (s0 + 1) (.inr (5, fin_X5 (zG s0 D cy) (s0 + 1))) (es_X5 (zG s0 D cy) (s0 + 1))) H) (h2 : va_P D vwCl (cW (s0 + 1067) (s0 + 1068) (.inr (6, fin_X6 (zG s0 D cy) (s0 + 1068))) (es_X6 (zG s0 D cy) (s0 + 1068))) H) : va_at D vwCl ((zG s0 D cy).1 35, ent (zG s0 D cy) z0 35) H := by
  have h := h1 34 (s0 + 34, (.inl ((zG s0 D cy).2.2 1, (6, .inl (fun _ => 0))))) ((cW_at (i := 33) (by simp only [es_X5, es_X2, es_X0, es_X1, es_X3, es_X4, List.getElem?_append, List.getElem?_replicate, List.getElem?_cons, List.length_append, List.length_cons, List.length_nil, List.length_replicate, es_X5_len, es_X2_len, es_X0_len, es_X1_len, es_X3_len, es_X4_len, es_X6_len] <;> rfl)).trans (by rw [show s0 + 1 + 33 = s0 + 34 by omega]))
  rw [ent_int (by decide)]
  exact zInt h (z0I (by decide))
set_option maxRecDepth 100000 in
set_option maxHeartbeats 2000000 in
theorem zc_36 (h1 : va_P D vwCl (cW s0 (s0 + 1) (.inr (5, fin_X5 (zG s0 D cy) (s0 + 1))) (es_X5 (zG s0 D cy) (s0 + 1))) H) (h2 : va_P D vwCl (cW (s0 + 1067) (s0 + 1068) (.inr (6, fin_X6 (zG s0 D cy) (s0 + 1068))) (es_X6 (zG s0 D cy) (s0 + 1068))) H) : va_at D vwCl ((zG s0 D cy).1 36, ent (zG s0 D cy) z0 36) H := by
  have h := h1 35 (s0 + 35, (.inl ((zG s0 D cy).2.2 1, (6, .inl (fun _ => 0))))) ((cW_at (i := 34) (by simp only [es_X5, es_X2, es_X0, es_X1, es_X3, es_X4, List.getElem?_append, List.getElem?_replicate, List.getElem?_cons, List.length_append, List.length_cons, List.length_nil, List.length_replicate, es_X5_len, es_X2_len, es_X0_len, es_X1_len, es_X3_len, es_X4_len, es_X6_len] <;> rfl)).trans (by rw [show s0 + 1 + 34 = s0 + 35 by omega]))
  rw [ent_int (by decide)]
  exact zInt h (z0I (by decide))
set_option maxRecDepth 100000 in
set_option maxHeartbeats 2000000 in
theorem zc_37 (h1 : va_P D vwCl (cW s0 (s0 + 1) (.inr (5, fin_X5 (zG s0 D cy) (s0 + 1))) (es_X5 (zG s0 D cy) (s0 + 1))) H) (h2 : va_P D vwCl (cW (s0 + 1067) (s0 + 1068) (.inr (6, fin_X6 (zG s0 D cy) (s0 + 1068))) (es_X6 (zG s0 D cy) (s0 + 1068))) H) : va_at D vwCl ((zG s0 D cy).1 37, ent (zG s0 D cy) z0 37) H := by
  have h := h1 36 (s0 + 36, (.inl ((zG s0 D cy).2.2 1, (6, .inl (fun _ => 0))))) ((cW_at (i := 35) (by simp only [es_X5, es_X2, es_X0, es_X1, es_X3, es_X4, List.getElem?_append, List.getElem?_replicate, List.getElem?_cons, List.length_append, List.length_cons, List.length_nil, List.length_replicate, es_X5_len, es_X2_len, es_X0_len, es_X1_len, es_X3_len, es_X4_len, es_X6_len] <;> rfl)).trans (by rw [show s0 + 1 + 35 = s0 + 36 by omega]))
  rw [ent_int (by decide)]
  exact zInt h (z0I (by decide))
set_option maxRecDepth 100000 in
set_option maxHeartbeats 2000000 in
theorem zc_38 (h1 : va_P D vwCl (cW s0 (s0 + 1) (.inr (5, fin_X5 (zG s0 D cy) (s0 + 1))) (es_X5 (zG s0 D cy) (s0 + 1))) H) (h2 : va_P D vwCl (cW (s0 + 1067) (s0 + 1068) (.inr (6, fin_X6 (zG s0 D cy) (s0 + 1068))) (es_X6 (zG s0 D cy) (s0 + 1068))) H) : va_at D vwCl ((zG s0 D cy).1 38, ent (zG s0 D cy) z0 38) H := by
  have h := h1 9 (s0 + 9, (.inl ((zG s0 D cy).2.2 1, (7, .inl (fun _ => 0))))) ((cW_at (i := 8) (by simp only [es_X5, es_X2, es_X0, es_X1, es_X3, es_X4, List.getElem?_append, List.getElem?_replicate, List.getElem?_cons, List.length_append, List.length_cons, List.length_nil, List.length_replicate, es_X5_len, es_X2_len, es_X0_len, es_X1_len, es_X3_len, es_X4_len, es_X6_len] <;> rfl)).trans (by rw [show s0 + 1 + 8 = s0 + 9 by omega]))
  rw [ent_int (by decide)]
  exact zInt h (z0I (by decide))
set_option maxRecDepth 100000 in
set_option maxHeartbeats 2000000 in
theorem zc_39 (h1 : va_P D vwCl (cW s0 (s0 + 1) (.inr (5, fin_X5 (zG s0 D cy) (s0 + 1))) (es_X5 (zG s0 D cy) (s0 + 1))) H) (h2 : va_P D vwCl (cW (s0 + 1067) (s0 + 1068) (.inr (6, fin_X6 (zG s0 D cy) (s0 + 1068))) (es_X6 (zG s0 D cy) (s0 + 1068))) H) : va_at D vwCl ((zG s0 D cy).1 39, ent (zG s0 D cy) z0 39) H := by
  have h := h1 10 (s0 + 10, (.inl ((zG s0 D cy).2.2 1, (7, .inl (fun _ => 0))))) ((cW_at (i := 9) (by simp only [es_X5, es_X2, es_X0, es_X1, es_X3, es_X4, List.getElem?_append, List.getElem?_replicate, List.getElem?_cons, List.length_append, List.length_cons, List.length_nil, List.length_replicate, es_X5_len, es_X2_len, es_X0_len, es_X1_len, es_X3_len, es_X4_len, es_X6_len] <;> rfl)).trans (by rw [show s0 + 1 + 9 = s0 + 10 by omega]))
  rw [ent_int (by decide)]
  exact zInt h (z0I (by decide))
set_option maxRecDepth 100000 in
set_option maxHeartbeats 2000000 in
theorem zc_40 (h1 : va_P D vwCl (cW s0 (s0 + 1) (.inr (5, fin_X5 (zG s0 D cy) (s0 + 1))) (es_X5 (zG s0 D cy) (s0 + 1))) H) (h2 : va_P D vwCl (cW (s0 + 1067) (s0 + 1068) (.inr (6, fin_X6 (zG s0 D cy) (s0 + 1068))) (es_X6 (zG s0 D cy) (s0 + 1068))) H) : va_at D vwCl ((zG s0 D cy).1 40, ent (zG s0 D cy) z0 40) H := by
  have h := h1 11 (s0 + 11, (.inl ((zG s0 D cy).2.2 1, (7, .inl (fun _ => 0))))) ((cW_at (i := 10) (by simp only [es_X5, es_X2, es_X0, es_X1, es_X3, es_X4, List.getElem?_append, List.getElem?_replicate, List.getElem?_cons, List.length_append, List.length_cons, List.length_nil, List.length_replicate, es_X5_len, es_X2_len, es_X0_len, es_X1_len, es_X3_len, es_X4_len, es_X6_len] <;> rfl)).trans (by rw [show s0 + 1 + 10 = s0 + 11 by omega]))
  rw [ent_int (by decide)]
  exact zInt h (z0I (by decide))
set_option maxRecDepth 100000 in
set_option maxHeartbeats 2000000 in
theorem zc_41 (h1 : va_P D vwCl (cW s0 (s0 + 1) (.inr (5, fin_X5 (zG s0 D cy) (s0 + 1))) (es_X5 (zG s0 D cy) (s0 + 1))) H) (h2 : va_P D vwCl (cW (s0 + 1067) (s0 + 1068) (.inr (6, fin_X6 (zG s0 D cy) (s0 + 1068))) (es_X6 (zG s0 D cy) (s0 + 1068))) H) : va_at D vwCl ((zG s0 D cy).1 41, ent (zG s0 D cy) z0 41) H := by
  have h := h1 12 (s0 + 12, (.inl ((zG s0 D cy).2.2 1, (7, .inl (fun _ => 0))))) ((cW_at (i := 11) (by simp only [es_X5, es_X2, es_X0, es_X1, es_X3, es_X4, List.getElem?_append, List.getElem?_replicate, List.getElem?_cons, List.length_append, List.length_cons, List.length_nil, List.length_replicate, es_X5_len, es_X2_len, es_X0_len, es_X1_len, es_X3_len, es_X4_len, es_X6_len] <;> rfl)).trans (by rw [show s0 + 1 + 11 = s0 + 12 by omega]))
  rw [ent_int (by decide)]
  exact zInt h (z0I (by decide))
set_option maxRecDepth 100000 in
set_option maxHeartbeats 2000000 in
theorem zc_42 (h1 : va_P D vwCl (cW s0 (s0 + 1) (.inr (5, fin_X5 (zG s0 D cy) (s0 + 1))) (es_X5 (zG s0 D cy) (s0 + 1))) H) (h2 : va_P D vwCl (cW (s0 + 1067) (s0 + 1068) (.inr (6, fin_X6 (zG s0 D cy) (s0 + 1068))) (es_X6 (zG s0 D cy) (s0 + 1068))) H) : va_at D vwCl ((zG s0 D cy).1 42, ent (zG s0 D cy) z0 42) H := by
  have h := h1 13 (s0 + 13, (.inl ((zG s0 D cy).2.2 1, (7, .inl (fun _ => 0))))) ((cW_at (i := 12) (by simp only [es_X5, es_X2, es_X0, es_X1, es_X3, es_X4, List.getElem?_append, List.getElem?_replicate, List.getElem?_cons, List.length_append, List.length_cons, List.length_nil, List.length_replicate, es_X5_len, es_X2_len, es_X0_len, es_X1_len, es_X3_len, es_X4_len, es_X6_len] <;> rfl)).trans (by rw [show s0 + 1 + 12 = s0 + 13 by omega]))
  rw [ent_int (by decide)]
  exact zInt h (z0I (by decide))
set_option maxRecDepth 100000 in
set_option maxHeartbeats 2000000 in
theorem zc_43 (h1 : va_P D vwCl (cW s0 (s0 + 1) (.inr (5, fin_X5 (zG s0 D cy) (s0 + 1))) (es_X5 (zG s0 D cy) (s0 + 1))) H) (h2 : va_P D vwCl (cW (s0 + 1067) (s0 + 1068) (.inr (6, fin_X6 (zG s0 D cy) (s0 + 1068))) (es_X6 (zG s0 D cy) (s0 + 1068))) H) : va_at D vwCl ((zG s0 D cy).1 43, ent (zG s0 D cy) z0 43) H := by
  have h := h1 14 (s0 + 14, (.inl ((zG s0 D cy).2.2 1, (7, .inl (fun _ => 0))))) ((cW_at (i := 13) (by simp only [es_X5, es_X2, es_X0, es_X1, es_X3, es_X4, List.getElem?_append, List.getElem?_replicate, List.getElem?_cons, List.length_append, List.length_cons, List.length_nil, List.length_replicate, es_X5_len, es_X2_len, es_X0_len, es_X1_len, es_X3_len, es_X4_len, es_X6_len] <;> rfl)).trans (by rw [show s0 + 1 + 13 = s0 + 14 by omega]))
  rw [ent_int (by decide)]
  exact zInt h (z0I (by decide))
set_option maxRecDepth 100000 in
set_option maxHeartbeats 2000000 in
theorem zc_44 (h1 : va_P D vwCl (cW s0 (s0 + 1) (.inr (5, fin_X5 (zG s0 D cy) (s0 + 1))) (es_X5 (zG s0 D cy) (s0 + 1))) H) (h2 : va_P D vwCl (cW (s0 + 1067) (s0 + 1068) (.inr (6, fin_X6 (zG s0 D cy) (s0 + 1068))) (es_X6 (zG s0 D cy) (s0 + 1068))) H) : va_at D vwCl ((zG s0 D cy).1 44, ent (zG s0 D cy) z0 44) H := by
  have h := h1 24 (s0 + 24, (.inl ((zG s0 D cy).2.2 1, (7, .inl (fun _ => 0))))) ((cW_at (i := 23) (by simp only [es_X5, es_X2, es_X0, es_X1, es_X3, es_X4, List.getElem?_append, List.getElem?_replicate, List.getElem?_cons, List.length_append, List.length_cons, List.length_nil, List.length_replicate, es_X5_len, es_X2_len, es_X0_len, es_X1_len, es_X3_len, es_X4_len, es_X6_len] <;> rfl)).trans (by rw [show s0 + 1 + 23 = s0 + 24 by omega]))
  rw [ent_int (by decide)]
  exact zInt h (z0I (by decide))
set_option maxRecDepth 100000 in
set_option maxHeartbeats 2000000 in
theorem zc_45 (h1 : va_P D vwCl (cW s0 (s0 + 1) (.inr (5, fin_X5 (zG s0 D cy) (s0 + 1))) (es_X5 (zG s0 D cy) (s0 + 1))) H) (h2 : va_P D vwCl (cW (s0 + 1067) (s0 + 1068) (.inr (6, fin_X6 (zG s0 D cy) (s0 + 1068))) (es_X6 (zG s0 D cy) (s0 + 1068))) H) : va_at D vwCl ((zG s0 D cy).1 45, ent (zG s0 D cy) z0 45) H := by
  have h := h1 25 (s0 + 25, (.inl ((zG s0 D cy).2.2 1, (7, .inl (fun _ => 0))))) ((cW_at (i := 24) (by simp only [es_X5, es_X2, es_X0, es_X1, es_X3, es_X4, List.getElem?_append, List.getElem?_replicate, List.getElem?_cons, List.length_append, List.length_cons, List.length_nil, List.length_replicate, es_X5_len, es_X2_len, es_X0_len, es_X1_len, es_X3_len, es_X4_len, es_X6_len] <;> rfl)).trans (by rw [show s0 + 1 + 24 = s0 + 25 by omega]))
  rw [ent_int (by decide)]
  exact zInt h (z0I (by decide))
set_option maxRecDepth 100000 in
set_option maxHeartbeats 2000000 in
theorem zc_46 (h1 : va_P D vwCl (cW s0 (s0 + 1) (.inr (5, fin_X5 (zG s0 D cy) (s0 + 1))) (es_X5 (zG s0 D cy) (s0 + 1))) H) (h2 : va_P D vwCl (cW (s0 + 1067) (s0 + 1068) (.inr (6, fin_X6 (zG s0 D cy) (s0 + 1068))) (es_X6 (zG s0 D cy) (s0 + 1068))) H) : va_at D vwCl ((zG s0 D cy).1 46, ent (zG s0 D cy) z0 46) H := by
  have h := h1 26 (s0 + 26, (.inl ((zG s0 D cy).2.2 1, (7, .inl (fun _ => 0))))) ((cW_at (i := 25) (by simp only [es_X5, es_X2, es_X0, es_X1, es_X3, es_X4, List.getElem?_append, List.getElem?_replicate, List.getElem?_cons, List.length_append, List.length_cons, List.length_nil, List.length_replicate, es_X5_len, es_X2_len, es_X0_len, es_X1_len, es_X3_len, es_X4_len, es_X6_len] <;> rfl)).trans (by rw [show s0 + 1 + 25 = s0 + 26 by omega]))
  rw [ent_int (by decide)]
  exact zInt h (z0I (by decide))
set_option maxRecDepth 100000 in
set_option maxHeartbeats 2000000 in
theorem zc_47 (h1 : va_P D vwCl (cW s0 (s0 + 1) (.inr (5, fin_X5 (zG s0 D cy) (s0 + 1))) (es_X5 (zG s0 D cy) (s0 + 1))) H) (h2 : va_P D vwCl (cW (s0 + 1067) (s0 + 1068) (.inr (6, fin_X6 (zG s0 D cy) (s0 + 1068))) (es_X6 (zG s0 D cy) (s0 + 1068))) H) : va_at D vwCl ((zG s0 D cy).1 47, ent (zG s0 D cy) z0 47) H := by
  have h := h1 27 (s0 + 27, (.inl ((zG s0 D cy).2.2 1, (7, .inl (fun _ => 0))))) ((cW_at (i := 26) (by simp only [es_X5, es_X2, es_X0, es_X1, es_X3, es_X4, List.getElem?_append, List.getElem?_replicate, List.getElem?_cons, List.length_append, List.length_cons, List.length_nil, List.length_replicate, es_X5_len, es_X2_len, es_X0_len, es_X1_len, es_X3_len, es_X4_len, es_X6_len] <;> rfl)).trans (by rw [show s0 + 1 + 26 = s0 + 27 by omega]))
  rw [ent_int (by decide)]
  exact zInt h (z0I (by decide))
set_option maxRecDepth 100000 in
set_option maxHeartbeats 2000000 in
theorem zc_48 (h1 : va_P D vwCl (cW s0 (s0 + 1) (.inr (5, fin_X5 (zG s0 D cy) (s0 + 1))) (es_X5 (zG s0 D cy) (s0 + 1))) H) (h2 : va_P D vwCl (cW (s0 + 1067) (s0 + 1068) (.inr (6, fin_X6 (zG s0 D cy) (s0 + 1068))) (es_X6 (zG s0 D cy) (s0 + 1068))) H) : va_at D vwCl ((zG s0 D cy).1 48, ent (zG s0 D cy) z0 48) H := by
  have h := h1 28 (s0 + 28, (.inl ((zG s0 D cy).2.2 1, (7, .inl (fun _ => 0))))) ((cW_at (i := 27) (by simp only [es_X5, es_X2, es_X0, es_X1, es_X3, es_X4, List.getElem?_append, List.getElem?_replicate, List.getElem?_cons, List.length_append, List.length_cons, List.length_nil, List.length_replicate, es_X5_len, es_X2_len, es_X0_len, es_X1_len, es_X3_len, es_X4_len, es_X6_len] <;> rfl)).trans (by rw [show s0 + 1 + 27 = s0 + 28 by omega]))
  rw [ent_int (by decide)]
  exact zInt h (z0I (by decide))
set_option maxRecDepth 100000 in
set_option maxHeartbeats 2000000 in
theorem zc_49 (h1 : va_P D vwCl (cW s0 (s0 + 1) (.inr (5, fin_X5 (zG s0 D cy) (s0 + 1))) (es_X5 (zG s0 D cy) (s0 + 1))) H) (h2 : va_P D vwCl (cW (s0 + 1067) (s0 + 1068) (.inr (6, fin_X6 (zG s0 D cy) (s0 + 1068))) (es_X6 (zG s0 D cy) (s0 + 1068))) H) : va_at D vwCl ((zG s0 D cy).1 49, ent (zG s0 D cy) z0 49) H := by
  have h := h1 29 (s0 + 29, (.inl ((zG s0 D cy).2.2 1, (7, .inl (fun _ => 0))))) ((cW_at (i := 28) (by simp only [es_X5, es_X2, es_X0, es_X1, es_X3, es_X4, List.getElem?_append, List.getElem?_replicate, List.getElem?_cons, List.length_append, List.length_cons, List.length_nil, List.length_replicate, es_X5_len, es_X2_len, es_X0_len, es_X1_len, es_X3_len, es_X4_len, es_X6_len] <;> rfl)).trans (by rw [show s0 + 1 + 28 = s0 + 29 by omega]))
  rw [ent_int (by decide)]
  exact zInt h (z0I (by decide))
set_option maxRecDepth 100000 in
set_option maxHeartbeats 2000000 in
theorem zc_50 (h1 : va_P D vwCl (cW s0 (s0 + 1) (.inr (5, fin_X5 (zG s0 D cy) (s0 + 1))) (es_X5 (zG s0 D cy) (s0 + 1))) H) (h2 : va_P D vwCl (cW (s0 + 1067) (s0 + 1068) (.inr (6, fin_X6 (zG s0 D cy) (s0 + 1068))) (es_X6 (zG s0 D cy) (s0 + 1068))) H) : va_at D vwCl ((zG s0 D cy).1 50, ent (zG s0 D cy) z0 50) H := by
  have h := h1 38 (s0 + 38, (.inl ((zG s0 D cy).2.2 1, (7, .inl (fun _ => 0))))) ((cW_at (i := 37) (by simp only [es_X5, es_X2, es_X0, es_X1, es_X3, es_X4, List.getElem?_append, List.getElem?_replicate, List.getElem?_cons, List.length_append, List.length_cons, List.length_nil, List.length_replicate, es_X5_len, es_X2_len, es_X0_len, es_X1_len, es_X3_len, es_X4_len, es_X6_len] <;> rfl)).trans (by rw [show s0 + 1 + 37 = s0 + 38 by omega]))
  rw [ent_int (by decide)]
  exact zInt h (z0I (by decide))
set_option maxRecDepth 100000 in
set_option maxHeartbeats 2000000 in
theorem zc_51 (h1 : va_P D vwCl (cW s0 (s0 + 1) (.inr (5, fin_X5 (zG s0 D cy) (s0 + 1))) (es_X5 (zG s0 D cy) (s0 + 1))) H) (h2 : va_P D vwCl (cW (s0 + 1067) (s0 + 1068) (.inr (6, fin_X6 (zG s0 D cy) (s0 + 1068))) (es_X6 (zG s0 D cy) (s0 + 1068))) H) : va_at D vwCl ((zG s0 D cy).1 51, ent (zG s0 D cy) z0 51) H := by
  have h := h1 39 (s0 + 39, (.inl ((zG s0 D cy).2.2 1, (7, .inl (fun _ => 0))))) ((cW_at (i := 38) (by simp only [es_X5, es_X2, es_X0, es_X1, es_X3, es_X4, List.getElem?_append, List.getElem?_replicate, List.getElem?_cons, List.length_append, List.length_cons, List.length_nil, List.length_replicate, es_X5_len, es_X2_len, es_X0_len, es_X1_len, es_X3_len, es_X4_len, es_X6_len] <;> rfl)).trans (by rw [show s0 + 1 + 38 = s0 + 39 by omega]))
  rw [ent_int (by decide)]
  exact zInt h (z0I (by decide))
set_option maxRecDepth 100000 in
set_option maxHeartbeats 2000000 in
theorem zc_52 (h1 : va_P D vwCl (cW s0 (s0 + 1) (.inr (5, fin_X5 (zG s0 D cy) (s0 + 1))) (es_X5 (zG s0 D cy) (s0 + 1))) H) (h2 : va_P D vwCl (cW (s0 + 1067) (s0 + 1068) (.inr (6, fin_X6 (zG s0 D cy) (s0 + 1068))) (es_X6 (zG s0 D cy) (s0 + 1068))) H) : va_at D vwCl ((zG s0 D cy).1 52, ent (zG s0 D cy) z0 52) H := by
  have h := h1 40 (s0 + 40, (.inl ((zG s0 D cy).2.2 1, (7, .inl (fun _ => 0))))) ((cW_at (i := 39) (by simp only [es_X5, es_X2, es_X0, es_X1, es_X3, es_X4, List.getElem?_append, List.getElem?_replicate, List.getElem?_cons, List.length_append, List.length_cons, List.length_nil, List.length_replicate, es_X5_len, es_X2_len, es_X0_len, es_X1_len, es_X3_len, es_X4_len, es_X6_len] <;> rfl)).trans (by rw [show s0 + 1 + 39 = s0 + 40 by omega]))
  rw [ent_int (by decide)]
  exact zInt h (z0I (by decide))
set_option maxRecDepth 100000 in
set_option maxHeartbeats 2000000 in
theorem zc_53 (h1 : va_P D vwCl (cW s0 (s0 + 1) (.inr (5, fin_X5 (zG s0 D cy) (s0 + 1))) (es_X5 (zG s0 D cy) (s0 + 1))) H) (h2 : va_P D vwCl (cW (s0 + 1067) (s0 + 1068) (.inr (6, fin_X6 (zG s0 D cy) (s0 + 1068))) (es_X6 (zG s0 D cy) (s0 + 1068))) H) : va_at D vwCl ((zG s0 D cy).1 53, ent (zG s0 D cy) z0 53) H := by
  have h := h1 41 (s0 + 41, (.inl ((zG s0 D cy).2.2 1, (7, .inl (fun _ => 0))))) ((cW_at (i := 40) (by simp only [es_X5, es_X2, es_X0, es_X1, es_X3, es_X4, List.getElem?_append, List.getElem?_replicate, List.getElem?_cons, List.length_append, List.length_cons, List.length_nil, List.length_replicate, es_X5_len, es_X2_len, es_X0_len, es_X1_len, es_X3_len, es_X4_len, es_X6_len] <;> rfl)).trans (by rw [show s0 + 1 + 40 = s0 + 41 by omega]))
  rw [ent_int (by decide)]
  exact zInt h (z0I (by decide))
set_option maxRecDepth 100000 in
set_option maxHeartbeats 2000000 in
theorem zc_54 (h1 : va_P D vwCl (cW s0 (s0 + 1) (.inr (5, fin_X5 (zG s0 D cy) (s0 + 1))) (es_X5 (zG s0 D cy) (s0 + 1))) H) (h2 : va_P D vwCl (cW (s0 + 1067) (s0 + 1068) (.inr (6, fin_X6 (zG s0 D cy) (s0 + 1068))) (es_X6 (zG s0 D cy) (s0 + 1068))) H) : va_at D vwCl ((zG s0 D cy).1 54, ent (zG s0 D cy) z0 54) H := by
  have h := h1 42 (s0 + 42, (.inl ((zG s0 D cy).2.2 1, (7, .inl (fun _ => 0))))) ((cW_at (i := 41) (by simp only [es_X5, es_X2, es_X0, es_X1, es_X3, es_X4, List.getElem?_append, List.getElem?_replicate, List.getElem?_cons, List.length_append, List.length_cons, List.length_nil, List.length_replicate, es_X5_len, es_X2_len, es_X0_len, es_X1_len, es_X3_len, es_X4_len, es_X6_len] <;> rfl)).trans (by rw [show s0 + 1 + 41 = s0 + 42 by omega]))
  rw [ent_int (by decide)]
  exact zInt h (z0I (by decide))
set_option maxRecDepth 100000 in
set_option maxHeartbeats 2000000 in
theorem zc_55 (h1 : va_P D vwCl (cW s0 (s0 + 1) (.inr (5, fin_X5 (zG s0 D cy) (s0 + 1))) (es_X5 (zG s0 D cy) (s0 + 1))) H) (h2 : va_P D vwCl (cW (s0 + 1067) (s0 + 1068) (.inr (6, fin_X6 (zG s0 D cy) (s0 + 1068))) (es_X6 (zG s0 D cy) (s0 + 1068))) H) : va_at D vwCl ((zG s0 D cy).1 55, ent (zG s0 D cy) z0 55) H := by
  have h := h1 43 (s0 + 43, (.inl ((zG s0 D cy).2.2 1, (7, .inl (fun _ => 0))))) ((cW_at (i := 42) (by simp only [es_X5, es_X2, es_X0, es_X1, es_X3, es_X4, List.getElem?_append, List.getElem?_replicate, List.getElem?_cons, List.length_append, List.length_cons, List.length_nil, List.length_replicate, es_X5_len, es_X2_len, es_X0_len, es_X1_len, es_X3_len, es_X4_len, es_X6_len] <;> rfl)).trans (by rw [show s0 + 1 + 42 = s0 + 43 by omega]))
  rw [ent_int (by decide)]
  exact zInt h (z0I (by decide))
set_option maxRecDepth 100000 in
set_option maxHeartbeats 2000000 in
theorem zc_56 (h1 : va_P D vwCl (cW s0 (s0 + 1) (.inr (5, fin_X5 (zG s0 D cy) (s0 + 1))) (es_X5 (zG s0 D cy) (s0 + 1))) H) (h2 : va_P D vwCl (cW (s0 + 1067) (s0 + 1068) (.inr (6, fin_X6 (zG s0 D cy) (s0 + 1068))) (es_X6 (zG s0 D cy) (s0 + 1068))) H) : va_at D vwCl ((zG s0 D cy).1 56, ent (zG s0 D cy) z0 56) H := by
  have h := h1 126 (s0 + 126, (.inl ((zG s0 D cy).2.2 1, (7, .inl (fun _ => 0))))) ((cW_at (i := 125) (by simp only [es_X5, es_X2, es_X0, es_X1, es_X3, es_X4, List.getElem?_append, List.getElem?_replicate, List.getElem?_cons, List.length_append, List.length_cons, List.length_nil, List.length_replicate, es_X5_len, es_X2_len, es_X0_len, es_X1_len, es_X3_len, es_X4_len, es_X6_len] <;> rfl)).trans (by rw [show s0 + 1 + 125 = s0 + 126 by omega]))
  rw [ent_int (by decide)]
  exact zInt h (z0I (by decide))
set_option maxRecDepth 100000 in
set_option maxHeartbeats 2000000 in
theorem zc_57 (h1 : va_P D vwCl (cW s0 (s0 + 1) (.inr (5, fin_X5 (zG s0 D cy) (s0 + 1))) (es_X5 (zG s0 D cy) (s0 + 1))) H) (h2 : va_P D vwCl (cW (s0 + 1067) (s0 + 1068) (.inr (6, fin_X6 (zG s0 D cy) (s0 + 1068))) (es_X6 (zG s0 D cy) (s0 + 1068))) H) : va_at D vwCl ((zG s0 D cy).1 57, ent (zG s0 D cy) z0 57) H := by
  have h := h1 128 (s0 + 128, (.inl ((zG s0 D cy).2.2 1, (7, .inl (fun _ => 0))))) ((cW_at (i := 127) (by simp only [es_X5, es_X2, es_X0, es_X1, es_X3, es_X4, List.getElem?_append, List.getElem?_replicate, List.getElem?_cons, List.length_append, List.length_cons, List.length_nil, List.length_replicate, es_X5_len, es_X2_len, es_X0_len, es_X1_len, es_X3_len, es_X4_len, es_X6_len] <;> rfl)).trans (by rw [show s0 + 1 + 127 = s0 + 128 by omega]))
  rw [ent_int (by decide)]
  exact zInt h (z0I (by decide))
set_option maxRecDepth 100000 in
set_option maxHeartbeats 2000000 in
theorem zc_58 (h1 : va_P D vwCl (cW s0 (s0 + 1) (.inr (5, fin_X5 (zG s0 D cy) (s0 + 1))) (es_X5 (zG s0 D cy) (s0 + 1))) H) (h2 : va_P D vwCl (cW (s0 + 1067) (s0 + 1068) (.inr (6, fin_X6 (zG s0 D cy) (s0 + 1068))) (es_X6 (zG s0 D cy) (s0 + 1068))) H) : va_at D vwCl ((zG s0 D cy).1 58, ent (zG s0 D cy) z0 58) H := by
  have h := h1 129 (s0 + 129, (.inl ((zG s0 D cy).2.2 1, (7, .inl (fun _ => 0))))) ((cW_at (i := 128) (by simp only [es_X5, es_X2, es_X0, es_X1, es_X3, es_X4, List.getElem?_append, List.getElem?_replicate, List.getElem?_cons, List.length_append, List.length_cons, List.length_nil, List.length_replicate, es_X5_len, es_X2_len, es_X0_len, es_X1_len, es_X3_len, es_X4_len, es_X6_len] <;> rfl)).trans (by rw [show s0 + 1 + 128 = s0 + 129 by omega]))
  rw [ent_int (by decide)]
  exact zInt h (z0I (by decide))
set_option maxRecDepth 100000 in
set_option maxHeartbeats 2000000 in
theorem zc_59 (h1 : va_P D vwCl (cW s0 (s0 + 1) (.inr (5, fin_X5 (zG s0 D cy) (s0 + 1))) (es_X5 (zG s0 D cy) (s0 + 1))) H) (h2 : va_P D vwCl (cW (s0 + 1067) (s0 + 1068) (.inr (6, fin_X6 (zG s0 D cy) (s0 + 1068))) (es_X6 (zG s0 D cy) (s0 + 1068))) H) : va_at D vwCl ((zG s0 D cy).1 59, ent (zG s0 D cy) z0 59) H := by
  have h := h1 130 (s0 + 130, (.inl ((zG s0 D cy).2.2 1, (924, .inl (fun _ => 0))))) ((cW_at (i := 129) (by simp only [es_X5, es_X2, es_X0, es_X1, es_X3, es_X4, List.getElem?_append, List.getElem?_replicate, List.getElem?_cons, List.length_append, List.length_cons, List.length_nil, List.length_replicate, es_X5_len, es_X2_len, es_X0_len, es_X1_len, es_X3_len, es_X4_len, es_X6_len] <;> rfl)).trans (by rw [show s0 + 1 + 129 = s0 + 130 by omega]))
  rw [ent_int (by decide)]
  exact zInt h (z0I (by decide))
set_option maxRecDepth 100000 in
set_option maxHeartbeats 2000000 in
theorem zc_60 (h1 : va_P D vwCl (cW s0 (s0 + 1) (.inr (5, fin_X5 (zG s0 D cy) (s0 + 1))) (es_X5 (zG s0 D cy) (s0 + 1))) H) (h2 : va_P D vwCl (cW (s0 + 1067) (s0 + 1068) (.inr (6, fin_X6 (zG s0 D cy) (s0 + 1068))) (es_X6 (zG s0 D cy) (s0 + 1068))) H) : va_at D vwCl ((zG s0 D cy).1 60, ent (zG s0 D cy) z0 60) H := by
  have h := h1 1056 (s0 + 1056, (.inl ((zG s0 D cy).2.2 1, (6, .inl (fun _ => 0))))) ((cW_at (i := 1055) (by simp only [es_X5, es_X2, es_X0, es_X1, es_X3, es_X4, List.getElem?_append, List.getElem?_replicate, List.getElem?_cons, List.length_append, List.length_cons, List.length_nil, List.length_replicate, es_X5_len, es_X2_len, es_X0_len, es_X1_len, es_X3_len, es_X4_len, es_X6_len] <;> rfl)).trans (by rw [show s0 + 1 + 1055 = s0 + 1056 by omega]))
  rw [ent_int (by decide)]
  exact zInt h (z0I (by decide))
set_option maxRecDepth 100000 in
set_option maxHeartbeats 2000000 in
theorem zc_61 (h1 : va_P D vwCl (cW s0 (s0 + 1) (.inr (5, fin_X5 (zG s0 D cy) (s0 + 1))) (es_X5 (zG s0 D cy) (s0 + 1))) H) (h2 : va_P D vwCl (cW (s0 + 1067) (s0 + 1068) (.inr (6, fin_X6 (zG s0 D cy) (s0 + 1068))) (es_X6 (zG s0 D cy) (s0 + 1068))) H) : va_at D vwCl ((zG s0 D cy).1 61, ent (zG s0 D cy) z0 61) H := by
  have h := h1 1061 (s0 + 1061, (.inl ((zG s0 D cy).2.2 2, (924, .inr (.inl (fun _ => 0)))))) ((cW_at (i := 1060) (by simp only [es_X5, es_X2, es_X0, es_X1, es_X3, es_X4, List.getElem?_append, List.getElem?_replicate, List.getElem?_cons, List.length_append, List.length_cons, List.length_nil, List.length_replicate, es_X5_len, es_X2_len, es_X0_len, es_X1_len, es_X3_len, es_X4_len, es_X6_len] <;> rfl)).trans (by rw [show s0 + 1 + 1060 = s0 + 1061 by omega]))
  rw [ent_long (by decide)]
  exact zLong h (z0J (by decide))
set_option maxRecDepth 100000 in
set_option maxHeartbeats 2000000 in
theorem zc_62 (h1 : va_P D vwCl (cW s0 (s0 + 1) (.inr (5, fin_X5 (zG s0 D cy) (s0 + 1))) (es_X5 (zG s0 D cy) (s0 + 1))) H) (h2 : va_P D vwCl (cW (s0 + 1067) (s0 + 1068) (.inr (6, fin_X6 (zG s0 D cy) (s0 + 1068))) (es_X6 (zG s0 D cy) (s0 + 1068))) H) : va_at D vwCl ((zG s0 D cy).1 62, ent (zG s0 D cy) z0 62) H := by
  have h := h1 1058 (s0 + 1058, (.inl ((zG s0 D cy).2.2 2, (924, .inr (.inl (fun _ => 0)))))) ((cW_at (i := 1057) (by simp only [es_X5, es_X2, es_X0, es_X1, es_X3, es_X4, List.getElem?_append, List.getElem?_replicate, List.getElem?_cons, List.length_append, List.length_cons, List.length_nil, List.length_replicate, es_X5_len, es_X2_len, es_X0_len, es_X1_len, es_X3_len, es_X4_len, es_X6_len] <;> rfl)).trans (by rw [show s0 + 1 + 1057 = s0 + 1058 by omega]))
  rw [ent_long (by decide)]
  exact zLong h (z0J (by decide))
set_option maxRecDepth 100000 in
set_option maxHeartbeats 2000000 in
theorem zc_63 (h1 : va_P D vwCl (cW s0 (s0 + 1) (.inr (5, fin_X5 (zG s0 D cy) (s0 + 1))) (es_X5 (zG s0 D cy) (s0 + 1))) H) (h2 : va_P D vwCl (cW (s0 + 1067) (s0 + 1068) (.inr (6, fin_X6 (zG s0 D cy) (s0 + 1068))) (es_X6 (zG s0 D cy) (s0 + 1068))) H) : va_at D vwCl ((zG s0 D cy).1 63, ent (zG s0 D cy) z0 63) H := by
  have h := h1 1059 (s0 + 1059, (.inl ((zG s0 D cy).2.2 2, (924, .inr (.inl (fun _ => 0)))))) ((cW_at (i := 1058) (by simp only [es_X5, es_X2, es_X0, es_X1, es_X3, es_X4, List.getElem?_append, List.getElem?_replicate, List.getElem?_cons, List.length_append, List.length_cons, List.length_nil, List.length_replicate, es_X5_len, es_X2_len, es_X0_len, es_X1_len, es_X3_len, es_X4_len, es_X6_len] <;> rfl)).trans (by rw [show s0 + 1 + 1058 = s0 + 1059 by omega]))
  rw [ent_long (by decide)]
  exact zLong h (z0J (by decide))
set_option maxRecDepth 100000 in
set_option maxHeartbeats 2000000 in
theorem zc_64 (h1 : va_P D vwCl (cW s0 (s0 + 1) (.inr (5, fin_X5 (zG s0 D cy) (s0 + 1))) (es_X5 (zG s0 D cy) (s0 + 1))) H) (h2 : va_P D vwCl (cW (s0 + 1067) (s0 + 1068) (.inr (6, fin_X6 (zG s0 D cy) (s0 + 1068))) (es_X6 (zG s0 D cy) (s0 + 1068))) H) : va_at D vwCl ((zG s0 D cy).1 64, ent (zG s0 D cy) z0 64) H := by
  have h := h1 1060 (s0 + 1060, (.inl ((zG s0 D cy).2.2 2, (924, .inr (.inl (fun _ => 0)))))) ((cW_at (i := 1059) (by simp only [es_X5, es_X2, es_X0, es_X1, es_X3, es_X4, List.getElem?_append, List.getElem?_replicate, List.getElem?_cons, List.length_append, List.length_cons, List.length_nil, List.length_replicate, es_X5_len, es_X2_len, es_X0_len, es_X1_len, es_X3_len, es_X4_len, es_X6_len] <;> rfl)).trans (by rw [show s0 + 1 + 1059 = s0 + 1060 by omega]))
  rw [ent_long (by decide)]
  exact zLong h (z0J (by decide))
end ZFIRST
