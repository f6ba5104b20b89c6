def zOff (c : Nat) : Nat := if c < 65 then [0, 15, 1, 16, 30, 46, 45, 44, 1066, 1062, 1063, 1064, 1065, 8, 23, 37, 47, 127, 131, 1057, 2, 3, 4, 5, 6, 7, 17, 18, 19, 20, 21, 22, 31, 32, 33, 34, 35, 36, 9, 10, 11, 12, 13, 14, 24, 25, 26, 27, 28, 29, 38, 39, 40, 41, 42, 43, 126, 128, 129, 130, 1056, 1061, 1058, 1059, 1060].getD c 0 else if c < 143 then c - 17 else if c < 1067 then c - 11 else c
def zG (s0 : Nat) (D : va_G) (cy : Nat → ClassId) : ZG := (fun c => s0 + zOff c, D, cy)
def z0 : ZS := (fun c k => if c = 1067 then (if k = 9 then 1 else if k = 30 then -1 else 0) else 0, fun c k => if k = 1 then (if 8 ≤ c ∧ c ≤ 12 then 1 else 0) else 0)
theorem zInt {D : va_G} {cl : List vw_C} {a n : Nat} {cA : ClassId} {f g : Nat → Int32} {H : Heap} (h : va_at D cl (a, .inl (cA, (n, .inl f))) H) (e : g = f) : va_at D cl (a, .inl (cA, (n, .inl g))) H := by subst e; exact h
theorem zLong {D : va_G} {cl : List vw_C} {a n : Nat} {cA : ClassId} {f g : Nat → Int64} {H : Heap} (h : va_at D cl (a, .inl (cA, (n, .inr (.inl f)))) H) (e : g = f) : va_at D cl (a, .inl (cA, (n, .inr (.inl g)))) H := by subst e; exact h
theorem arrV_congr (cA : ClassId) (n : Nat) {f g : Nat → Value} (e : ∀ j, j < n → f j = g j) : arrV cA n f = arrV cA n g := by
  unfold arrV
  congr 1
  apply Array.ext
  · simp
  · intro i h1 h2
    simp only [Array.getElem_ofFn]
    exact e i (by simpa using h1)
theorem zRefs {D : va_G} {cl : List vw_C} {a n : Nat} {cA : ClassId} {f g : Nat → Option Nat} {H : Heap} (h : va_at D cl (a, .inl (cA, (n, .inr (.inr (.inr (.inr f)))))) H) (e : ∀ j, j < n → g j = f j) : va_at D cl (a, .inl (cA, (n, .inr (.inr (.inr (.inr g)))))) H := by
  have h : H[a]? = some (vp_cell cA (n, .inr (.inr (.inr (.inr f))))) := h
  show H[a]? = some (vp_cell cA (n, .inr (.inr (.inr (.inr g)))))
  rw [h, vp_cell_q, vp_cell_q, arrV_congr cA n (fun j hj => congrArg va_rf (e j hj))]
theorem zObj {D : va_G} {cl : List vw_C} {a k : Nat} {fs gs : List Value} {H : Heap} (h : va_at D cl (a, .inr (k, fs)) H) (e : gs = fs) : va_at D cl (a, .inr (k, gs)) H := by subst e; exact h
theorem z0I {c : Nat} (h : c ≠ 1067) : z0.1 c = fun _ => 0 := by funext k; simp [z0, h]
theorem z0J {c : Nat} (h : ¬ (8 ≤ c ∧ c ≤ 12)) : z0.2 c = fun _ => 0 := by funext k; simp only [z0, if_neg h]; split <;> rfl
section ZFIRST
variable {s0 : Nat} {D : va_G} {cy : Nat → ClassId} {H : Heap}
set_option maxRecDepth 100000 in
set_option maxHeartbeats 2000000 in
theorem zc_0 (h1 : va_P D vwCl (cW s0 (s0 + 1) (.inr (5, fin_X5 (zG s0 D cy) (s0 + 1))) (es_X5 (zG s0 D cy) (s0 + 1))) H) (h2 : va_P D vwCl (cW (s0 + 1067) (s0 + 1068) (.inr (6, fin_X6 (zG s0 D cy) (s0 + 1068))) (es_X6 (zG s0 D cy) (s0 + 1068))) H) : va_at D vwCl ((zG s0 D cy).1 0, ent (zG s0 D cy) z0 0) H := by
  have h := h1 0 _ rfl
  rw [ent_obj (by decide)]
  exact zObj h (by rfl)
set_option maxRecDepth 100000 in
set_option maxHeartbeats 2000000 in
theorem zc_1 (h1 : va_P D vwCl (cW s0 (s0 + 1) (.inr (5, fin_X5 (zG s0 D cy) (s0 + 1))) (es_X5 (zG s0 D cy) (s0 + 1))) H) (h2 : va_P D vwCl (cW (s0 + 1067) (s0 + 1068) (.inr (6, fin_X6 (zG s0 D cy) (s0 + 1068))) (es_X6 (zG s0 D cy) (s0 + 1068))) H) : va_at D vwCl ((zG s0 D cy).1 1, ent (zG s0 D cy) z0 1) H := by
  have h := h1 15 (s0 + 15, (.inl (cy 4, (2, .inr (.inr (.inr (.inr (va_up (va_up (fun _ => none) ((0 : Int32)).toNatClampNeg (some (s0 + 1 + 15))) ((1 : Int32)).toNatClampNeg (some (s0 + 1 + 29)))))))))) ((cW_at (i := 14) (by simp only [es_X5, es_X2, es_X0, es_X1, es_X3, es_X4, List.getElem?_append, List.getElem?_replicate, List.getElem?_cons, List.length_append, List.length_cons, List.length_nil, List.length_replicate, es_X5_len, es_X2_len, es_X0_len, es_X1_len, es_X3_len, es_X4_len, es_X6_len] <;> rfl)).trans (by rw [show s0 + 1 + 14 = s0 + 15 by omega]))
  rw [ent_refs (by decide)]
  refine zRefs h (fun j hj => ?_)
  match j, hj with
  | 0, _ => rfl
  | 1, _ => rfl
set_option maxRecDepth 100000 in
set_option maxHeartbeats 2000000 in
theorem zc_2 (h1 : va_P D vwCl (cW s0 (s0 + 1) (.inr (5, fin_X5 (zG s0 D cy) (s0 + 1))) (es_X5 (zG s0 D cy) (s0 + 1))) H) (h2 : va_P D vwCl (cW (s0 + 1067) (s0 + 1068) (.inr (6, fin_X6 (zG s0 D cy) (s0 + 1068))) (es_X6 (zG s0 D cy) (s0 + 1068))) H) : va_at D vwCl ((zG s0 D cy).1 2, ent (zG s0 D cy) z0 2) H := by
  have h := h1 1 (s0 + 1, (.inr (2, fin_X2 (zG s0 D cy) (s0 + 2)))) ((cW_at (i := 0) (by simp only [es_X5, es_X2, es_X0, es_X1, es_X3, es_X4, List.getElem?_append, List.getElem?_replicate, List.getElem?_cons, List.length_append, List.length_cons, List.length_nil, List.length_replicate, es_X5_len, es_X2_len, es_X0_len, es_X1_len, es_X3_len, es_X4_len, es_X6_len] <;> rfl)).trans (by rw [show s0 + 1 + 0 = s0 + 1 by omega]))
  rw [ent_obj (by decide)]
  exact zObj h (by rfl)
set_option maxRecDepth 100000 in
set_option maxHeartbeats 2000000 in
theorem zc_3 (h1 : va_P D vwCl (cW s0 (s0 + 1) (.inr (5, fin_X5 (zG s0 D cy) (s0 + 1))) (es_X5 (zG s0 D cy) (s0 + 1))) H) (h2 : va_P D vwCl (cW (s0 + 1067) (s0 + 1068) (.inr (6, fin_X6 (zG s0 D cy) (s0 + 1068))) (es_X6 (zG s0 D cy) (s0 + 1068))) H) : va_at D vwCl ((zG s0 D cy).1 3, ent (zG s0 D cy) z0 3) H := by
  have h := h1 16 (s0 + 16, (.inr (2, fin_X2 (zG s0 D cy) (s0 + 17)))) ((cW_at (i := 15) (by simp only [es_X5, es_X2, es_X0, es_X1, es_X3, es_X4, List.getElem?_append, List.getElem?_replicate, List.getElem?_cons, List.length_append, List.length_cons, List.length_nil, List.length_replicate, es_X5_len, es_X2_len, es_X0_len, es_X1_len, es_X3_len, es_X4_len, es_X6_len] <;> rfl)).trans (by rw [show s0 + 1 + 15 = s0 + 16 by omega]))
  rw [ent_obj (by decide)]
  exact zObj h (by rfl)
set_option maxRecDepth 100000 in
set_option maxHeartbeats 2000000 in
theorem zc_4 (h1 : va_P D vwCl (cW s0 (s0 + 1) (.inr (5, fin_X5 (zG s0 D cy) (s0 + 1))) (es_X5 (zG s0 D cy) (s0 + 1))) H) (h2 : va_P D vwCl (cW (s0 + 1067) (s0 + 1068) (.inr (6, fin_X6 (zG s0 D cy) (s0 + 1068))) (es_X6 (zG s0 D cy) (s0 + 1068))) H) : va_at D vwCl ((zG s0 D cy).1 4, ent (zG s0 D cy) z0 4) H := by
  have h := h1 30 (s0 + 30, (.inr (2, fin_X2 (zG s0 D cy) (s0 + 31)))) ((cW_at (i := 29) (by simp only [es_X5, es_X2, es_X0, es_X1, es_X3, es_X4, List.getElem?_append, List.getElem?_replicate, List.getElem?_cons, List.length_append, List.length_cons, List.length_nil, List.length_replicate, es_X5_len, es_X2_len, es_X0_len, es_X1_len, es_X3_len, es_X4_len, es_X6_len] <;> rfl)).trans (by rw [show s0 + 1 + 29 = s0 + 30 by omega]))
  rw [ent_obj (by decide)]
  exact zObj h (by rfl)
set_option maxRecDepth 100000 in
set_option maxHeartbeats 2000000 in
theorem zc_5 (h1 : va_P D vwCl (cW s0 (s0 + 1) (.inr (5, fin_X5 (zG s0 D cy) (s0 + 1))) (es_X5 (zG s0 D cy) (s0 + 1))) H) (h2 : va_P D vwCl (cW (s0 + 1067) (s0 + 1068) (.inr (6, fin_X6 (zG s0 D cy) (s0 + 1068))) (es_X6 (zG s0 D cy) (s0 + 1068))) H) : va_at D vwCl ((zG s0 D cy).1 5, ent (zG s0 D cy) z0 5) H := by
  have h := h1 46 (s0 + 46, (.inr (4, fin_X4 (zG s0 D cy) (s0 + 47)))) ((cW_at (i := 45) (by simp only [es_X5, es_X2, es_X0, es_X1, es_X3, es_X4, List.getElem?_append, List.getElem?_replicate, List.getElem?_cons, List.length_append, List.length_cons, List.length_nil, List.length_replicate, es_X5_len, es_X2_len, es_X0_len, es_X1_len, es_X3_len, es_X4_len, es_X6_len] <;> rfl)).trans (by rw [show s0 + 1 + 45 = s0 + 46 by omega]))
  rw [ent_obj (by decide)]
  exact zObj h (by rfl)
set_option maxRecDepth 100000 in
set_option maxHeartbeats 2000000 in
theorem zc_6 (h1 : va_P D vwCl (cW s0 (s0 + 1) (.inr (5, fin_X5 (zG s0 D cy) (s0 + 1))) (es_X5 (zG s0 D cy) (s0 + 1))) H) (h2 : va_P D vwCl (cW (s0 + 1067) (s0 + 1068) (.inr (6, fin_X6 (zG s0 D cy) (s0 + 1068))) (es_X6 (zG s0 D cy) (s0 + 1068))) H) : va_at D vwCl ((zG s0 D cy).1 6, ent (zG s0 D cy) z0 6) H := by
  have h := h1 45 (s0 + 45, (.inr (3, fin_X3 (zG s0 D cy) (s0 + 46)))) ((cW_at (i := 44) (by simp only [es_X5, es_X2, es_X0, es_X1, es_X3, es_X4, List.getElem?_append, List.getElem?_replicate, List.getElem?_cons, List.length_append, List.length_cons, List.length_nil, List.length_replicate, es_X5_len, es_X2_len, es_X0_len, es_X1_len, es_X3_len, es_X4_len, es_X6_len] <;> rfl)).trans (by rw [show s0 + 1 + 44 = s0 + 45 by omega]))
  rw [ent_obj (by decide)]
  exact zObj h (by rfl)
set_option maxRecDepth 100000 in
set_option maxHeartbeats 2000000 in
theorem zc_7 (h1 : va_P D vwCl (cW s0 (s0 + 1) (.inr (5, fin_X5 (zG s0 D cy) (s0 + 1))) (es_X5 (zG s0 D cy) (s0 + 1))) H) (h2 : va_P D vwCl (cW (s0 + 1067) (s0 + 1068) (.inr (6, fin_X6 (zG s0 D cy) (s0 + 1068))) (es_X6 (zG s0 D cy) (s0 + 1068))) H) : va_at D vwCl ((zG s0 D cy).1 7, ent (zG s0 D cy) z0 7) H := by
  have h := h1 44 (s0 + 44, (.inr (0, fin_X0 (zG s0 D cy) (s0 + 45)))) ((cW_at (i := 43) (by simp only [es_X5, es_X2, es_X0, es_X1, es_X3, es_X4, List.getElem?_append, List.getElem?_replicate, List.getElem?_cons, List.length_append, List.length_cons, List.length_nil, List.length_replicate, es_X5_len, es_X2_len, es_X0_len, es_X1_len, es_X3_len, es_X4_len, es_X6_len] <;> rfl)).trans (by rw [show s0 + 1 + 43 = s0 + 44 by omega]))
  rw [ent_obj (by decide)]
  exact zObj h (by rfl)
set_option maxRecDepth 100000 in
set_option maxHeartbeats 2000000 in
theorem zc_8 (h1 : va_P D vwCl (cW s0 (s0 + 1) (.inr (5, fin_X5 (zG s0 D cy) (s0 + 1))) (es_X5 (zG s0 D cy) (s0 + 1))) H) (h2 : va_P D vwCl (cW (s0 + 1067) (s0 + 1068) (.inr (6, fin_X6 (zG s0 D cy) (s0 + 1068))) (es_X6 (zG s0 D cy) (s0 + 1068))) H) : va_at D vwCl ((zG s0 D cy).1 8, ent (zG s0 D cy) z0 8) H := by
  have h := h1 1066 (s0 + 1066, (.inr (1, fin_X1 (zG s0 D cy) (s0 + 1067)))) ((cW_at (i := 1065) (by simp only [es_X5, es_X2, es_X0, es_X1, es_X3, es_X4, List.getElem?_append, List.getElem?_replicate, List.getElem?_cons, List.length_append, List.length_cons, List.length_nil, List.length_replicate, es_X5_len, es_X2_len, es_X0_len, es_X1_len, es_X3_len, es_X4_len, es_X6_len] <;> rfl)).trans (by rw [show s0 + 1 + 1065 = s0 + 1066 by omega]))
  rw [ent_obj (by decide)]
  exact zObj h (by rfl)
set_option maxRecDepth 100000 in
set_option maxHeartbeats 2000000 in
theorem zc_9 (h1 : va_P D vwCl (cW s0 (s0 + 1) (.inr (5, fin_X5 (zG s0 D cy) (s0 + 1))) (es_X5 (zG s0 D cy) (s0 + 1))) H) (h2 : va_P D vwCl (cW (s0 + 1067) (s0 + 1068) (.inr (6, fin_X6 (zG s0 D cy) (s0 + 1068))) (es_X6 (zG s0 D cy) (s0 + 1068))) H) : va_at D vwCl ((zG s0 D cy).1 9, ent (zG s0 D cy) z0 9) H := by
  have h := h1 1062 (s0 + 1062, (.inr (1, fin_X1 (zG s0 D cy) (s0 + 1063)))) ((cW_at (i := 1061) (by simp only [es_X5, es_X2, es_X0, es_X1, es_X3, es_X4, List.getElem?_append, List.getElem?_replicate, List.getElem?_cons, List.length_append, List.length_cons, List.length_nil, List.length_replicate, es_X5_len, es_X2_len, es_X0_len, es_X1_len, es_X3_len, es_X4_len, es_X6_len] <;> rfl)).trans (by rw [show s0 + 1 + 1061 = s0 + 1062 by omega]))
  rw [ent_obj (by decide)]
  exact zObj h (by rfl)
set_option maxRecDepth 100000 in
set_option maxHeartbeats 2000000 in
theorem zc_10 (h1 : va_P D vwCl (cW s0 (s0 + 1) (.inr (5, fin_X5 (zG s0 D cy) (s0 + 1))) (es_X5 (zG s0 D cy) (s0 + 1))) H) (h2 : va_P D vwCl (cW (s0 + 1067) (s0 + 1068) (.inr (6, fin_X6 (zG s0 D cy) (s0 + 1068))) (es_X6 (zG s0 D cy) (s0 + 1068))) H) : va_at D vwCl ((zG s0 D cy).1 10, ent (zG s0 D cy) z0 10) H := by
  have h := h1 1063 (s0 + 1063, (.inr (1, fin_X1 (zG s0 D cy) (s0 + 1064)))) ((cW_at (i := 1062) (by simp only [es_X5, es_X2, es_X0, es_X1, es_X3, es_X4, List.getElem?_append, List.getElem?_replicate, List.getElem?_cons, List.length_append, List.length_cons, List.length_nil, List.length_replicate, es_X5_len, es_X2_len, es_X0_len, es_X1_len, es_X3_len, es_X4_len, es_X6_len] <;> rfl)).trans (by rw [show s0 + 1 + 1062 = s0 + 1063 by omega]))
  rw [ent_obj (by decide)]
  exact zObj h (by rfl)
set_option maxRecDepth 100000 in
set_option maxHeartbeats 2000000 in
theorem zc_11 (h1 : va_P D vwCl (cW s0 (s0 + 1) (.inr (5, fin_X5 (zG s0 D cy) (s0 + 1))) (es_X5 (zG s0 D cy) (s0 + 1))) H) (h2 : va_P D vwCl (cW (s0 + 1067) (s0 + 1068) (.inr (6, fin_X6 (zG s0 D cy) (s0 + 1068))) (es_X6 (zG s0 D cy) (s0 + 1068))) H) : va_at D vwCl ((zG s0 D cy).1 11, ent (zG s0 D cy) z0 11) H := by
  have h := h1 1064 (s0 + 1064, (.inr (1, fin_X1 (zG s0 D cy) (s0 + 1065)))) ((cW_at (i := 1063) (by simp only [es_X5, es_X2, es_X0, es_X1, es_X3, es_X4, List.getElem?_append, List.getElem?_replicate, List.getElem?_cons, List.length_append, List.length_cons, List.length_nil, List.length_replicate, es_X5_len, es_X2_len, es_X0_len, es_X1_len, es_X3_len, es_X4_len, es_X6_len] <;> rfl)).trans (by rw [show s0 + 1 + 1063 = s0 + 1064 by omega]))
  rw [ent_obj (by decide)]
  exact zObj h (by rfl)
set_option maxRecDepth 100000 in
set_option maxHeartbeats 2000000 in
theorem zc_12 (h1 : va_P D vwCl (cW s0 (s0 + 1) (.inr (5, fin_X5 (zG s0 D cy) (s0 + 1))) (es_X5 (zG s0 D cy) (s0 + 1))) H) (h2 : va_P D vwCl (cW (s0 + 1067) (s0 + 1068) (.inr (6, fin_X6 (zG s0 D cy) (s0 + 1068))) (es_X6 (zG s0 D cy) (s0 + 1068))) H) : va_at D vwCl ((zG s0 D cy).1 12, ent (zG s0 D cy) z0 12) H := by
  have h := h1 1065 (s0 + 1065, (.inr (1, fin_X1 (zG s0 D cy) (s0 + 1066)))) ((cW_at (i := 1064) (by simp only [es_X5, es_X2, es_X0, es_X1, es_X3, es_X4, List.getElem?_append, List.getElem?_replicate, List.getElem?_cons, List.length_append, List.length_cons, List.length_nil, List.length_replicate, es_X5_len, es_X2_len, es_X0_len, es_X1_len, es_X3_len, es_X4_len, es_X6_len] <;> rfl)).trans (by rw [show s0 + 1 + 1064 = s0 + 1065 by omega]))
  rw [ent_obj (by decide)]
  exact zObj h (by rfl)
set_option maxRecDepth 100000 in
set_option maxHeartbeats 2000000 in
theorem zc_13 (h1 : va_P D vwCl (cW s0 (s0 + 1) (.inr (5, fin_X5 (zG s0 D cy) (s0 + 1))) (es_X5 (zG s0 D cy) (s0 + 1))) H) (h2 : va_P D vwCl (cW (s0 + 1067) (s0 + 1068) (.inr (6, fin_X6 (zG s0 D cy) (s0 + 1068))) (es_X6 (zG s0 D cy) (s0 + 1068))) H) : va_at D vwCl ((zG s0 D cy).1 13, ent (zG s0 D cy) z0 13) H := by
  have h := h1 8 (s0 + 8, (.inl (cy 5, (6, .inr (.inr (.inr (.inr (fun i => if i < 6 then some ((s0 + 8) + 1 + i) else none)))))))) ((cW_at (i := 7) (by simp only [es_X5, es_X2, es_X0, es_X1, es_X3, es_X4, List.getElem?_append, List.getElem?_replicate, List.getElem?_cons, List.length_append, List.length_cons, List.length_nil, List.length_replicate, es_X5_len, es_X2_len, es_X0_len, es_X1_len, es_X3_len, es_X4_len, es_X6_len] <;> rfl)).trans (by rw [show s0 + 1 + 7 = s0 + 8 by omega]))
  rw [ent_refs (by decide)]
  refine zRefs h (fun j hj => ?_)
  match j, hj with
  | 0, _ => rfl
  | 1, _ => rfl
  | 2, _ => rfl
  | 3, _ => rfl
  | 4, _ => rfl
  | 5, _ => rfl
set_option maxRecDepth 100000 in
set_option maxHeartbeats 2000000 in
theorem zc_14 (h1 : va_P D vwCl (cW s0 (s0 + 1) (.inr (5, fin_X5 (zG s0 D cy) (s0 + 1))) (es_X5 (zG s0 D cy) (s0 + 1))) H) (h2 : va_P D vwCl (cW (s0 + 1067) (s0 + 1068) (.inr (6, fin_X6 (zG s0 D cy) (s0 + 1068))) (es_X6 (zG s0 D cy) (s0 + 1068))) H) : va_at D vwCl ((zG s0 D cy).1 14, ent (zG s0 D cy) z0 14) H := by
  have h := h1 23 (s0 + 23, (.inl (cy 5, (6, .inr (.inr (.inr (.inr (fun i => if i < 6 then some ((s0 + 23) + 1 + i) else none)))))))) ((cW_at (i := 22) (by simp only [es_X5, es_X2, es_X0, es_X1, es_X3, es_X4, List.getElem?_append, List.getElem?_replicate, List.getElem?_cons, List.length_append, List.length_cons, List.length_nil, List.length_replicate, es_X5_len, es_X2_len, es_X0_len, es_X1_len, es_X3_len, es_X4_len, es_X6_len] <;> rfl)).trans (by rw [show s0 + 1 + 22 = s0 + 23 by omega]))
  rw [ent_refs (by decide)]
  refine zRefs h (fun j hj => ?_)
  match j, hj with
  | 0, _ => rfl
  | 1, _ => rfl
  | 2, _ => rfl
  | 3, _ => rfl
  | 4, _ => rfl
  | 5, _ => rfl
set_option maxRecDepth 100000 in
set_option maxHeartbeats 2000000 in
theorem zc_15 (h1 : va_P D vwCl (cW s0 (s0 + 1) (.inr (5, fin_X5 (zG s0 D cy) (s0 + 1))) (es_X5 (zG s0 D cy) (s0 + 1))) H) (h2 : va_P D vwCl (cW (s0 + 1067) (s0 + 1068) (.inr (6, fin_X6 (zG s0 D cy) (s0 + 1068))) (es_X6 (zG s0 D cy) (s0 + 1068))) H) : va_at D vwCl ((zG s0 D cy).1 15, ent (zG s0 D cy) z0 15) H := by
  have h := h1 37 (s0 + 37, (.inl (cy 5, (6, .inr (.inr (.inr (.inr (fun i => if i < 6 then some ((s0 + 37) + 1 + i) else none)))))))) ((cW_at (i := 36) (by simp only [es_X5, es_X2, es_X0, es_X1, es_X3, es_X4, List.getElem?_append, List.getElem?_replicate, List.getElem?_cons, List.length_append, List.length_cons, List.length_nil, List.length_replicate, es_X5_len, es_X2_len, es_X0_len, es_X1_len, es_X3_len, es_X4_len, es_X6_len] <;> rfl)).trans (by rw [show s0 + 1 + 36 = s0 + 37 by omega]))
  rw [ent_refs (by decide)]
  refine zRefs h (fun j hj => ?_)
  match j, hj with
  | 0, _ => rfl
  | 1, _ => rfl
  | 2, _ => rfl
  | 3, _ => rfl
  | 4, _ => rfl
  | 5, _ => rfl
set_option maxRecDepth 100000 in
set_option maxHeartbeats 2000000 in
theorem zc_16 (h1 : va_P D vwCl (cW s0 (s0 + 1) (.inr (5, fin_X5 (zG s0 D cy) (s0 + 1))) (es_X5 (zG s0 D cy) (s0 + 1))) H) (h2 : va_P D vwCl (cW (s0 + 1067) (s0 + 1068) (.inr (6, fin_X6 (zG s0 D cy) (s0 + 1068))) (es_X6 (zG s0 D cy) (s0 + 1068))) H) : va_at D vwCl ((zG s0 D cy).1 16, ent (zG s0 D cy) z0 16) H := by
  have h := h1 47 (s0 + 47, (.inl (cy 6, (78, .inr (.inr (.inr (.inr (fun i => if i < 78 then some ((s0 + 47) + 1 + i) else none)))))))) ((cW_at (i := 46) (by simp only [es_X5, es_X2, es_X0, es_X1, es_X3, es_X4, List.getElem?_append, List.getElem?_replicate, List.getElem?_cons, List.length_append, List.length_cons, List.length_nil, List.length_replicate, es_X5_len, es_X2_len, es_X0_len, es_X1_len, es_X3_len, es_X4_len, es_X6_len] <;> rfl)).trans (by rw [show s0 + 1 + 46 = s0 + 47 by omega]))
  rw [ent_refs (by decide)]
  refine zRefs h (fun j hj => ?_)
  have hj : j < 78 := hj
  show some (s0 + zOff (rr 16 j)) = if j < 78 then some ((s0 + 47) + 1 + j) else none
  rw [if_pos hj]
  have e1 : rr 16 j = 65 + j := by simp [rr]
  rw [e1]
  congr 1
  unfold zOff
  rw [if_neg (by omega)]
  first | (rw [if_pos (by omega)]; omega) | (rw [if_neg (by omega), if_pos (by omega)]; omega)
set_option maxRecDepth 100000 in
set_option maxHeartbeats 2000000 in
theorem zc_17 (h1 : va_P D vwCl (cW s0 (s0 + 1) (.inr (5, fin_X5 (zG s0 D cy) (s0 + 1))) (es_X5 (zG s0 D cy) (s0 + 1))) H) (h2 : va_P D vwCl (cW (s0 + 1067) (s0 + 1068) (.inr (6, fin_X6 (zG s0 D cy) (s0 + 1068))) (es_X6 (zG s0 D cy) (s0 + 1068))) H) : va_at D vwCl ((zG s0 D cy).1 17, ent (zG s0 D cy) z0 17) H := by
  have h := h1 127 (s0 + 127, (.inl (cy 5, (2, .inr (.inr (.inr (.inr (fun i => if i < 2 then some ((s0 + 127) + 1 + i) else none)))))))) ((cW_at (i := 126) (by simp only [es_X5, es_X2, es_X0, es_X1, es_X3, es_X4, List.getElem?_append, List.getElem?_replicate, List.getElem?_cons, List.length_append, List.length_cons, List.length_nil, List.length_replicate, es_X5_len, es_X2_len, es_X0_len, es_X1_len, es_X3_len, es_X4_len, es_X6_len] <;> rfl)).trans (by rw [show s0 + 1 + 126 = s0 + 127 by omega]))
  rw [ent_refs (by decide)]
  refine zRefs h (fun j hj => ?_)
  match j, hj with
  | 0, _ => rfl
  | 1, _ => rfl
set_option maxRecDepth 100000 in
set_option maxHeartbeats 2000000 in
theorem zc_18 (h1 : va_P D vwCl (cW s0 (s0 + 1) (.inr (5, fin_X5 (zG s0 D cy) (s0 + 1))) (es_X5 (zG s0 D cy) (s0 + 1))) H) (h2 : va_P D vwCl (cW (s0 + 1067) (s0 + 1068) (.inr (6, fin_X6 (zG s0 D cy) (s0 + 1068))) (es_X6 (zG s0 D cy) (s0 + 1068))) H) : va_at D vwCl ((zG s0 D cy).1 18, ent (zG s0 D cy) z0 18) H := by
  have h := h1 131 (s0 + 131, (.inl (cy 6, (924, .inr (.inr (.inr (.inr (fun i => if i < 924 then some ((s0 + 131) + 1 + i) else none)))))))) ((cW_at (i := 130) (by simp only [es_X5, es_X2, es_X0, es_X1, es_X3, es_X4, List.getElem?_append, List.getElem?_replicate, List.getElem?_cons, List.length_append, List.length_cons, List.length_nil, List.length_replicate, es_X5_len, es_X2_len, es_X0_len, es_X1_len, es_X3_len, es_X4_len, es_X6_len] <;> rfl)).trans (by rw [show s0 + 1 + 130 = s0 + 131 by omega]))
  rw [ent_refs (by decide)]
  refine zRefs h (fun j hj => ?_)
  have hj : j < 924 := hj
  show some (s0 + zOff (rr 18 j)) = if j < 924 then some ((s0 + 131) + 1 + j) else none
  rw [if_pos hj]
  have e1 : rr 18 j = 143 + j := by simp [rr]
  rw [e1]
  congr 1
  unfold zOff
  rw [if_neg (by omega)]
  first | (rw [if_pos (by omega)]; omega) | (rw [if_neg (by omega), if_pos (by omega)]; omega)
set_option maxRecDepth 100000 in
set_option maxHeartbeats 2000000 in
theorem zc_19 (h1 : va_P D vwCl (cW s0 (s0 + 1) (.inr (5, fin_X5 (zG s0 D cy) (s0 + 1))) (es_X5 (zG s0 D cy) (s0 + 1))) H) (h2 : va_P D vwCl (cW (s0 + 1067) (s0 + 1068) (.inr (6, fin_X6 (zG s0 D cy) (s0 + 1068))) (es_X6 (zG s0 D cy) (s0 + 1068))) H) : va_at D vwCl ((zG s0 D cy).1 19, ent (zG s0 D cy) z0 19) H := by
  have h := h1 1057 (s0 + 1057, (.inl (cy 6, (3, .inr (.inr (.inr (.inr (fun i => if i < 3 then some ((s0 + 1057) + 1 + i) else none)))))))) ((cW_at (i := 1056) (by simp only [es_X5, es_X2, es_X0, es_X1, es_X3, es_X4, List.getElem?_append, List.getElem?_replicate, List.getElem?_cons, List.length_append, List.length_cons, List.length_nil, List.length_replicate, es_X5_len, es_X2_len, es_X0_len, es_X1_len, es_X3_len, es_X4_len, es_X6_len] <;> rfl)).trans (by rw [show s0 + 1 + 1056 = s0 + 1057 by omega]))
  rw [ent_refs (by decide)]
  refine zRefs h (fun j hj => ?_)
  match j, hj with
  | 0, _ => rfl
  | 1, _ => rfl
  | 2, _ => rfl
set_option maxRecDepth 100000 in
set_option maxHeartbeats 2000000 in
theorem zc_20 (h1 : va_P D vwCl (cW s0 (s0 + 1) (.inr (5, fin_X5 (zG s0 D cy) (s0 + 1))) (es_X5 (zG s0 D cy) (s0 + 1))) H) (h2 : va_P D vwCl (cW (s0 + 1067) (s0 + 1068) (.inr (6, fin_X6 (zG s0 D cy) (s0 + 1068))) (es_X6 (zG s0 D cy) (s0 + 1068))) H) : va_at D vwCl ((zG s0 D cy).1 20, ent (zG s0 D cy) z0 20) H := by
  have h := h1 2 (s0 + 2, (.inl (cy 1, (7, .inl (fun _ => 0))))) ((cW_at (i := 1) (by simp only [es_X5, es_X2, es_X0, es_X1, es_X3, es_X4, List.getElem?_append, List.getElem?_replicate, List.getElem?_cons, List.length_append, List.length_cons, List.length_nil, List.length_replicate, es_X5_len, es_X2_len, es_X0_len, es_X1_len, es_X3_len, es_X4_len, es_X6_len] <;> rfl)).trans (by rw [show s0 + 1 + 1 = s0 + 2 by omega]))
  rw [ent_int (by decide)]
  exact zInt h (z0I (by decide))
set_option maxRecDepth 100000 in
set_option maxHeartbeats 2000000 in
theorem zc_21 (h1 : va_P D vwCl (cW s0 (s0 + 1) (.inr (5, fin_X5 (zG s0 D cy) (s0 + 1))) (es_X5 (zG s0 D cy) (s0 + 1))) H) (h2 : va_P D vwCl (cW (s0 + 1067) (s0 + 1068) (.inr (6, fin_X6 (zG s0 D cy) (s0 + 1068))) (es_X6 (zG s0 D cy) (s0 + 1068))) H) : va_at D vwCl ((zG s0 D cy).1 21, ent (zG s0 D cy) z0 21) H := by
  have h := h1 3 (s0 + 3, (.inl (cy 1, (7, .inl (fun _ => 0))))) ((cW_at (i := 2) (by simp only [es_X5, es_X2, es_X0, es_X1, es_X3, es_X4, List.getElem?_append, List.getElem?_replicate, List.getElem?_cons, List.length_append, List.length_cons, List.length_nil, List.length_replicate, es_X5_len, es_X2_len, es_X0_len, es_X1_len, es_X3_len, es_X4_len, es_X6_len] <;> rfl)).trans (by rw [show s0 + 1 + 2 = s0 + 3 by omega]))
  rw [ent_int (by decide)]
  exact zInt h (z0I (by decide))
set_option maxRecDepth 100000 in
set_option maxHeartbeats 2000000 in
theorem zc_22 (h1 : va_P D vwCl (cW s0 (s0 + 1) (.inr (5, fin_X5 (zG s0 D cy) (s0 + 1))) (es_X5 (zG s0 D cy) (s0 + 1))) H) (h2 : va_P D vwCl (cW (s0 + 1067) (s0 + 1068) (.inr (6, fin_X6 (zG s0 D cy) (s0 + 1068))) (es_X6 (zG s0 D cy) (s0 + 1068))) H) : va_at D vwCl ((zG s0 D cy).1 22, ent (zG s0 D cy) z0 22) H := by
  have h := h1 4 (s0 + 4, (.inl (cy 1, (7, .inl (fun _ => 0))))) ((cW_at (i := 3) (by simp only [es_X5, es_X2, es_X0, es_X1, es_X3, es_X4, List.getElem?_append, List.getElem?_replicate, List.getElem?_cons, List.length_append, List.length_cons, List.length_nil, List.length_replicate, es_X5_len, es_X2_len, es_X0_len, es_X1_len, es_X3_len, es_X4_len, es_X6_len] <;> rfl)).trans (by rw [show s0 + 1 + 3 = s0 + 4 by omega]))
  rw [ent_int (by decide)]
  exact zInt h (z0I (by decide))
set_option maxRecDepth 100000 in
set_option maxHeartbeats 2000000 in
theorem zc_23 (h1 : va_P D vwCl (cW s0 (s0 + 1) (.inr (5, fin_X5 (zG s0 D cy) (s0 + 1))) (es_X5 (zG s0 D cy) (s0 + 1))) H) (h2 : va_P D vwCl (cW (s0 + 1067) (s0 + 1068) (.inr (6, fin_X6 (zG s0 D cy) (s0 + 1068))) (es_X6 (zG s0 D cy) (s0 + 1068))) H) : va_at D vwCl ((zG s0 D cy).1 23, ent (zG s0 D cy) z0 23) H := by
  have h := h1 5 (s0 + 5, (.inl (cy 1, (6, .inl (fun _ => 0))))) ((cW_at (i := 4) (by simp only [es_X5, es_X2, es_X0, es_X1, es_X3, es_X4, List.getElem?_append, List.getElem?_replicate, List.getElem?_cons, List.length_append, List.length_cons, List.length_nil, List.length_replicate, es_X5_len, es_X2_len, es_X0_len, es_X1_len, es_X3_len, es_X4_len, es_X6_len] <;> rfl)).trans (by rw [show s0 + 1 + 4 = s0 + 5 by omega]))
  rw [ent_int (by decide)]
  exact zInt h (z0I (by decide))
set_option maxRecDepth 100000 in
set_option maxHeartbeats 2000000 in
theorem zc_24 (h1 : va_P D vwCl (cW s0 (s0 + 1) (.inr (5, fin_X5 (zG s0 D cy) (s0 + 1))) (es_X5 (zG s0 D cy) (s0 + 1))) H) (h2 : va_P D vwCl (cW (s0 + 1067) (s0 + 1068) (.inr (6, fin_X6 (zG s0 D cy) (s0 + 1068))) (es_X6 (zG s0 D cy) (s0 + 1068))) H) : va_at D vwCl ((zG s0 D cy).1 24, ent (zG s0 D cy) z0 24) H := by
  have h := h1 6 (s0 + 6, (.inl (cy 1, (6, .inl (fun _ => 0))))) ((cW_at (i := 5) (by simp only [es_X5, es_X2, es_X0, es_X1, es_X3, es_X4, List.getElem?_append, List.getElem?_replicate, List.getElem?_cons, List.length_append, List.length_cons, List.length_nil, List.length_replicate, es_X5_len, es_X2_len, es_X0_len, es_X1_len, es_X3_len, es_X4_len, es_X6_len] <;> rfl)).trans (by rw [show s0 + 1 + 5 = s0 + 6 by omega]))
  rw [ent_int (by decide)]
  exact zInt h (z0I (by decide))
set_option maxRecDepth 100000 in
set_option maxHeartbeats 2000000 in
theorem zc_25 (h1 : va_P D vwCl (cW s0 (s0 + 1) (.inr (5, fin_X5 (zG s0 D cy) (s0 + 1))) (es_X5 (zG s0 D cy) (s0 + 1))) H) (h2 : va_P D vwCl (cW (s0 + 1067) (s0 + 1068) (.inr (6, fin_X6 (zG s0 D cy) (s0 + 1068))) (es_X6 (zG s0 D cy) (s0 + 1068))) H) : va_at D vwCl ((zG s0 D cy).1 25, ent (zG s0 D cy) z0 25) H := by
  have h := h1 7 (s0 + 7, (.inl (cy 1, (6, .inl (fun _ => 0))))) ((cW_at (i := 6) (by simp only [es_X5, es_X2, es_X0, es_X1, es_X3, es_X4, List.getElem?_append, List.getElem?_replicate, List.getElem?_cons, List.length_append, List.length_cons, List.length_nil, List.length_replicate, es_X5_len, es_X2_len, es_X0_len, es_X1_len, es_X3_len, es_X4_len, es_X6_len] <;> rfl)).trans (by rw [show s0 + 1 + 6 = s0 + 7 by omega]))
  rw [ent_int (by decide)]
  exact zInt h (z0I (by decide))
set_option maxRecDepth 100000 in
set_option maxHeartbeats 2000000 in
theorem zc_26 (h1 : va_P D vwCl (cW s0 (s0 + 1) (.inr (5, fin_X5 (zG s0 D cy) (s0 + 1))) (es_X5 (zG s0 D cy) (s0 + 1))) H) (h2 : va_P D vwCl (cW (s0 + 1067) (s0 + 1068) (.inr (6, fin_X6 (zG s0 D cy) (s0 + 1068))) (es_X6 (zG s0 D cy) (s0 + 1068))) H) : va_at D vwCl ((zG s0 D cy).1 26, ent (zG s0 D cy) z0 26) H := by
  have h := h1 17 (s0 + 17, (.inl (cy 1, (7, .inl (fun _ => 0))))) ((cW_at (i := 16) (by simp only [es_X5, es_X2, es_X0, es_X1, es_X3, es_X4, List.getElem?_append, List.getElem?_replicate, List.getElem?_cons, List.length_append, List.length_cons, List.length_nil, List.length_replicate, es_X5_len, es_X2_len, es_X0_len, es_X1_len, es_X3_len, es_X4_len, es_X6_len] <;> rfl)).trans (by rw [show s0 + 1 + 16 = s0 + 17 by omega]))
  rw [ent_int (by decide)]
  exact zInt h (z0I (by decide))
set_option maxRecDepth 100000 in
set_option maxHeartbeats 2000000 in
theorem zc_27 (h1 : va_P D vwCl (cW s0 (s0 + 1) (.inr (5, fin_X5 (zG s0 D cy) (s0 + 1))) (es_X5 (zG s0 D cy) (s0 + 1))) H) (h2 : va_P D vwCl (cW (s0 + 1067) (s0 + 1068) (.inr (6, fin_X6 (zG s0 D cy) (s0 + 1068))) (es_X6 (zG s0 D cy) (s0 + 1068))) H) : va_at D vwCl ((zG s0 D cy).1 27, ent (zG s0 D cy) z0 27) H := by
  have h := h1 18 (s0 + 18, (.inl (cy 1, (7, .inl (fun _ => 0))))) ((cW_at (i := 17) (by simp only [es_X5, es_X2, es_X0, es_X1, es_X3, es_X4, List.getElem?_append, List.getElem?_replicate, List.getElem?_cons, List.length_append, List.length_cons, List.length_nil, List.length_replicate, es_X5_len, es_X2_len, es_X0_len, es_X1_len, es_X3_len, es_X4_len, es_X6_len] <;> rfl)).trans (by rw [show s0 + 1 + 17 = s0 + 18 by omega]))
  rw [ent_int (by decide)]
  exact zInt h (z0I (by decide))
set_option maxRecDepth 100000 in
set_option maxHeartbeats 2000000 in
theorem zc_28 (h1 : va_P D vwCl (cW s0 (s0 + 1) (.inr (5, fin_X5 (zG s0 D cy) (s0 + 1))) (es_X5 (zG s0 D cy) (s0 + 1))) H) (h2 : va_P D vwCl (cW (s0 + 1067) (s0 + 1068) (.inr (6, fin_X6 (zG s0 D cy) (s0 + 1068))) (es_X6 (zG s0 D cy) (s0 + 1068))) H) : va_at D vwCl ((zG s0 D cy).1 28, ent (zG s0 D cy) z0 28) H := by
  have h := h1 19 (s0 + 19, (.inl (cy 1, (7, .inl (fun _ => 0))))) ((cW_at (i := 18) (by simp only [es_X5, es_X2, es_X0, es_X1, es_X3, es_X4, List.getElem?_append, List.getElem?_replicate, List.getElem?_cons, List.length_append, List.length_cons, List.length_nil, List.length_replicate, es_X5_len, es_X2_len, es_X0_len, es_X1_len, es_X3_len, es_X4_len, es_X6_len] <;> rfl)).trans (by rw [show s0 + 1 + 18 = s0 + 19 by omega]))
  rw [ent_int (by decide)]
  exact zInt h (z0I (by decide))
set_option maxRecDepth 100000 in
set_option maxHeartbeats 2000000 in
theorem zc_29 (h1 : va_P D vwCl (cW s0 (s0 + 1) (.inr (5, fin_X5 (zG s0 D cy) (s0 + 1))) (es_X5 (zG s0 D cy) (s0 + 1))) H) (h2 : va_P D vwCl (cW (s0 + 1067) (s0 + 1068) (.inr (6, fin_X6 (zG s0 D cy) (s0 + 1068))) (es_X6 (zG s0 D cy) (s0 + 1068))) H) : va_at D vwCl ((zG s0 D cy).1 29, ent (zG s0 D cy) z0 29) H := by
  have h := h1 20 (s0 + 20, (.inl (cy 1, (6, .inl (fun _ => 0))))) ((cW_at (i := 19) (by simp only [es_X5, es_X2, es_X0, es_X1, es_X3, es_X4, List.getElem?_append, List.getElem?_replicate, List.getElem?_cons, List.length_append, List.length_cons, List.length_nil, List.length_replicate, es_X5_len, es_X2_len, es_X0_len, es_X1_len, es_X3_len, es_X4_len, es_X6_len] <;> rfl)).trans (by rw [show s0 + 1 + 19 = s0 + 20 by omega]))
  rw [ent_int (by decide)]
  exact zInt h (z0I (by decide))
set_option maxRecDepth 100000 in
set_option maxHeartbeats 2000000 in
theorem zc_30 (h1 : va_P D vwCl (cW s0 (s0 + 1) (.inr (5, fin_X5 (zG s0 D cy) (s0 + 1))) (es_X5 (zG s0 D cy) (s0 + 1))) H) (h2 : va_P D vwCl (cW (s0 + 1067) (s0 + 1068) (.inr (6, fin_X6 (zG s0 D cy) (s0 + 1068))) (es_X6 (zG s0 D cy) (s0 + 1068))) H) : va_at D vwCl ((zG s0 D cy).1 30, ent (zG s0 D cy) z0 30) H := by
  have h := h1 21 (s0 + 21, (.inl (cy 1, (6, .inl (fun _ => 0))))) ((cW_at (i := 20) (by simp only [es_X5, es_X2, es_X0, es_X1, es_X3, es_X4, List.getElem?_append, List.getElem?_replicate, List.getElem?_cons, List.length_append, List.length_cons, List.length_nil, List.length_replicate, es_X5_len, es_X2_len, es_X0_len, es_X1_len, es_X3_len, es_X4_len, es_X6_len] <;> rfl)).trans (by rw [show s0 + 1 + 20 = s0 + 21 by omega]))
  rw [ent_int (by decide)]
  exact zInt h (z0I (by decide))
set_option maxRecDepth 100000 in
set_option maxHeartbeats 2000000 in
theorem zc_31 (h1 : va_P D vwCl (cW s0 (s0 + 1) (.inr (5, fin_X5 (zG s0 D cy) (s0 + 1))) (es_X5 (zG s0 D cy) (s0 + 1))) H) (h2 : va_P D vwCl (cW (s0 + 1067) (s0 + 1068) (.inr (6, fin_X6 (zG s0 D cy) (s0 + 1068))) (es_X6 (zG s0 D cy) (s0 + 1068))) H) : va_at D vwCl ((zG s0 D cy).1 31, ent (zG s0 D cy) z0 31) H := by
  have h := h1 22 (s0 + 22, (.inl (cy 1, (6, .inl (fun _ => 0))))) ((cW_at (i := 21) (by simp only [es_X5, es_X2, es_X0, es_X1, es_X3, es_X4, List.getElem?_append, List.getElem?_replicate, List.getElem?_cons, List.length_append, List.length_cons, List.length_nil, List.length_replicate, es_X5_len, es_X2_len, es_X0_len, es_X1_len, es_X3_len, es_X4_len, es_X6_len] <;> rfl)).trans (by rw [show s0 + 1 + 21 = s0 + 22 by omega]))
  rw [ent_int (by decide)]
  exact zInt h (z0I (by decide))
set_option maxRecDepth 100000 in
set_option maxHeartbeats 2000000 in
theorem zc_32 (h1 : va_P D vwCl (cW s0 (s0 + 1) (.inr (5, fin_X5 (zG s0 D cy) (s0 + 1))) (es_X5 (zG s0 D cy) (s0 + 1))) H) (h2 : va_P D vwCl (cW (s0 + 1067) (s0 + 1068) (.inr (6, fin_X6 (zG s0 D cy) (s0 + 1068))) (es_X6 (zG s0 D cy) (s0 + 1068))) H) : va_at D vwCl ((zG s0 D cy).1 32, ent (zG s0 D cy) z0 32) H := by
  have h := h1 31 (s0 + 31, (.inl (cy 1, (7, .inl (fun _ => 0))))) ((cW_at (i := 30) (by simp only [es_X5, es_X2, es_X0, es_X1, es_X3, es_X4, List.getElem?_append, List.getElem?_replicate, List.getElem?_cons, List.length_append, List.length_cons, List.length_nil, List.length_replicate, es_X5_len, es_X2_len, es_X0_len, es_X1_len, es_X3_len, es_X4_len, es_X6_len] <;> rfl)).trans (by rw [show s0 + 1 + 30 = s0 + 31 by omega]))
  rw [ent_int (by decide)]
  exact zInt h (z0I (by decide))
set_option maxRecDepth 100000 in
set_option maxHeartbeats 2000000 in
theorem zc_33 (h1 : va_P D vwCl (cW s0 (s0 + 1) (.inr (5, fin_X5 (zG s0 D cy) (s0 + 1))) (es_X5 (zG s0 D cy) (s0 + 1))) H) (h2 : va_P D vwCl (cW (s0 + 1067) (s0 + 1068) (.inr (6, fin_X6 (zG s0 D cy) (s0 + 1068))) (es_X6 (zG s0 D cy) (s0 + 1068))) H) : va_at D vwCl ((zG s0 D cy).1 33, ent (zG s0 D cy) z0 33) H := by
  have h := h1 32 (s0 + 32, (.inl (cy 1, (7, .inl (fun _ => 0))))) ((cW_at (i := 31) (by simp only [es_X5, es_X2, es_X0, es_X1, es_X3, es_X4, List.getElem?_append, List.getElem?_replicate, List.getElem?_cons, List.length_append, List.length_cons, List.length_nil, List.length_replicate, es_X5_len, es_X2_len, es_X0_len, es_X1_len, es_X3_len, es_X4_len, es_X6_len] <;> rfl)).trans (by rw [show s0 + 1 + 31 = s0 + 32 by omega]))
  rw [ent_int (by decide)]
  exact zInt h (z0I (by decide))
set_option maxRecDepth 100000 in
set_option maxHeartbeats 2000000 in
theorem zc_34 (h1 : va_P D vwCl (cW s0 (s0 + 1) (.inr (5, fin_X5 (zG s0 D cy) (s0 + 1))) (es_X5 (zG s0 D cy) (s0 + 1))) H) (h2 : va_P D vwCl (cW (s0 + 1067) (s0 + 1068) (.inr (6, fin_X6 (zG s0 D cy) (s0 + 1068))) (es_X6 (zG s0 D cy) (s0 + 1068))) H) : va_at D vwCl ((zG s0 D cy).1 34, ent (zG s0 D cy) z0 34) H := by
  have h := h1 33 (s0 + 33, (.inl (cy 1, (7, .inl (fun _ => 0))))) ((cW_at (i := 32) (by simp only [es_X5, es_X2, es_X0, es_X1, es_X3, es_X4, List.getElem?_append, List.getElem?_replicate, List.getElem?_cons, List.length_append, List.length_cons, List.length_nil, List.length_replicate, es_X5_len, es_X2_len, es_X0_len, es_X1_len, es_X3_len, es_X4_len, es_X6_len] <;> rfl)).trans (by rw [show s0 + 1 + 32 = s0 + 33 by omega]))
  rw [ent_int (by decide)]
  exact zInt h (z0I (by decide))
set_option maxRecDepth 100000 in
set_option maxHeartbeats 2000000 in
theorem zc_35 (h1 : va_P D vwCl (cW s0 (s0 + 1) (.inr (5, fin_X5 (zG s0 D cy) (s0 + 1))) (es_X5 (zG s0 D cy) (s0 + 1))) H) (h2 : va_P D vwCl (cW (s0 + 1067) (s0 + 1068) (.inr (6, fin_X6 (zG s0 D cy) (s0 + 1068))) (es_X6 (zG s0 D cy) (s0 + 1068))) H) : va_at D vwCl ((zG s0 D cy).1 35, ent (zG s0 D cy) z0 35) H := by
  have h := h1 34 (s0 + 34, (.inl (cy 1, (6, .inl (fun _ => 0))))) ((cW_at (i := 33) (by simp only [es_X5, es_X2, es_X0, es_X1, es_X3, es_X4, List.getElem?_append, List.getElem?_replicate, List.getElem?_cons, List.length_append, List.length_cons, List.length_nil, List.length_replicate, es_X5_len, es_X2_len, es_X0_len, es_X1_len, es_X3_len, es_X4_len, es_X6_len] <;> rfl)).trans (by rw [show s0 + 1 + 33 = s0 + 34 by omega]))
  rw [ent_int (by decide)]
  exact zInt h (z0I (by decide))
set_option maxRecDepth 100000 in
set_option maxHeartbeats 2000000 in
theorem zc_36 (h1 : va_P D vwCl (cW s0 (s0 + 1) (.inr (5, fin_X5 (zG s0 D cy) (s0 + 1))) (es_X5 (zG s0 D cy) (s0 + 1))) H) (h2 : va_P D vwCl (cW (s0 + 1067) (s0 + 1068) (.inr (6, fin_X6 (zG s0 D cy) (s0 + 1068))) (es_X6 (zG s0 D cy) (s0 + 1068))) H) : va_at D vwCl ((zG s0 D cy).1 36, ent (zG s0 D cy) z0 36) H := by
  have h := h1 35 (s0 + 35, (.inl (cy 1, (6, .inl (fun _ => 0))))) ((cW_at (i := 34) (by simp only [es_X5, es_X2, es_X0, es_X1, es_X3, es_X4, List.getElem?_append, List.getElem?_replicate, List.getElem?_cons, List.length_append, List.length_cons, List.length_nil, List.length_replicate, es_X5_len, es_X2_len, es_X0_len, es_X1_len, es_X3_len, es_X4_len, es_X6_len] <;> rfl)).trans (by rw [show s0 + 1 + 34 = s0 + 35 by omega]))
  rw [ent_int (by decide)]
  exact zInt h (z0I (by decide))
set_option maxRecDepth 100000 in
set_option maxHeartbeats 2000000 in
theorem zc_37 (h1 : va_P D vwCl (cW s0 (s0 + 1) (.inr (5, fin_X5 (zG s0 D cy) (s0 + 1))) (es_X5 (zG s0 D cy) (s0 + 1))) H) (h2 : va_P D vwCl (cW (s0 + 1067) (s0 + 1068) (.inr (6, fin_X6 (zG s0 D cy) (s0 + 1068))) (es_X6 (zG s0 D cy) (s0 + 1068))) H) : va_at D vwCl ((zG s0 D cy).1 37, ent (zG s0 D cy) z0 37) H := by
  have h := h1 36 (s0 + 36, (.inl (cy 1, (6, .inl (fun _ => 0))))) ((cW_at (i := 35) (by simp only [es_X5, es_X2, es_X0, es_X1, es_X3, es_X4, List.getElem?_append, List.getElem?_replicate, List.getElem?_cons, List.length_append, List.length_cons, List.length_nil, List.length_replicate, es_X5_len, es_X2_len, es_X0_len, es_X1_len, es_X3_len, es_X4_len, es_X6_len] <;> rfl)).trans (by rw [show s0 + 1 + 35 = s0 + 36 by omega]))
  rw [ent_int (by decide)]
  exact zInt h (z0I (by decide))
set_option maxRecDepth 100000 in
set_option maxHeartbeats 2000000 in
theorem zc_38 (h1 : va_P D vwCl (cW s0 (s0 + 1) (.inr (5, fin_X5 (zG s0 D cy) (s0 + 1))) (es_X5 (zG s0 D cy) (s0 + 1))) H) (h2 : va_P D vwCl (cW (s0 + 1067) (s0 + 1068) (.inr (6, fin_X6 (zG s0 D cy) (s0 + 1068))) (es_X6 (zG s0 D cy) (s0 + 1068))) H) : va_at D vwCl ((zG s0 D cy).1 38, ent (zG s0 D cy) z0 38) H := by
  have h := h1 9 (s0 + 9, (.inl (cy 1, (7, .inl (fun _ => 0))))) ((cW_at (i := 8) (by simp only [es_X5, es_X2, es_X0, es_X1, es_X3, es_X4, List.getElem?_append, List.getElem?_replicate, List.getElem?_cons, List.length_append, List.length_cons, List.length_nil, List.length_replicate, es_X5_len, es_X2_len, es_X0_len, es_X1_len, es_X3_len, es_X4_len, es_X6_len] <;> rfl)).trans (by rw [show s0 + 1 + 8 = s0 + 9 by omega]))
  rw [ent_int (by decide)]
  exact zInt h (z0I (by decide))
set_option maxRecDepth 100000 in
set_option maxHeartbeats 2000000 in
theorem zc_39 (h1 : va_P D vwCl (cW s0 (s0 + 1) (.inr (5, fin_X5 (zG s0 D cy) (s0 + 1))) (es_X5 (zG s0 D cy) (s0 + 1))) H) (h2 : va_P D vwCl (cW (s0 + 1067) (s0 + 1068) (.inr (6, fin_X6 (zG s0 D cy) (s0 + 1068))) (es_X6 (zG s0 D cy) (s0 + 1068))) H) : va_at D vwCl ((zG s0 D cy).1 39, ent (zG s0 D cy) z0 39) H := by
  have h := h1 10 (s0 + 10, (.inl (cy 1, (7, .inl (fun _ => 0))))) ((cW_at (i := 9) (by simp only [es_X5, es_X2, es_X0, es_X1, es_X3, es_X4, List.getElem?_append, List.getElem?_replicate, List.getElem?_cons, List.length_append, List.length_cons, List.length_nil, List.length_replicate, es_X5_len, es_X2_len, es_X0_len, es_X1_len, es_X3_len, es_X4_len, es_X6_len] <;> rfl)).trans (by rw [show s0 + 1 + 9 = s0 + 10 by omega]))
  rw [ent_int (by decide)]
  exact zInt h (z0I (by decide))
set_option maxRecDepth 100000 in
set_option maxHeartbeats 2000000 in
theorem zc_40 (h1 : va_P D vwCl (cW s0 (s0 + 1) (.inr (5, fin_X5 (zG s0 D cy) (s0 + 1))) (es_X5 (zG s0 D cy) (s0 + 1))) H) (h2 : va_P D vwCl (cW (s0 + 1067) (s0 + 1068) (.inr (6, fin_X6 (zG s0 D cy) (s0 + 1068))) (es_X6 (zG s0 D cy) (s0 + 1068))) H) : va_at D vwCl ((zG s0 D cy).1 40, ent (zG s0 D cy) z0 40) H := by
  have h := h1 11 (s0 + 11, (.inl (cy 1, (7, .inl (fun _ => 0))))) ((cW_at (i := 10) (by simp only [es_X5, es_X2, es_X0, es_X1, es_X3, es_X4, List.getElem?_append, List.getElem?_replicate, List.getElem?_cons, List.length_append, List.length_cons, List.length_nil, List.length_replicate, es_X5_len, es_X2_len, es_X0_len, es_X1_len, es_X3_len, es_X4_len, es_X6_len] <;> rfl)).trans (by rw [show s0 + 1 + 10 = s0 + 11 by omega]))
  rw [ent_int (by decide)]
  exact zInt h (z0I (by decide))
set_option maxRecDepth 100000 in
set_option maxHeartbeats 2000000 in
theorem zc_41 (h1 : va_P D vwCl (cW s0 (s0 + 1) (.inr (5, fin_X5 (zG s0 D cy) (s0 + 1))) (es_X5 (zG s0 D cy) (s0 + 1))) H) (h2 : va_P D vwCl (cW (s0 + 1067) (s0 + 1068) (.inr (6, fin_X6 (zG s0 D cy) (s0 + 1068))) (es_X6 (zG s0 D cy) (s0 + 1068))) H) : va_at D vwCl ((zG s0 D cy).1 41, ent (zG s0 D cy) z0 41) H := by
  have h := h1 12 (s0 + 12, (.inl (cy 1, (7, .inl (fun _ => 0))))) ((cW_at (i := 11) (by simp only [es_X5, es_X2, es_X0, es_X1, es_X3, es_X4, List.getElem?_append, List.getElem?_replicate, List.getElem?_cons, List.length_append, List.length_cons, List.length_nil, List.length_replicate, es_X5_len, es_X2_len, es_X0_len, es_X1_len, es_X3_len, es_X4_len, es_X6_len] <;> rfl)).trans (by rw [show s0 + 1 + 11 = s0 + 12 by omega]))
  rw [ent_int (by decide)]
  exact zInt h (z0I (by decide))
set_option maxRecDepth 100000 in
set_option maxHeartbeats 2000000 in
theorem zc_42 (h1 : va_P D vwCl (cW s0 (s0 + 1) (.inr (5, fin_X5 (zG s0 D cy) (s0 + 1))) (es_X5 (zG s0 D cy) (s0 + 1))) H) (h2 : va_P D vwCl (cW (s0 + 1067) (s0 + 1068) (.inr (6, fin_X6 (zG s0 D cy) (s0 + 1068))) (es_X6 (zG s0 D cy) (s0 + 1068))) H) : va_at D vwCl ((zG s0 D cy).1 42, ent (zG s0 D cy) z0 42) H := by
  have h := h1 13 (s0 + 13, (.inl (cy 1, (7, .inl (fun _ => 0))))) ((cW_at (i := 12) (by simp only [es_X5, es_X2, es_X0, es_X1, es_X3, es_X4, List.getElem?_append, List.getElem?_replicate, List.getElem?_cons, List.length_append, List.length_cons, List.length_nil, List.length_replicate, es_X5_len, es_X2_len, es_X0_len, es_X1_len, es_X3_len, es_X4_len, es_X6_len] <;> rfl)).trans (by rw [show s0 + 1 + 12 = s0 + 13 by omega]))
  rw [ent_int (by decide)]
  exact zInt h (z0I (by decide))
set_option maxRecDepth 100000 in
set_option maxHeartbeats 2000000 in
theorem zc_43 (h1 : va_P D vwCl (cW s0 (s0 + 1) (.inr (5, fin_X5 (zG s0 D cy) (s0 + 1))) (es_X5 (zG s0 D cy) (s0 + 1))) H) (h2 : va_P D vwCl (cW (s0 + 1067) (s0 + 1068) (.inr (6, fin_X6 (zG s0 D cy) (s0 + 1068))) (es_X6 (zG s0 D cy) (s0 + 1068))) H) : va_at D vwCl ((zG s0 D cy).1 43, ent (zG s0 D cy) z0 43) H := by
  have h := h1 14 (s0 + 14, (.inl (cy 1, (7, .inl (fun _ => 0))))) ((cW_at (i := 13) (by simp only [es_X5, es_X2, es_X0, es_X1, es_X3, es_X4, List.getElem?_append, List.getElem?_replicate, List.getElem?_cons, List.length_append, List.length_cons, List.length_nil, List.length_replicate, es_X5_len, es_X2_len, es_X0_len, es_X1_len, es_X3_len, es_X4_len, es_X6_len] <;> rfl)).trans (by rw [show s0 + 1 + 13 = s0 + 14 by omega]))
  rw [ent_int (by decide)]
  exact zInt h (z0I (by decide))
set_option maxRecDepth 100000 in
set_option maxHeartbeats 2000000 in
theorem zc_44 (h1 : va_P D vwCl (cW s0 (s0 + 1) (.inr (5, fin_X5 (zG s0 D cy) (s0 + 1))) (es_X5 (zG s0 D cy) (s0 + 1))) H) (h2 : va_P D vwCl (cW (s0 + 1067) (s0 + 1068) (.inr (6, fin_X6 (zG s0 D cy) (s0 + 1068))) (es_X6 (zG s0 D cy) (s0 + 1068))) H) : va_at D vwCl ((zG s0 D cy).1 44, ent (zG s0 D cy) z0 44) H := by
  have h := h1 24 (s0 + 24, (.inl (cy 1, (7, .inl (fun _ => 0))))) ((cW_at (i := 23) (by simp only [es_X5, es_X2, es_X0, es_X1, es_X3, es_X4, List.getElem?_append, List.getElem?_replicate, List.getElem?_cons, List.length_append, List.length_cons, List.length_nil, List.length_replicate, es_X5_len, es_X2_len, es_X0_len, es_X1_len, es_X3_len, es_X4_len, es_X6_len] <;> rfl)).trans (by rw [show s0 + 1 + 23 = s0 + 24 by omega]))
  rw [ent_int (by decide)]
  exact zInt h (z0I (by decide))
set_option maxRecDepth 100000 in
set_option maxHeartbeats 2000000 in
theorem zc_45 (h1 : va_P D vwCl (cW s0 (s0 + 1) (.inr (5, fin_X5 (zG s0 D cy) (s0 + 1))) (es_X5 (zG s0 D cy) (s0 + 1))) H) (h2 : va_P D vwCl (cW (s0 + 1067) (s0 + 1068) (.inr (6, fin_X6 (zG s0 D cy) (s0 + 1068))) (es_X6 (zG s0 D cy) (s0 + 1068))) H) : va_at D vwCl ((zG s0 D cy).1 45, ent (zG s0 D cy) z0 45) H := by
  have h := h1 25 (s0 + 25, (.inl (cy 1, (7, .inl (fun _ => 0))))) ((cW_at (i := 24) (by simp only [es_X5, es_X2, es_X0, es_X1, es_X3, es_X4, List.getElem?_append, List.getElem?_replicate, List.getElem?_cons, List.length_append, List.length_cons, List.length_nil, List.length_replicate, es_X5_len, es_X2_len, es_X0_len, es_X1_len, es_X3_len, es_X4_len, es_X6_len] <;> rfl)).trans (by rw [show s0 + 1 + 24 = s0 + 25 by omega]))
  rw [ent_int (by decide)]
  exact zInt h (z0I (by decide))
set_option maxRecDepth 100000 in
set_option maxHeartbeats 2000000 in
theorem zc_46 (h1 : va_P D vwCl (cW s0 (s0 + 1) (.inr (5, fin_X5 (zG s0 D cy) (s0 + 1))) (es_X5 (zG s0 D cy) (s0 + 1))) H) (h2 : va_P D vwCl (cW (s0 + 1067) (s0 + 1068) (.inr (6, fin_X6 (zG s0 D cy) (s0 + 1068))) (es_X6 (zG s0 D cy) (s0 + 1068))) H) : va_at D vwCl ((zG s0 D cy).1 46, ent (zG s0 D cy) z0 46) H := by
  have h := h1 26 (s0 + 26, (.inl (cy 1, (7, .inl (fun _ => 0))))) ((cW_at (i := 25) (by simp only [es_X5, es_X2, es_X0, es_X1, es_X3, es_X4, List.getElem?_append, List.getElem?_replicate, List.getElem?_cons, List.length_append, List.length_cons, List.length_nil, List.length_replicate, es_X5_len, es_X2_len, es_X0_len, es_X1_len, es_X3_len, es_X4_len, es_X6_len] <;> rfl)).trans (by rw [show s0 + 1 + 25 = s0 + 26 by omega]))
  rw [ent_int (by decide)]
  exact zInt h (z0I (by decide))
set_option maxRecDepth 100000 in
set_option maxHeartbeats 2000000 in
theorem zc_47 (h1 : va_P D vwCl (cW s0 (s0 + 1) (.inr (5, fin_X5 (zG s0 D cy) (s0 + 1))) (es_X5 (zG s0 D cy) (s0 + 1))) H) (h2 : va_P D vwCl (cW (s0 + 1067) (s0 + 1068) (.inr (6, fin_X6 (zG s0 D cy) (s0 + 1068))) (es_X6 (zG s0 D cy) (s0 + 1068))) H) : va_at D vwCl ((zG s0 D cy).1 47, ent (zG s0 D cy) z0 47) H := by
  have h := h1 27 (s0 + 27, (.inl (cy 1, (7, .inl (fun _ => 0))))) ((cW_at (i := 26) (by simp only [es_X5, es_X2, es_X0, es_X1, es_X3, es_X4, List.getElem?_append, List.getElem?_replicate, List.getElem?_cons, List.length_append, List.length_cons, List.length_nil, List.length_replicate, es_X5_len, es_X2_len, es_X0_len, es_X1_len, es_X3_len, es_X4_len, es_X6_len] <;> rfl)).trans (by rw [show s0 + 1 + 26 = s0 + 27 by omega]))
  rw [ent_int (by decide)]
  exact zInt h (z0I (by decide))
set_option maxRecDepth 100000 in
set_option maxHeartbeats 2000000 in
theorem zc_48 (h1 : va_P D vwCl (cW s0 (s0 + 1) (.inr (5, fin_X5 (zG s0 D cy) (s0 + 1))) (es_X5 (zG s0 D cy) (s0 + 1))) H) (h2 : va_P D vwCl (cW (s0 + 1067) (s0 + 1068) (.inr (6, fin_X6 (zG s0 D cy) (s0 + 1068))) (es_X6 (zG s0 D cy) (s0 + 1068))) H) : va_at D vwCl ((zG s0 D cy).1 48, ent (zG s0 D cy) z0 48) H := by
  have h := h1 28 (s0 + 28, (.inl (cy 1, (7, .inl (fun _ => 0))))) ((cW_at (i := 27) (by simp only [es_X5, es_X2, es_X0, es_X1, es_X3, es_X4, List.getElem?_append, List.getElem?_replicate, List.getElem?_cons, List.length_append, List.length_cons, List.length_nil, List.length_replicate, es_X5_len, es_X2_len, es_X0_len, es_X1_len, es_X3_len, es_X4_len, es_X6_len] <;> rfl)).trans (by rw [show s0 + 1 + 27 = s0 + 28 by omega]))
  rw [ent_int (by decide)]
  exact zInt h (z0I (by decide))
set_option maxRecDepth 100000 in
set_option maxHeartbeats 2000000 in
theorem zc_49 (h1 : va_P D vwCl (cW s0 (s0 + 1) (.inr (5, fin_X5 (zG s0 D cy) (s0 + 1))) (es_X5 (zG s0 D cy) (s0 + 1))) H) (h2 : va_P D vwCl (cW (s0 + 1067) (s0 + 1068) (.inr (6, fin_X6 (zG s0 D cy) (s0 + 1068))) (es_X6 (zG s0 D cy) (s0 + 1068))) H) : va_at D vwCl ((zG s0 D cy).1 49, ent (zG s0 D cy) z0 49) H := by
  have h := h1 29 (s0 + 29, (.inl (cy 1, (7, .inl (fun _ => 0))))) ((cW_at (i := 28) (by simp only [es_X5, es_X2, es_X0, es_X1, es_X3, es_X4, List.getElem?_append, List.getElem?_replicate, List.getElem?_cons, List.length_append, List.length_cons, List.length_nil, List.length_replicate, es_X5_len, es_X2_len, es_X0_len, es_X1_len, es_X3_len, es_X4_len, es_X6_len] <;> rfl)).trans (by rw [show s0 + 1 + 28 = s0 + 29 by omega]))
  rw [ent_int (by decide)]
  exact zInt h (z0I (by decide))
set_option maxRecDepth 100000 in
set_option maxHeartbeats 2000000 in
theorem zc_50 (h1 : va_P D vwCl (cW s0 (s0 + 1) (.inr (5, fin_X5 (zG s0 D cy) (s0 + 1))) (es_X5 (zG s0 D cy) (s0 + 1))) H) (h2 : va_P D vwCl (cW (s0 + 1067) (s0 + 1068) (.inr (6, fin_X6 (zG s0 D cy) (s0 + 1068))) (es_X6 (zG s0 D cy) (s0 + 1068))) H) : va_at D vwCl ((zG s0 D cy).1 50, ent (zG s0 D cy) z0 50) H := by
  have h := h1 38 (s0 + 38, (.inl (cy 1, (7, .inl (fun _ => 0))))) ((cW_at (i := 37) (by simp only [es_X5, es_X2, es_X0, es_X1, es_X3, es_X4, List.getElem?_append, List.getElem?_replicate, List.getElem?_cons, List.length_append, List.length_cons, List.length_nil, List.length_replicate, es_X5_len, es_X2_len, es_X0_len, es_X1_len, es_X3_len, es_X4_len, es_X6_len] <;> rfl)).trans (by rw [show s0 + 1 + 37 = s0 + 38 by omega]))
  rw [ent_int (by decide)]
  exact zInt h (z0I (by decide))
set_option maxRecDepth 100000 in
set_option maxHeartbeats 2000000 in
theorem zc_51 (h1 : va_P D vwCl (cW s0 (s0 + 1) (.inr (5, fin_X5 (zG s0 D cy) (s0 + 1))) (es_X5 (zG s0 D cy) (s0 + 1))) H) (h2 : va_P D vwCl (cW (s0 + 1067) (s0 + 1068) (.inr (6, fin_X6 (zG s0 D cy) (s0 + 1068))) (es_X6 (zG s0 D cy) (s0 + 1068))) H) : va_at D vwCl ((zG s0 D cy).1 51, ent (zG s0 D cy) z0 51) H := by
  have h := h1 39 (s0 + 39, (.inl (cy 1, (7, .inl (fun _ => 0))))) ((cW_at (i := 38) (by simp only [es_X5, es_X2, es_X0, es_X1, es_X3, es_X4, List.getElem?_append, List.getElem?_replicate, List.getElem?_cons, List.length_append, List.length_cons, List.length_nil, List.length_replicate, es_X5_len, es_X2_len, es_X0_len, es_X1_len, es_X3_len, es_X4_len, es_X6_len] <;> rfl)).trans (by rw [show s0 + 1 + 38 = s0 + 39 by omega]))
  rw [ent_int (by decide)]
  exact zInt h (z0I (by decide))
set_option maxRecDepth 100000 in
set_option maxHeartbeats 2000000 in
theorem zc_52 (h1 : va_P D vwCl (cW s0 (s0 + 1) (.inr (5, fin_X5 (zG s0 D cy) (s0 + 1))) (es_X5 (zG s0 D cy) (s0 + 1))) H) (h2 : va_P D vwCl (cW (s0 + 1067) (s0 + 1068) (.inr (6, fin_X6 (zG s0 D cy) (s0 + 1068))) (es_X6 (zG s0 D cy) (s0 + 1068))) H) : va_at D vwCl ((zG s0 D cy).1 52, ent (zG s0 D cy) z0 52) H := by
  have h := h1 40 (s0 + 40, (.inl (cy 1, (7, .inl (fun _ => 0))))) ((cW_at (i := 39) (by simp only [es_X5, es_X2, es_X0, es_X1, es_X3, es_X4, List.getElem?_append, List.getElem?_replicate, List.getElem?_cons, List.length_append, List.length_cons, List.length_nil, List.length_replicate, es_X5_len, es_X2_len, es_X0_len, es_X1_len, es_X3_len, es_X4_len, es_X6_len] <;> rfl)).trans (by rw [show s0 + 1 + 39 = s0 + 40 by omega]))
  rw [ent_int (by decide)]
  exact zInt h (z0I (by decide))
set_option maxRecDepth 100000 in
set_option maxHeartbeats 2000000 in
theorem zc_53 (h1 : va_P D vwCl (cW s0 (s0 + 1) (.inr (5, fin_X5 (zG s0 D cy) (s0 + 1))) (es_X5 (zG s0 D cy) (s0 + 1))) H) (h2 : va_P D vwCl (cW (s0 + 1067) (s0 + 1068) (.inr (6, fin_X6 (zG s0 D cy) (s0 + 1068))) (es_X6 (zG s0 D cy) (s0 + 1068))) H) : va_at D vwCl ((zG s0 D cy).1 53, ent (zG s0 D cy) z0 53) H := by
  have h := h1 41 (s0 + 41, (.inl (cy 1, (7, .inl (fun _ => 0))))) ((cW_at (i := 40) (by simp only [es_X5, es_X2, es_X0, es_X1, es_X3, es_X4, List.getElem?_append, List.getElem?_replicate, List.getElem?_cons, List.length_append, List.length_cons, List.length_nil, List.length_replicate, es_X5_len, es_X2_len, es_X0_len, es_X1_len, es_X3_len, es_X4_len, es_X6_len] <;> rfl)).trans (by rw [show s0 + 1 + 40 = s0 + 41 by omega]))
  rw [ent_int (by decide)]
  exact zInt h (z0I (by decide))
set_option maxRecDepth 100000 in
set_option maxHeartbeats 2000000 in
theorem zc_54 (h1 : va_P D vwCl (cW s0 (s0 + 1) (.inr (5, fin_X5 (zG s0 D cy) (s0 + 1))) (es_X5 (zG s0 D cy) (s0 + 1))) H) (h2 : va_P D vwCl (cW (s0 + 1067) (s0 + 1068) (.inr (6, fin_X6 (zG s0 D cy) (s0 + 1068))) (es_X6 (zG s0 D cy) (s0 + 1068))) H) : va_at D vwCl ((zG s0 D cy).1 54, ent (zG s0 D cy) z0 54) H := by
  have h := h1 42 (s0 + 42, (.inl (cy 1, (7, .inl (fun _ => 0))))) ((cW_at (i := 41) (by simp only [es_X5, es_X2, es_X0, es_X1, es_X3, es_X4, List.getElem?_append, List.getElem?_replicate, List.getElem?_cons, List.length_append, List.length_cons, List.length_nil, List.length_replicate, es_X5_len, es_X2_len, es_X0_len, es_X1_len, es_X3_len, es_X4_len, es_X6_len] <;> rfl)).trans (by rw [show s0 + 1 + 41 = s0 + 42 by omega]))
  rw [ent_int (by decide)]
  exact zInt h (z0I (by decide))
set_option maxRecDepth 100000 in
set_option maxHeartbeats 2000000 in
theorem zc_55 (h1 : va_P D vwCl (cW s0 (s0 + 1) (.inr (5, fin_X5 (zG s0 D cy) (s0 + 1))) (es_X5 (zG s0 D cy) (s0 + 1))) H) (h2 : va_P D vwCl (cW (s0 + 1067) (s0 + 1068) (.inr (6, fin_X6 (zG s0 D cy) (s0 + 1068))) (es_X6 (zG s0 D cy) (s0 + 1068))) H) : va_at D vwCl ((zG s0 D cy).1 55, ent (zG s0 D cy) z0 55) H := by
  have h := h1 43 (s0 + 43, (.inl (cy 1, (7, .inl (fun _ => 0))))) ((cW_at (i := 42) (by simp only [es_X5, es_X2, es_X0, es_X1, es_X3, es_X4, List.getElem?_append, List.getElem?_replicate, List.getElem?_cons, List.length_append, List.length_cons, List.length_nil, List.length_replicate, es_X5_len, es_X2_len, es_X0_len, es_X1_len, es_X3_len, es_X4_len, es_X6_len] <;> rfl)).trans (by rw [show s0 + 1 + 42 = s0 + 43 by omega]))
  rw [ent_int (by decide)]
  exact zInt h (z0I (by decide))
set_option maxRecDepth 100000 in
set_option maxHeartbeats 2000000 in
theorem zc_56 (h1 : va_P D vwCl (cW s0 (s0 + 1) (.inr (5, fin_X5 (zG s0 D cy) (s0 + 1))) (es_X5 (zG s0 D cy) (s0 + 1))) H) (h2 : va_P D vwCl (cW (s0 + 1067) (s0 + 1068) (.inr (6, fin_X6 (zG s0 D cy) (s0 + 1068))) (es_X6 (zG s0 D cy) (s0 + 1068))) H) : va_at D vwCl ((zG s0 D cy).1 56, ent (zG s0 D cy) z0 56) H := by
  have h := h1 126 (s0 + 126, (.inl (cy 1, (7, .inl (fun _ => 0))))) ((cW_at (i := 125) (by simp only [es_X5, es_X2, es_X0, es_X1, es_X3, es_X4, List.getElem?_append, List.getElem?_replicate, List.getElem?_cons, List.length_append, List.length_cons, List.length_nil, List.length_replicate, es_X5_len, es_X2_len, es_X0_len, es_X1_len, es_X3_len, es_X4_len, es_X6_len] <;> rfl)).trans (by rw [show s0 + 1 + 125 = s0 + 126 by omega]))
  rw [ent_int (by decide)]
  exact zInt h (z0I (by decide))
set_option maxRecDepth 100000 in
set_option maxHeartbeats 2000000 in
theorem zc_57 (h1 : va_P D vwCl (cW s0 (s0 + 1) (.inr (5, fin_X5 (zG s0 D cy) (s0 + 1))) (es_X5 (zG s0 D cy) (s0 + 1))) H) (h2 : va_P D vwCl (cW (s0 + 1067) (s0 + 1068) (.inr (6, fin_X6 (zG s0 D cy) (s0 + 1068))) (es_X6 (zG s0 D cy) (s0 + 1068))) H) : va_at D vwCl ((zG s0 D cy).1 57, ent (zG s0 D cy) z0 57) H := by
  have h := h1 128 (s0 + 128, (.inl (cy 1, (7, .inl (fun _ => 0))))) ((cW_at (i := 127) (by simp only [es_X5, es_X2, es_X0, es_X1, es_X3, es_X4, List.getElem?_append, List.getElem?_replicate, List.getElem?_cons, List.length_append, List.length_cons, List.length_nil, List.length_replicate, es_X5_len, es_X2_len, es_X0_len, es_X1_len, es_X3_len, es_X4_len, es_X6_len] <;> rfl)).trans (by rw [show s0 + 1 + 127 = s0 + 128 by omega]))
  rw [ent_int (by decide)]
  exact zInt h (z0I (by decide))
set_option maxRecDepth 100000 in
set_option maxHeartbeats 2000000 in
theorem zc_58 (h1 : va_P D vwCl (cW s0 (s0 + 1) (.inr (5, fin_X5 (zG s0 D cy) (s0 + 1))) (es_X5 (zG s0 D cy) (s0 + 1))) H) (h2 : va_P D vwCl (cW (s0 + 1067) (s0 + 1068) (.inr (6, fin_X6 (zG s0 D cy) (s0 + 1068))) (es_X6 (zG s0 D cy) (s0 + 1068))) H) : va_at D vwCl ((zG s0 D cy).1 58, ent (zG s0 D cy) z0 58) H := by
  have h := h1 129 (s0 + 129, (.inl (cy 1, (7, .inl (fun _ => 0))))) ((cW_at (i := 128) (by simp only [es_X5, es_X2, es_X0, es_X1, es_X3, es_X4, List.getElem?_append, List.getElem?_replicate, List.getElem?_cons, List.length_append, List.length_cons, List.length_nil, List.length_replicate, es_X5_len, es_X2_len, es_X0_len, es_X1_len, es_X3_len, es_X4_len, es_X6_len] <;> rfl)).trans (by rw [show s0 + 1 + 128 = s0 + 129 by omega]))
  rw [ent_int (by decide)]
  exact zInt h (z0I (by decide))
set_option maxRecDepth 100000 in
set_option maxHeartbeats 2000000 in
theorem zc_59 (h1 : va_P D vwCl (cW s0 (s0 + 1) (.inr (5, fin_X5 (zG s0 D cy) (s0 + 1))) (es_X5 (zG s0 D cy) (s0 + 1))) H) (h2 : va_P D vwCl (cW (s0 + 1067) (s0 + 1068) (.inr (6, fin_X6 (zG s0 D cy) (s0 + 1068))) (es_X6 (zG s0 D cy) (s0 + 1068))) H) : va_at D vwCl ((zG s0 D cy).1 59, ent (zG s0 D cy) z0 59) H := by
  have h := h1 130 (s0 + 130, (.inl (cy 1, (924, .inl (fun _ => 0))))) ((cW_at (i := 129) (by simp only [es_X5, es_X2, es_X0, es_X1, es_X3, es_X4, List.getElem?_append, List.getElem?_replicate, List.getElem?_cons, List.length_append, List.length_cons, List.length_nil, List.length_replicate, es_X5_len, es_X2_len, es_X0_len, es_X1_len, es_X3_len, es_X4_len, es_X6_len] <;> rfl)).trans (by rw [show s0 + 1 + 129 = s0 + 130 by omega]))
  rw [ent_int (by decide)]
  exact zInt h (z0I (by decide))
set_option maxRecDepth 100000 in
set_option maxHeartbeats 2000000 in
theorem zc_60 (h1 : va_P D vwCl (cW s0 (s0 + 1) (.inr (5, fin_X5 (zG s0 D cy) (s0 + 1))) (es_X5 (zG s0 D cy) (s0 + 1))) H) (h2 : va_P D vwCl (cW (s0 + 1067) (s0 + 1068) (.inr (6, fin_X6 (zG s0 D cy) (s0 + 1068))) (es_X6 (zG s0 D cy) (s0 + 1068))) H) : va_at D vwCl ((zG s0 D cy).1 60, ent (zG s0 D cy) z0 60) H := by
  have h := h1 1056 (s0 + 1056, (.inl (cy 1, (6, .inl (fun _ => 0))))) ((cW_at (i := 1055) (by simp only [es_X5, es_X2, es_X0, es_X1, es_X3, es_X4, List.getElem?_append, List.getElem?_replicate, List.getElem?_cons, List.length_append, List.length_cons, List.length_nil, List.length_replicate, es_X5_len, es_X2_len, es_X0_len, es_X1_len, es_X3_len, es_X4_len, es_X6_len] <;> rfl)).trans (by rw [show s0 + 1 + 1055 = s0 + 1056 by omega]))
  rw [ent_int (by decide)]
  exact zInt h (z0I (by decide))
set_option maxRecDepth 100000 in
set_option maxHeartbeats 2000000 in
theorem zc_61 (h1 : va_P D vwCl (cW s0 (s0 + 1) (.inr (5, fin_X5 (zG s0 D cy) (s0 + 1))) (es_X5 (zG s0 D cy) (s0 + 1))) H) (h2 : va_P D vwCl (cW (s0 + 1067) (s0 + 1068) (.inr (6, fin_X6 (zG s0 D cy) (s0 + 1068))) (es_X6 (zG s0 D cy) (s0 + 1068))) H) : va_at D vwCl ((zG s0 D cy).1 61, ent (zG s0 D cy) z0 61) H := by
  have h := h1 1061 (s0 + 1061, (.inl (cy 2, (924, .inr (.inl (fun _ => 0)))))) ((cW_at (i := 1060) (by simp only [es_X5, es_X2, es_X0, es_X1, es_X3, es_X4, List.getElem?_append, List.getElem?_replicate, List.getElem?_cons, List.length_append, List.length_cons, List.length_nil, List.length_replicate, es_X5_len, es_X2_len, es_X0_len, es_X1_len, es_X3_len, es_X4_len, es_X6_len] <;> rfl)).trans (by rw [show s0 + 1 + 1060 = s0 + 1061 by omega]))
  rw [ent_long (by decide)]
  exact zLong h (z0J (by decide))
set_option maxRecDepth 100000 in
set_option maxHeartbeats 2000000 in
theorem zc_62 (h1 : va_P D vwCl (cW s0 (s0 + 1) (.inr (5, fin_X5 (zG s0 D cy) (s0 + 1))) (es_X5 (zG s0 D cy) (s0 + 1))) H) (h2 : va_P D vwCl (cW (s0 + 1067) (s0 + 1068) (.inr (6, fin_X6 (zG s0 D cy) (s0 + 1068))) (es_X6 (zG s0 D cy) (s0 + 1068))) H) : va_at D vwCl ((zG s0 D cy).1 62, ent (zG s0 D cy) z0 62) H := by
  have h := h1 1058 (s0 + 1058, (.inl (cy 2, (924, .inr (.inl (fun _ => 0)))))) ((cW_at (i := 1057) (by simp only [es_X5, es_X2, es_X0, es_X1, es_X3, es_X4, List.getElem?_append, List.getElem?_replicate, List.getElem?_cons, List.length_append, List.length_cons, List.length_nil, List.length_replicate, es_X5_len, es_X2_len, es_X0_len, es_X1_len, es_X3_len, es_X4_len, es_X6_len] <;> rfl)).trans (by rw [show s0 + 1 + 1057 = s0 + 1058 by omega]))
  rw [ent_long (by decide)]
  exact zLong h (z0J (by decide))
set_option maxRecDepth 100000 in
set_option maxHeartbeats 2000000 in
theorem zc_63 (h1 : va_P D vwCl (cW s0 (s0 + 1) (.inr (5, fin_X5 (zG s0 D cy) (s0 + 1))) (es_X5 (zG s0 D cy) (s0 + 1))) H) (h2 : va_P D vwCl (cW (s0 + 1067) (s0 + 1068) (.inr (6, fin_X6 (zG s0 D cy) (s0 + 1068))) (es_X6 (zG s0 D cy) (s0 + 1068))) H) : va_at D vwCl ((zG s0 D cy).1 63, ent (zG s0 D cy) z0 63) H := by
  have h := h1 1059 (s0 + 1059, (.inl (cy 2, (924, .inr (.inl (fun _ => 0)))))) ((cW_at (i := 1058) (by simp only [es_X5, es_X2, es_X0, es_X1, es_X3, es_X4, List.getElem?_append, List.getElem?_replicate, List.getElem?_cons, List.length_append, List.length_cons, List.length_nil, List.length_replicate, es_X5_len, es_X2_len, es_X0_len, es_X1_len, es_X3_len, es_X4_len, es_X6_len] <;> rfl)).trans (by rw [show s0 + 1 + 1058 = s0 + 1059 by omega]))
  rw [ent_long (by decide)]
  exact zLong h (z0J (by decide))
set_option maxRecDepth 100000 in
set_option maxHeartbeats 2000000 in
theorem zc_64 (h1 : va_P D vwCl (cW s0 (s0 + 1) (.inr (5, fin_X5 (zG s0 D cy) (s0 + 1))) (es_X5 (zG s0 D cy) (s0 + 1))) H) (h2 : va_P D vwCl (cW (s0 + 1067) (s0 + 1068) (.inr (6, fin_X6 (zG s0 D cy) (s0 + 1068))) (es_X6 (zG s0 D cy) (s0 + 1068))) H) : va_at D vwCl ((zG s0 D cy).1 64, ent (zG s0 D cy) z0 64) H := by
  have h := h1 1060 (s0 + 1060, (.inl (cy 2, (924, .inr (.inl (fun _ => 0)))))) ((cW_at (i := 1059) (by simp only [es_X5, es_X2, es_X0, es_X1, es_X3, es_X4, List.getElem?_append, List.getElem?_replicate, List.getElem?_cons, List.length_append, List.length_cons, List.length_nil, List.length_replicate, es_X5_len, es_X2_len, es_X0_len, es_X1_len, es_X3_len, es_X4_len, es_X6_len] <;> rfl)).trans (by rw [show s0 + 1 + 1059 = s0 + 1060 by omega]))
  rw [ent_long (by decide)]
  exact zLong h (z0J (by decide))
set_option maxRecDepth 100000 in
set_option maxHeartbeats 2000000 in
theorem zc_1067 (h1 : va_P D vwCl (cW s0 (s0 + 1) (.inr (5, fin_X5 (zG s0 D cy) (s0 + 1))) (es_X5 (zG s0 D cy) (s0 + 1))) H) (h2 : va_P D vwCl (cW (s0 + 1067) (s0 + 1068) (.inr (6, fin_X6 (zG s0 D cy) (s0 + 1068))) (es_X6 (zG s0 D cy) (s0 + 1068))) H) : va_at D vwCl ((zG s0 D cy).1 1067, ent (zG s0 D cy) z0 1067) H := by
  have h := h2 0 _ rfl
  rw [ent_obj (by decide)]
  exact zObj h (by rfl)
set_option maxRecDepth 100000 in
set_option maxHeartbeats 2000000 in
theorem zc_1068 (h1 : va_P D vwCl (cW s0 (s0 + 1) (.inr (5, fin_X5 (zG s0 D cy) (s0 + 1))) (es_X5 (zG s0 D cy) (s0 + 1))) H) (h2 : va_P D vwCl (cW (s0 + 1067) (s0 + 1068) (.inr (6, fin_X6 (zG s0 D cy) (s0 + 1068))) (es_X6 (zG s0 D cy) (s0 + 1068))) H) : va_at D vwCl ((zG s0 D cy).1 1068, ent (zG s0 D cy) z0 1068) H := by
  have h := h2 1 (s0 + 1068, (.inl (cy 1, (7, .inl (fun _ => 0))))) ((cW_at (i := 0) (by simp only [es_X6, List.getElem?_append, List.getElem?_replicate, List.getElem?_cons, List.length_append, List.length_cons, List.length_nil, List.length_replicate, es_X5_len, es_X2_len, es_X0_len, es_X1_len, es_X3_len, es_X4_len, es_X6_len] <;> rfl)).trans (by rw [show s0 + 1068 + 0 = s0 + 1068 by omega]))
  rw [ent_int (by decide)]
  exact zInt h (z0I (by decide))
set_option maxRecDepth 100000 in
set_option maxHeartbeats 2000000 in
theorem zc_1069 (h1 : va_P D vwCl (cW s0 (s0 + 1) (.inr (5, fin_X5 (zG s0 D cy) (s0 + 1))) (es_X5 (zG s0 D cy) (s0 + 1))) H) (h2 : va_P D vwCl (cW (s0 + 1067) (s0 + 1068) (.inr (6, fin_X6 (zG s0 D cy) (s0 + 1068))) (es_X6 (zG s0 D cy) (s0 + 1068))) H) : va_at D vwCl ((zG s0 D cy).1 1069, ent (zG s0 D cy) z0 1069) H := by
  have h := h2 2 (s0 + 1069, (.inl (cy 1, (7, .inl (fun _ => 0))))) ((cW_at (i := 1) (by simp only [es_X6, List.getElem?_append, List.getElem?_replicate, List.getElem?_cons, List.length_append, List.length_cons, List.length_nil, List.length_replicate, es_X5_len, es_X2_len, es_X0_len, es_X1_len, es_X3_len, es_X4_len, es_X6_len] <;> rfl)).trans (by rw [show s0 + 1068 + 1 = s0 + 1069 by omega]))
  rw [ent_int (by decide)]
  exact zInt h (z0I (by decide))
set_option maxRecDepth 100000 in
set_option maxHeartbeats 2000000 in
theorem zc_1070 (h1 : va_P D vwCl (cW s0 (s0 + 1) (.inr (5, fin_X5 (zG s0 D cy) (s0 + 1))) (es_X5 (zG s0 D cy) (s0 + 1))) H) (h2 : va_P D vwCl (cW (s0 + 1067) (s0 + 1068) (.inr (6, fin_X6 (zG s0 D cy) (s0 + 1068))) (es_X6 (zG s0 D cy) (s0 + 1068))) H) : va_at D vwCl ((zG s0 D cy).1 1070, ent (zG s0 D cy) z0 1070) H := by
  have h := h2 3 (s0 + 1070, (.inl (cy 1, (7, .inl (fun _ => 0))))) ((cW_at (i := 2) (by simp only [es_X6, List.getElem?_append, List.getElem?_replicate, List.getElem?_cons, List.length_append, List.length_cons, List.length_nil, List.length_replicate, es_X5_len, es_X2_len, es_X0_len, es_X1_len, es_X3_len, es_X4_len, es_X6_len] <;> rfl)).trans (by rw [show s0 + 1068 + 2 = s0 + 1070 by omega]))
  rw [ent_int (by decide)]
  exact zInt h (z0I (by decide))
set_option maxRecDepth 100000 in
set_option maxHeartbeats 2000000 in
theorem zc_1071 (h1 : va_P D vwCl (cW s0 (s0 + 1) (.inr (5, fin_X5 (zG s0 D cy) (s0 + 1))) (es_X5 (zG s0 D cy) (s0 + 1))) H) (h2 : va_P D vwCl (cW (s0 + 1067) (s0 + 1068) (.inr (6, fin_X6 (zG s0 D cy) (s0 + 1068))) (es_X6 (zG s0 D cy) (s0 + 1068))) H) : va_at D vwCl ((zG s0 D cy).1 1071, ent (zG s0 D cy) z0 1071) H := by
  have h := h2 4 (s0 + 1071, (.inl (cy 1, (6, .inl (fun _ => 0))))) ((cW_at (i := 3) (by simp only [es_X6, List.getElem?_append, List.getElem?_replicate, List.getElem?_cons, List.length_append, List.length_cons, List.length_nil, List.length_replicate, es_X5_len, es_X2_len, es_X0_len, es_X1_len, es_X3_len, es_X4_len, es_X6_len] <;> rfl)).trans (by rw [show s0 + 1068 + 3 = s0 + 1071 by omega]))
  rw [ent_int (by decide)]
  exact zInt h (z0I (by decide))
set_option maxRecDepth 100000 in
set_option maxHeartbeats 2000000 in
theorem zc_1072 (h1 : va_P D vwCl (cW s0 (s0 + 1) (.inr (5, fin_X5 (zG s0 D cy) (s0 + 1))) (es_X5 (zG s0 D cy) (s0 + 1))) H) (h2 : va_P D vwCl (cW (s0 + 1067) (s0 + 1068) (.inr (6, fin_X6 (zG s0 D cy) (s0 + 1068))) (es_X6 (zG s0 D cy) (s0 + 1068))) H) : va_at D vwCl ((zG s0 D cy).1 1072, ent (zG s0 D cy) z0 1072) H := by
  have h := h2 5 (s0 + 1072, (.inl (cy 1, (6, .inl (fun _ => 0))))) ((cW_at (i := 4) (by simp only [es_X6, List.getElem?_append, List.getElem?_replicate, List.getElem?_cons, List.length_append, List.length_cons, List.length_nil, List.length_replicate, es_X5_len, es_X2_len, es_X0_len, es_X1_len, es_X3_len, es_X4_len, es_X6_len] <;> rfl)).trans (by rw [show s0 + 1068 + 4 = s0 + 1072 by omega]))
  rw [ent_int (by decide)]
  exact zInt h (z0I (by decide))
set_option maxRecDepth 100000 in
set_option maxHeartbeats 2000000 in
theorem zc_1073 (h1 : va_P D vwCl (cW s0 (s0 + 1) (.inr (5, fin_X5 (zG s0 D cy) (s0 + 1))) (es_X5 (zG s0 D cy) (s0 + 1))) H) (h2 : va_P D vwCl (cW (s0 + 1067) (s0 + 1068) (.inr (6, fin_X6 (zG s0 D cy) (s0 + 1068))) (es_X6 (zG s0 D cy) (s0 + 1068))) H) : va_at D vwCl ((zG s0 D cy).1 1073, ent (zG s0 D cy) z0 1073) H := by
  have h := h2 6 (s0 + 1073, (.inl (cy 1, (6, .inl (fun _ => 0))))) ((cW_at (i := 5) (by simp only [es_X6, List.getElem?_append, List.getElem?_replicate, List.getElem?_cons, List.length_append, List.length_cons, List.length_nil, List.length_replicate, es_X5_len, es_X2_len, es_X0_len, es_X1_len, es_X3_len, es_X4_len, es_X6_len] <;> rfl)).trans (by rw [show s0 + 1068 + 5 = s0 + 1073 by omega]))
  rw [ent_int (by decide)]
  exact zInt h (z0I (by decide))
set_option maxRecDepth 100000 in
set_option maxHeartbeats 2000000 in
theorem zc_1074 (h1 : va_P D vwCl (cW s0 (s0 + 1) (.inr (5, fin_X5 (zG s0 D cy) (s0 + 1))) (es_X5 (zG s0 D cy) (s0 + 1))) H) (h2 : va_P D vwCl (cW (s0 + 1067) (s0 + 1068) (.inr (6, fin_X6 (zG s0 D cy) (s0 + 1068))) (es_X6 (zG s0 D cy) (s0 + 1068))) H) : va_at D vwCl ((zG s0 D cy).1 1074, ent (zG s0 D cy) z0 1074) H := by
  have h := h2 7 (s0 + 1074, (.inl (cy 1, (42, .inl (fun _ => 0))))) ((cW_at (i := 6) (by simp only [es_X6, List.getElem?_append, List.getElem?_replicate, List.getElem?_cons, List.length_append, List.length_cons, List.length_nil, List.length_replicate, es_X5_len, es_X2_len, es_X0_len, es_X1_len, es_X3_len, es_X4_len, es_X6_len] <;> rfl)).trans (by rw [show s0 + 1068 + 6 = s0 + 1074 by omega]))
  rw [ent_int (by decide)]
  exact zInt h (z0I (by decide))
set_option maxRecDepth 100000 in
set_option maxHeartbeats 2000000 in
theorem zc_1075 (h1 : va_P D vwCl (cW s0 (s0 + 1) (.inr (5, fin_X5 (zG s0 D cy) (s0 + 1))) (es_X5 (zG s0 D cy) (s0 + 1))) H) (h2 : va_P D vwCl (cW (s0 + 1067) (s0 + 1068) (.inr (6, fin_X6 (zG s0 D cy) (s0 + 1068))) (es_X6 (zG s0 D cy) (s0 + 1068))) H) : va_at D vwCl ((zG s0 D cy).1 1075, ent (zG s0 D cy) z0 1075) H := by
  have h := h2 8 (s0 + 1075, (.inl (cy 1, (14, .inl (fun _ => 0))))) ((cW_at (i := 7) (by simp only [es_X6, List.getElem?_append, List.getElem?_replicate, List.getElem?_cons, List.length_append, List.length_cons, List.length_nil, List.length_replicate, es_X5_len, es_X2_len, es_X0_len, es_X1_len, es_X3_len, es_X4_len, es_X6_len] <;> rfl)).trans (by rw [show s0 + 1068 + 7 = s0 + 1075 by omega]))
  rw [ent_int (by decide)]
  exact zInt h (z0I (by decide))
set_option maxRecDepth 100000 in
set_option maxHeartbeats 2000000 in
theorem zc_1076 (h1 : va_P D vwCl (cW s0 (s0 + 1) (.inr (5, fin_X5 (zG s0 D cy) (s0 + 1))) (es_X5 (zG s0 D cy) (s0 + 1))) H) (h2 : va_P D vwCl (cW (s0 + 1067) (s0 + 1068) (.inr (6, fin_X6 (zG s0 D cy) (s0 + 1068))) (es_X6 (zG s0 D cy) (s0 + 1068))) H) : va_at D vwCl ((zG s0 D cy).1 1076, ent (zG s0 D cy) z0 1076) H := by
  have h := h2 9 (s0 + 1076, (.inl (cy 1, (21, .inl (fun _ => 0))))) ((cW_at (i := 8) (by simp only [es_X6, List.getElem?_append, List.getElem?_replicate, List.getElem?_cons, List.length_append, List.length_cons, List.length_nil, List.length_replicate, es_X5_len, es_X2_len, es_X0_len, es_X1_len, es_X3_len, es_X4_len, es_X6_len] <;> rfl)).trans (by rw [show s0 + 1068 + 8 = s0 + 1076 by omega]))
  rw [ent_int (by decide)]
  exact zInt h (z0I (by decide))
set_option maxRecDepth 100000 in
set_option maxHeartbeats 2000000 in
theorem zc_1077 (h1 : va_P D vwCl (cW s0 (s0 + 1) (.inr (5, fin_X5 (zG s0 D cy) (s0 + 1))) (es_X5 (zG s0 D cy) (s0 + 1))) H) (h2 : va_P D vwCl (cW (s0 + 1067) (s0 + 1068) (.inr (6, fin_X6 (zG s0 D cy) (s0 + 1068))) (es_X6 (zG s0 D cy) (s0 + 1068))) H) : va_at D vwCl ((zG s0 D cy).1 1077, ent (zG s0 D cy) z0 1077) H := by
  have h := h2 10 (s0 + 1077, (.inl (cy 2, (252, .inr (.inl (fun _ => 0)))))) ((cW_at (i := 9) (by simp only [es_X6, List.getElem?_append, List.getElem?_replicate, List.getElem?_cons, List.length_append, List.length_cons, List.length_nil, List.length_replicate, es_X5_len, es_X2_len, es_X0_len, es_X1_len, es_X3_len, es_X4_len, es_X6_len] <;> rfl)).trans (by rw [show s0 + 1068 + 9 = s0 + 1077 by omega]))
  rw [ent_long (by decide)]
  exact zLong h (z0J (by decide))
set_option maxRecDepth 100000 in
set_option maxHeartbeats 2000000 in
theorem zc_1078 (h1 : va_P D vwCl (cW s0 (s0 + 1) (.inr (5, fin_X5 (zG s0 D cy) (s0 + 1))) (es_X5 (zG s0 D cy) (s0 + 1))) H) (h2 : va_P D vwCl (cW (s0 + 1067) (s0 + 1068) (.inr (6, fin_X6 (zG s0 D cy) (s0 + 1068))) (es_X6 (zG s0 D cy) (s0 + 1068))) H) : va_at D vwCl ((zG s0 D cy).1 1078, ent (zG s0 D cy) z0 1078) H := by
  have h := h2 11 (s0 + 1078, (.inl (cy 2, (252, .inr (.inl (fun _ => 0)))))) ((cW_at (i := 10) (by simp only [es_X6, List.getElem?_append, List.getElem?_replicate, List.getElem?_cons, List.length_append, List.length_cons, List.length_nil, List.length_replicate, es_X5_len, es_X2_len, es_X0_len, es_X1_len, es_X3_len, es_X4_len, es_X6_len] <;> rfl)).trans (by rw [show s0 + 1068 + 10 = s0 + 1078 by omega]))
  rw [ent_long (by decide)]
  exact zLong h (z0J (by decide))
set_option maxRecDepth 100000 in
set_option maxHeartbeats 2000000 in
theorem zc_1079 (h1 : va_P D vwCl (cW s0 (s0 + 1) (.inr (5, fin_X5 (zG s0 D cy) (s0 + 1))) (es_X5 (zG s0 D cy) (s0 + 1))) H) (h2 : va_P D vwCl (cW (s0 + 1067) (s0 + 1068) (.inr (6, fin_X6 (zG s0 D cy) (s0 + 1068))) (es_X6 (zG s0 D cy) (s0 + 1068))) H) : va_at D vwCl ((zG s0 D cy).1 1079, ent (zG s0 D cy) z0 1079) H := by
  have h := h2 12 (s0 + 1079, (.inl (cy 1, (12, .inl (fun _ => 0))))) ((cW_at (i := 11) (by simp only [es_X6, List.getElem?_append, List.getElem?_replicate, List.getElem?_cons, List.length_append, List.length_cons, List.length_nil, List.length_replicate, es_X5_len, es_X2_len, es_X0_len, es_X1_len, es_X3_len, es_X4_len, es_X6_len] <;> rfl)).trans (by rw [show s0 + 1068 + 11 = s0 + 1079 by omega]))
  rw [ent_int (by decide)]
  exact zInt h (z0I (by decide))
set_option maxRecDepth 100000 in
set_option maxHeartbeats 2000000 in
theorem zc_1080 (h1 : va_P D vwCl (cW s0 (s0 + 1) (.inr (5, fin_X5 (zG s0 D cy) (s0 + 1))) (es_X5 (zG s0 D cy) (s0 + 1))) H) (h2 : va_P D vwCl (cW (s0 + 1067) (s0 + 1068) (.inr (6, fin_X6 (zG s0 D cy) (s0 + 1068))) (es_X6 (zG s0 D cy) (s0 + 1068))) H) : va_at D vwCl ((zG s0 D cy).1 1080, ent (zG s0 D cy) z0 1080) H := by
  have h := h2 13 (s0 + 1080, (.inl (cy 1, (924, .inl (fun _ => 0))))) ((cW_at (i := 12) (by simp only [es_X6, List.getElem?_append, List.getElem?_replicate, List.getElem?_cons, List.length_append, List.length_cons, List.length_nil, List.length_replicate, es_X5_len, es_X2_len, es_X0_len, es_X1_len, es_X3_len, es_X4_len, es_X6_len] <;> rfl)).trans (by rw [show s0 + 1068 + 12 = s0 + 1080 by omega]))
  rw [ent_int (by decide)]
  exact zInt h (z0I (by decide))
set_option maxRecDepth 100000 in
set_option maxHeartbeats 2000000 in
theorem zc_1081 (h1 : va_P D vwCl (cW s0 (s0 + 1) (.inr (5, fin_X5 (zG s0 D cy) (s0 + 1))) (es_X5 (zG s0 D cy) (s0 + 1))) H) (h2 : va_P D vwCl (cW (s0 + 1067) (s0 + 1068) (.inr (6, fin_X6 (zG s0 D cy) (s0 + 1068))) (es_X6 (zG s0 D cy) (s0 + 1068))) H) : va_at D vwCl ((zG s0 D cy).1 1081, ent (zG s0 D cy) z0 1081) H := by
  have h := h2 14 (s0 + 1081, (.inl (cy 2, (11088, .inr (.inl (fun _ => 0)))))) ((cW_at (i := 13) (by simp only [es_X6, List.getElem?_append, List.getElem?_replicate, List.getElem?_cons, List.length_append, List.length_cons, List.length_nil, List.length_replicate, es_X5_len, es_X2_len, es_X0_len, es_X1_len, es_X3_len, es_X4_len, es_X6_len] <;> rfl)).trans (by rw [show s0 + 1068 + 13 = s0 + 1081 by omega]))
  rw [ent_long (by decide)]
  exact zLong h (z0J (by decide))
set_option maxRecDepth 100000 in
set_option maxHeartbeats 2000000 in
theorem zc_1082 (h1 : va_P D vwCl (cW s0 (s0 + 1) (.inr (5, fin_X5 (zG s0 D cy) (s0 + 1))) (es_X5 (zG s0 D cy) (s0 + 1))) H) (h2 : va_P D vwCl (cW (s0 + 1067) (s0 + 1068) (.inr (6, fin_X6 (zG s0 D cy) (s0 + 1068))) (es_X6 (zG s0 D cy) (s0 + 1068))) H) : va_at D vwCl ((zG s0 D cy).1 1082, ent (zG s0 D cy) z0 1082) H := by
  have h := h2 15 (s0 + 1082, (.inl (cy 3, (4096, .inl (fun _ => 0))))) ((cW_at (i := 14) (by simp only [es_X6, List.getElem?_append, List.getElem?_replicate, List.getElem?_cons, List.length_append, List.length_cons, List.length_nil, List.length_replicate, es_X5_len, es_X2_len, es_X0_len, es_X1_len, es_X3_len, es_X4_len, es_X6_len] <;> rfl)).trans (by rw [show s0 + 1068 + 14 = s0 + 1082 by omega]))
  rw [ent_bool (by decide)]
  exact zInt h (z0I (by decide))
set_option maxRecDepth 100000 in
set_option maxHeartbeats 2000000 in
theorem zc_1083 (h1 : va_P D vwCl (cW s0 (s0 + 1) (.inr (5, fin_X5 (zG s0 D cy) (s0 + 1))) (es_X5 (zG s0 D cy) (s0 + 1))) H) (h2 : va_P D vwCl (cW (s0 + 1067) (s0 + 1068) (.inr (6, fin_X6 (zG s0 D cy) (s0 + 1068))) (es_X6 (zG s0 D cy) (s0 + 1068))) H) : va_at D vwCl ((zG s0 D cy).1 1083, ent (zG s0 D cy) z0 1083) H := by
  have h := h2 16 (s0 + 1083, (.inl (cy 1, (13, .inl (fun _ => 0))))) ((cW_at (i := 15) (by simp only [es_X6, List.getElem?_append, List.getElem?_replicate, List.getElem?_cons, List.length_append, List.length_cons, List.length_nil, List.length_replicate, es_X5_len, es_X2_len, es_X0_len, es_X1_len, es_X3_len, es_X4_len, es_X6_len] <;> rfl)).trans (by rw [show s0 + 1068 + 15 = s0 + 1083 by omega]))
  rw [ent_int (by decide)]
  exact zInt h (z0I (by decide))
set_option maxRecDepth 100000 in
set_option maxHeartbeats 2000000 in
theorem zc_1084 (h1 : va_P D vwCl (cW s0 (s0 + 1) (.inr (5, fin_X5 (zG s0 D cy) (s0 + 1))) (es_X5 (zG s0 D cy) (s0 + 1))) H) (h2 : va_P D vwCl (cW (s0 + 1067) (s0 + 1068) (.inr (6, fin_X6 (zG s0 D cy) (s0 + 1068))) (es_X6 (zG s0 D cy) (s0 + 1068))) H) : va_at D vwCl ((zG s0 D cy).1 1084, ent (zG s0 D cy) z0 1084) H := by
  have h := h2 17 (s0 + 1084, (.inl (cy 2, (21, .inr (.inl (fun _ => 0)))))) ((cW_at (i := 16) (by simp only [es_X6, List.getElem?_append, List.getElem?_replicate, List.getElem?_cons, List.length_append, List.length_cons, List.length_nil, List.length_replicate, es_X5_len, es_X2_len, es_X0_len, es_X1_len, es_X3_len, es_X4_len, es_X6_len] <;> rfl)).trans (by rw [show s0 + 1068 + 16 = s0 + 1084 by omega]))
  rw [ent_long (by decide)]
  exact zLong h (z0J (by decide))
set_option maxRecDepth 100000 in
set_option maxHeartbeats 2000000 in
theorem zc_1085 (h1 : va_P D vwCl (cW s0 (s0 + 1) (.inr (5, fin_X5 (zG s0 D cy) (s0 + 1))) (es_X5 (zG s0 D cy) (s0 + 1))) H) (h2 : va_P D vwCl (cW (s0 + 1067) (s0 + 1068) (.inr (6, fin_X6 (zG s0 D cy) (s0 + 1068))) (es_X6 (zG s0 D cy) (s0 + 1068))) H) : va_at D vwCl ((zG s0 D cy).1 1085, ent (zG s0 D cy) z0 1085) H := by
  have h := h2 18 (s0 + 1085, (.inl (cy 2, (12, .inr (.inl (fun _ => 0)))))) ((cW_at (i := 17) (by simp only [es_X6, List.getElem?_append, List.getElem?_replicate, List.getElem?_cons, List.length_append, List.length_cons, List.length_nil, List.length_replicate, es_X5_len, es_X2_len, es_X0_len, es_X1_len, es_X3_len, es_X4_len, es_X6_len] <;> rfl)).trans (by rw [show s0 + 1068 + 17 = s0 + 1085 by omega]))
  rw [ent_long (by decide)]
  exact zLong h (z0J (by decide))
set_option maxRecDepth 100000 in
set_option maxHeartbeats 2000000 in
theorem zc_1086 (h1 : va_P D vwCl (cW s0 (s0 + 1) (.inr (5, fin_X5 (zG s0 D cy) (s0 + 1))) (es_X5 (zG s0 D cy) (s0 + 1))) H) (h2 : va_P D vwCl (cW (s0 + 1067) (s0 + 1068) (.inr (6, fin_X6 (zG s0 D cy) (s0 + 1068))) (es_X6 (zG s0 D cy) (s0 + 1068))) H) : va_at D vwCl ((zG s0 D cy).1 1086, ent (zG s0 D cy) z0 1086) H := by
  have h := h2 19 (s0 + 1086, (.inl (cy 2, (3, .inr (.inl (fun _ => 0)))))) ((cW_at (i := 18) (by simp only [es_X6, List.getElem?_append, List.getElem?_replicate, List.getElem?_cons, List.length_append, List.length_cons, List.length_nil, List.length_replicate, es_X5_len, es_X2_len, es_X0_len, es_X1_len, es_X3_len, es_X4_len, es_X6_len] <;> rfl)).trans (by rw [show s0 + 1068 + 18 = s0 + 1086 by omega]))
  rw [ent_long (by decide)]
  exact zLong h (z0J (by decide))
set_option maxRecDepth 100000 in
set_option maxHeartbeats 2000000 in
theorem zc_1087 (h1 : va_P D vwCl (cW s0 (s0 + 1) (.inr (5, fin_X5 (zG s0 D cy) (s0 + 1))) (es_X5 (zG s0 D cy) (s0 + 1))) H) (h2 : va_P D vwCl (cW (s0 + 1067) (s0 + 1068) (.inr (6, fin_X6 (zG s0 D cy) (s0 + 1068))) (es_X6 (zG s0 D cy) (s0 + 1068))) H) : va_at D vwCl ((zG s0 D cy).1 1087, ent (zG s0 D cy) z0 1087) H := by
  have h := h2 20 (s0 + 1087, (.inl (cy 2, (180, .inr (.inl (fun _ => 0)))))) ((cW_at (i := 19) (by simp only [es_X6, List.getElem?_append, List.getElem?_replicate, List.getElem?_cons, List.length_append, List.length_cons, List.length_nil, List.length_replicate, es_X5_len, es_X2_len, es_X0_len, es_X1_len, es_X3_len, es_X4_len, es_X6_len] <;> rfl)).trans (by rw [show s0 + 1068 + 19 = s0 + 1087 by omega]))
  rw [ent_long (by decide)]
  exact zLong h (z0J (by decide))
set_option maxRecDepth 100000 in
set_option maxHeartbeats 2000000 in
theorem zc_1088 (h1 : va_P D vwCl (cW s0 (s0 + 1) (.inr (5, fin_X5 (zG s0 D cy) (s0 + 1))) (es_X5 (zG s0 D cy) (s0 + 1))) H) (h2 : va_P D vwCl (cW (s0 + 1067) (s0 + 1068) (.inr (6, fin_X6 (zG s0 D cy) (s0 + 1068))) (es_X6 (zG s0 D cy) (s0 + 1068))) H) : va_at D vwCl ((zG s0 D cy).1 1088, ent (zG s0 D cy) z0 1088) H := by
  have h := h2 21 (s0 + 1088, (.inl (cy 2, (180, .inr (.inl (fun _ => 0)))))) ((cW_at (i := 20) (by simp only [es_X6, List.getElem?_append, List.getElem?_replicate, List.getElem?_cons, List.length_append, List.length_cons, List.length_nil, List.length_replicate, es_X5_len, es_X2_len, es_X0_len, es_X1_len, es_X3_len, es_X4_len, es_X6_len] <;> rfl)).trans (by rw [show s0 + 1068 + 20 = s0 + 1088 by omega]))
  rw [ent_long (by decide)]
  exact zLong h (z0J (by decide))
set_option maxRecDepth 100000 in
set_option maxHeartbeats 2000000 in
theorem zc_1089 (h1 : va_P D vwCl (cW s0 (s0 + 1) (.inr (5, fin_X5 (zG s0 D cy) (s0 + 1))) (es_X5 (zG s0 D cy) (s0 + 1))) H) (h2 : va_P D vwCl (cW (s0 + 1067) (s0 + 1068) (.inr (6, fin_X6 (zG s0 D cy) (s0 + 1068))) (es_X6 (zG s0 D cy) (s0 + 1068))) H) : va_at D vwCl ((zG s0 D cy).1 1089, ent (zG s0 D cy) z0 1089) H := by
  have h := h2 22 (s0 + 1089, (.inl (cy 1, (15, .inl (fun _ => 0))))) ((cW_at (i := 21) (by simp only [es_X6, List.getElem?_append, List.getElem?_replicate, List.getElem?_cons, List.length_append, List.length_cons, List.length_nil, List.length_replicate, es_X5_len, es_X2_len, es_X0_len, es_X1_len, es_X3_len, es_X4_len, es_X6_len] <;> rfl)).trans (by rw [show s0 + 1068 + 21 = s0 + 1089 by omega]))
  rw [ent_int (by decide)]
  exact zInt h (z0I (by decide))
set_option maxRecDepth 100000 in
set_option maxHeartbeats 2000000 in
theorem zc_1090 (h1 : va_P D vwCl (cW s0 (s0 + 1) (.inr (5, fin_X5 (zG s0 D cy) (s0 + 1))) (es_X5 (zG s0 D cy) (s0 + 1))) H) (h2 : va_P D vwCl (cW (s0 + 1067) (s0 + 1068) (.inr (6, fin_X6 (zG s0 D cy) (s0 + 1068))) (es_X6 (zG s0 D cy) (s0 + 1068))) H) : va_at D vwCl ((zG s0 D cy).1 1090, ent (zG s0 D cy) z0 1090) H := by
  have h := h2 23 (s0 + 1090, (.inl (cy 2, (3, .inr (.inl (fun _ => 0)))))) ((cW_at (i := 22) (by simp only [es_X6, List.getElem?_append, List.getElem?_replicate, List.getElem?_cons, List.length_append, List.length_cons, List.length_nil, List.length_replicate, es_X5_len, es_X2_len, es_X0_len, es_X1_len, es_X3_len, es_X4_len, es_X6_len] <;> rfl)).trans (by rw [show s0 + 1068 + 22 = s0 + 1090 by omega]))
  rw [ent_long (by decide)]
  exact zLong h (z0J (by decide))
set_option maxRecDepth 100000 in
set_option maxHeartbeats 2000000 in
theorem zc_1091 (h1 : va_P D vwCl (cW s0 (s0 + 1) (.inr (5, fin_X5 (zG s0 D cy) (s0 + 1))) (es_X5 (zG s0 D cy) (s0 + 1))) H) (h2 : va_P D vwCl (cW (s0 + 1067) (s0 + 1068) (.inr (6, fin_X6 (zG s0 D cy) (s0 + 1068))) (es_X6 (zG s0 D cy) (s0 + 1068))) H) : va_at D vwCl ((zG s0 D cy).1 1091, ent (zG s0 D cy) z0 1091) H := by
  have h := h2 24 (s0 + 1091, (.inl (cy 1, (12, .inl (fun _ => 0))))) ((cW_at (i := 23) (by simp only [es_X6, List.getElem?_append, List.getElem?_replicate, List.getElem?_cons, List.length_append, List.length_cons, List.length_nil, List.length_replicate, es_X5_len, es_X2_len, es_X0_len, es_X1_len, es_X3_len, es_X4_len, es_X6_len] <;> rfl)).trans (by rw [show s0 + 1068 + 23 = s0 + 1091 by omega]))
  rw [ent_int (by decide)]
  exact zInt h (z0I (by decide))
set_option maxRecDepth 100000 in
set_option maxHeartbeats 2000000 in
theorem zc_1092 (h1 : va_P D vwCl (cW s0 (s0 + 1) (.inr (5, fin_X5 (zG s0 D cy) (s0 + 1))) (es_X5 (zG s0 D cy) (s0 + 1))) H) (h2 : va_P D vwCl (cW (s0 + 1067) (s0 + 1068) (.inr (6, fin_X6 (zG s0 D cy) (s0 + 1068))) (es_X6 (zG s0 D cy) (s0 + 1068))) H) : va_at D vwCl ((zG s0 D cy).1 1092, ent (zG s0 D cy) z0 1092) H := by
  have h := h2 25 (s0 + 1092, (.inl (cy 2, (180, .inr (.inl (fun _ => 0)))))) ((cW_at (i := 24) (by simp only [es_X6, List.getElem?_append, List.getElem?_replicate, List.getElem?_cons, List.length_append, List.length_cons, List.length_nil, List.length_replicate, es_X5_len, es_X2_len, es_X0_len, es_X1_len, es_X3_len, es_X4_len, es_X6_len] <;> rfl)).trans (by rw [show s0 + 1068 + 24 = s0 + 1092 by omega]))
  rw [ent_long (by decide)]
  exact zLong h (z0J (by decide))
set_option maxRecDepth 100000 in
set_option maxHeartbeats 2000000 in
theorem zc_1093 (h1 : va_P D vwCl (cW s0 (s0 + 1) (.inr (5, fin_X5 (zG s0 D cy) (s0 + 1))) (es_X5 (zG s0 D cy) (s0 + 1))) H) (h2 : va_P D vwCl (cW (s0 + 1067) (s0 + 1068) (.inr (6, fin_X6 (zG s0 D cy) (s0 + 1068))) (es_X6 (zG s0 D cy) (s0 + 1068))) H) : va_at D vwCl ((zG s0 D cy).1 1093, ent (zG s0 D cy) z0 1093) H := by
  have h := h2 26 (s0 + 1093, (.inl (cy 2, (15, .inr (.inl (fun _ => 0)))))) ((cW_at (i := 25) (by simp only [es_X6, List.getElem?_append, List.getElem?_replicate, List.getElem?_cons, List.length_append, List.length_cons, List.length_nil, List.length_replicate, es_X5_len, es_X2_len, es_X0_len, es_X1_len, es_X3_len, es_X4_len, es_X6_len] <;> rfl)).trans (by rw [show s0 + 1068 + 25 = s0 + 1093 by omega]))
  rw [ent_long (by decide)]
  exact zLong h (z0J (by decide))
set_option maxRecDepth 100000 in
set_option maxHeartbeats 2000000 in
theorem zc_1094 (h1 : va_P D vwCl (cW s0 (s0 + 1) (.inr (5, fin_X5 (zG s0 D cy) (s0 + 1))) (es_X5 (zG s0 D cy) (s0 + 1))) H) (h2 : va_P D vwCl (cW (s0 + 1067) (s0 + 1068) (.inr (6, fin_X6 (zG s0 D cy) (s0 + 1068))) (es_X6 (zG s0 D cy) (s0 + 1068))) H) : va_at D vwCl ((zG s0 D cy).1 1094, ent (zG s0 D cy) z0 1094) H := by
  have h := h2 27 (s0 + 1094, (.inl (cy 2, (2, .inr (.inl (fun _ => 0)))))) ((cW_at (i := 26) (by simp only [es_X6, List.getElem?_append, List.getElem?_replicate, List.getElem?_cons, List.length_append, List.length_cons, List.length_nil, List.length_replicate, es_X5_len, es_X2_len, es_X0_len, es_X1_len, es_X3_len, es_X4_len, es_X6_len] <;> rfl)).trans (by rw [show s0 + 1068 + 26 = s0 + 1094 by omega]))
  rw [ent_long (by decide)]
  exact zLong h (z0J (by decide))
set_option maxRecDepth 100000 in
set_option maxHeartbeats 2000000 in
theorem zc_1095 (h1 : va_P D vwCl (cW s0 (s0 + 1) (.inr (5, fin_X5 (zG s0 D cy) (s0 + 1))) (es_X5 (zG s0 D cy) (s0 + 1))) H) (h2 : va_P D vwCl (cW (s0 + 1067) (s0 + 1068) (.inr (6, fin_X6 (zG s0 D cy) (s0 + 1068))) (es_X6 (zG s0 D cy) (s0 + 1068))) H) : va_at D vwCl ((zG s0 D cy).1 1095, ent (zG s0 D cy) z0 1095) H := by
  have h := h2 28 (s0 + 1095, (.inl (cy 2, (2, .inr (.inl (fun _ => 0)))))) ((cW_at (i := 27) (by simp only [es_X6, List.getElem?_append, List.getElem?_replicate, List.getElem?_cons, List.length_append, List.length_cons, List.length_nil, List.length_replicate, es_X5_len, es_X2_len, es_X0_len, es_X1_len, es_X3_len, es_X4_len, es_X6_len] <;> rfl)).trans (by rw [show s0 + 1068 + 27 = s0 + 1095 by omega]))
  rw [ent_long (by decide)]
  exact zLong h (z0J (by decide))
set_option maxRecDepth 100000 in
set_option maxHeartbeats 2000000 in
theorem zc_1096 (h1 : va_P D vwCl (cW s0 (s0 + 1) (.inr (5, fin_X5 (zG s0 D cy) (s0 + 1))) (es_X5 (zG s0 D cy) (s0 + 1))) H) (h2 : va_P D vwCl (cW (s0 + 1067) (s0 + 1068) (.inr (6, fin_X6 (zG s0 D cy) (s0 + 1068))) (es_X6 (zG s0 D cy) (s0 + 1068))) H) : va_at D vwCl ((zG s0 D cy).1 1096, ent (zG s0 D cy) z0 1096) H := by
  have h := h2 29 (s0 + 1096, (.inl (cy 3, (3, .inl (fun _ => 0))))) ((cW_at (i := 28) (by simp only [es_X6, List.getElem?_append, List.getElem?_replicate, List.getElem?_cons, List.length_append, List.length_cons, List.length_nil, List.length_replicate, es_X5_len, es_X2_len, es_X0_len, es_X1_len, es_X3_len, es_X4_len, es_X6_len] <;> rfl)).trans (by rw [show s0 + 1068 + 28 = s0 + 1096 by omega]))
  rw [ent_bool (by decide)]
  exact zInt h (z0I (by decide))
set_option maxRecDepth 100000 in
set_option maxHeartbeats 2000000 in
theorem zc_1097 (h1 : va_P D vwCl (cW s0 (s0 + 1) (.inr (5, fin_X5 (zG s0 D cy) (s0 + 1))) (es_X5 (zG s0 D cy) (s0 + 1))) H) (h2 : va_P D vwCl (cW (s0 + 1067) (s0 + 1068) (.inr (6, fin_X6 (zG s0 D cy) (s0 + 1068))) (es_X6 (zG s0 D cy) (s0 + 1068))) H) : va_at D vwCl ((zG s0 D cy).1 1097, ent (zG s0 D cy) z0 1097) H := by
  have h := h2 30 (s0 + 1097, (.inl (cy 1, (3, .inl (fun _ => 0))))) ((cW_at (i := 29) (by simp only [es_X6, List.getElem?_append, List.getElem?_replicate, List.getElem?_cons, List.length_append, List.length_cons, List.length_nil, List.length_replicate, es_X5_len, es_X2_len, es_X0_len, es_X1_len, es_X3_len, es_X4_len, es_X6_len] <;> rfl)).trans (by rw [show s0 + 1068 + 29 = s0 + 1097 by omega]))
  rw [ent_int (by decide)]
  exact zInt h (z0I (by decide))
set_option maxRecDepth 100000 in
set_option maxHeartbeats 2000000 in
theorem zc_1098 (h1 : va_P D vwCl (cW s0 (s0 + 1) (.inr (5, fin_X5 (zG s0 D cy) (s0 + 1))) (es_X5 (zG s0 D cy) (s0 + 1))) H) (h2 : va_P D vwCl (cW (s0 + 1067) (s0 + 1068) (.inr (6, fin_X6 (zG s0 D cy) (s0 + 1068))) (es_X6 (zG s0 D cy) (s0 + 1068))) H) : va_at D vwCl ((zG s0 D cy).1 1098, ent (zG s0 D cy) z0 1098) H := by
  have h := h2 31 (s0 + 1098, (.inl (cy 2, (6, .inr (.inl (fun _ => 0)))))) ((cW_at (i := 30) (by simp only [es_X6, List.getElem?_append, List.getElem?_replicate, List.getElem?_cons, List.length_append, List.length_cons, List.length_nil, List.length_replicate, es_X5_len, es_X2_len, es_X0_len, es_X1_len, es_X3_len, es_X4_len, es_X6_len] <;> rfl)).trans (by rw [show s0 + 1068 + 30 = s0 + 1098 by omega]))
  rw [ent_long (by decide)]
  exact zLong h (z0J (by decide))
set_option maxRecDepth 100000 in
set_option maxHeartbeats 2000000 in
theorem zc_1099 (h1 : va_P D vwCl (cW s0 (s0 + 1) (.inr (5, fin_X5 (zG s0 D cy) (s0 + 1))) (es_X5 (zG s0 D cy) (s0 + 1))) H) (h2 : va_P D vwCl (cW (s0 + 1067) (s0 + 1068) (.inr (6, fin_X6 (zG s0 D cy) (s0 + 1068))) (es_X6 (zG s0 D cy) (s0 + 1068))) H) : va_at D vwCl ((zG s0 D cy).1 1099, ent (zG s0 D cy) z0 1099) H := by
  have h := h2 32 (s0 + 1099, (.inl (cy 2, (6, .inr (.inl (fun _ => 0)))))) ((cW_at (i := 31) (by simp only [es_X6, List.getElem?_append, List.getElem?_replicate, List.getElem?_cons, List.length_append, List.length_cons, List.length_nil, List.length_replicate, es_X5_len, es_X2_len, es_X0_len, es_X1_len, es_X3_len, es_X4_len, es_X6_len] <;> rfl)).trans (by rw [show s0 + 1068 + 31 = s0 + 1099 by omega]))
  rw [ent_long (by decide)]
  exact zLong h (z0J (by decide))
set_option maxRecDepth 100000 in
set_option maxHeartbeats 2000000 in
theorem zc_1100 (h1 : va_P D vwCl (cW s0 (s0 + 1) (.inr (5, fin_X5 (zG s0 D cy) (s0 + 1))) (es_X5 (zG s0 D cy) (s0 + 1))) H) (h2 : va_P D vwCl (cW (s0 + 1067) (s0 + 1068) (.inr (6, fin_X6 (zG s0 D cy) (s0 + 1068))) (es_X6 (zG s0 D cy) (s0 + 1068))) H) : va_at D vwCl ((zG s0 D cy).1 1100, ent (zG s0 D cy) z0 1100) H := by
  have h := h2 33 (s0 + 1100, (.inl (cy 2, (12, .inr (.inl (fun _ => 0)))))) ((cW_at (i := 32) (by simp only [es_X6, List.getElem?_append, List.getElem?_replicate, List.getElem?_cons, List.length_append, List.length_cons, List.length_nil, List.length_replicate, es_X5_len, es_X2_len, es_X0_len, es_X1_len, es_X3_len, es_X4_len, es_X6_len] <;> rfl)).trans (by rw [show s0 + 1068 + 32 = s0 + 1100 by omega]))
  rw [ent_long (by decide)]
  exact zLong h (z0J (by decide))
set_option maxRecDepth 100000 in
set_option maxHeartbeats 2000000 in
theorem zc_1101 (h1 : va_P D vwCl (cW s0 (s0 + 1) (.inr (5, fin_X5 (zG s0 D cy) (s0 + 1))) (es_X5 (zG s0 D cy) (s0 + 1))) H) (h2 : va_P D vwCl (cW (s0 + 1067) (s0 + 1068) (.inr (6, fin_X6 (zG s0 D cy) (s0 + 1068))) (es_X6 (zG s0 D cy) (s0 + 1068))) H) : va_at D vwCl ((zG s0 D cy).1 1101, ent (zG s0 D cy) z0 1101) H := by
  have h := h2 34 (s0 + 1101, (.inl (cy 2, (12, .inr (.inl (fun _ => 0)))))) ((cW_at (i := 33) (by simp only [es_X6, List.getElem?_append, List.getElem?_replicate, List.getElem?_cons, List.length_append, List.length_cons, List.length_nil, List.length_replicate, es_X5_len, es_X2_len, es_X0_len, es_X1_len, es_X3_len, es_X4_len, es_X6_len] <;> rfl)).trans (by rw [show s0 + 1068 + 33 = s0 + 1101 by omega]))
  rw [ent_long (by decide)]
  exact zLong h (z0J (by decide))
set_option maxRecDepth 100000 in
set_option maxHeartbeats 2000000 in
theorem zc_1102 (h1 : va_P D vwCl (cW s0 (s0 + 1) (.inr (5, fin_X5 (zG s0 D cy) (s0 + 1))) (es_X5 (zG s0 D cy) (s0 + 1))) H) (h2 : va_P D vwCl (cW (s0 + 1067) (s0 + 1068) (.inr (6, fin_X6 (zG s0 D cy) (s0 + 1068))) (es_X6 (zG s0 D cy) (s0 + 1068))) H) : va_at D vwCl ((zG s0 D cy).1 1102, ent (zG s0 D cy) z0 1102) H := by
  have h := h2 35 (s0 + 1102, (.inl (cy 2, (12, .inr (.inl (fun _ => 0)))))) ((cW_at (i := 34) (by simp only [es_X6, List.getElem?_append, List.getElem?_replicate, List.getElem?_cons, List.length_append, List.length_cons, List.length_nil, List.length_replicate, es_X5_len, es_X2_len, es_X0_len, es_X1_len, es_X3_len, es_X4_len, es_X6_len] <;> rfl)).trans (by rw [show s0 + 1068 + 34 = s0 + 1102 by omega]))
  rw [ent_long (by decide)]
  exact zLong h (z0J (by decide))
set_option maxRecDepth 100000 in
set_option maxHeartbeats 2000000 in
theorem zc_1103 (h1 : va_P D vwCl (cW s0 (s0 + 1) (.inr (5, fin_X5 (zG s0 D cy) (s0 + 1))) (es_X5 (zG s0 D cy) (s0 + 1))) H) (h2 : va_P D vwCl (cW (s0 + 1067) (s0 + 1068) (.inr (6, fin_X6 (zG s0 D cy) (s0 + 1068))) (es_X6 (zG s0 D cy) (s0 + 1068))) H) : va_at D vwCl ((zG s0 D cy).1 1103, ent (zG s0 D cy) z0 1103) H := by
  have h := h2 36 (s0 + 1103, (.inl (cy 2, (12, .inr (.inl (fun _ => 0)))))) ((cW_at (i := 35) (by simp only [es_X6, List.getElem?_append, List.getElem?_replicate, List.getElem?_cons, List.length_append, List.length_cons, List.length_nil, List.length_replicate, es_X5_len, es_X2_len, es_X0_len, es_X1_len, es_X3_len, es_X4_len, es_X6_len] <;> rfl)).trans (by rw [show s0 + 1068 + 35 = s0 + 1103 by omega]))
  rw [ent_long (by decide)]
  exact zLong h (z0J (by decide))
set_option maxRecDepth 100000 in
set_option maxHeartbeats 2000000 in
theorem zc_1104 (h1 : va_P D vwCl (cW s0 (s0 + 1) (.inr (5, fin_X5 (zG s0 D cy) (s0 + 1))) (es_X5 (zG s0 D cy) (s0 + 1))) H) (h2 : va_P D vwCl (cW (s0 + 1067) (s0 + 1068) (.inr (6, fin_X6 (zG s0 D cy) (s0 + 1068))) (es_X6 (zG s0 D cy) (s0 + 1068))) H) : va_at D vwCl ((zG s0 D cy).1 1104, ent (zG s0 D cy) z0 1104) H := by
  have h := h2 37 (s0 + 1104, (.inl (cy 1, (166, .inl (fun _ => 0))))) ((cW_at (i := 36) (by simp only [es_X6, List.getElem?_append, List.getElem?_replicate, List.getElem?_cons, List.length_append, List.length_cons, List.length_nil, List.length_replicate, es_X5_len, es_X2_len, es_X0_len, es_X1_len, es_X3_len, es_X4_len, es_X6_len] <;> rfl)).trans (by rw [show s0 + 1068 + 36 = s0 + 1104 by omega]))
  rw [ent_int (by decide)]
  exact zInt h (z0I (by decide))
set_option maxRecDepth 100000 in
set_option maxHeartbeats 2000000 in
theorem zc_1105 (h1 : va_P D vwCl (cW s0 (s0 + 1) (.inr (5, fin_X5 (zG s0 D cy) (s0 + 1))) (es_X5 (zG s0 D cy) (s0 + 1))) H) (h2 : va_P D vwCl (cW (s0 + 1067) (s0 + 1068) (.inr (6, fin_X6 (zG s0 D cy) (s0 + 1068))) (es_X6 (zG s0 D cy) (s0 + 1068))) H) : va_at D vwCl ((zG s0 D cy).1 1105, ent (zG s0 D cy) z0 1105) H := by
  have h := h2 38 (s0 + 1105, (.inl (cy 3, (2, .inl (fun _ => 0))))) ((cW_at (i := 37) (by simp only [es_X6, List.getElem?_append, List.getElem?_replicate, List.getElem?_cons, List.length_append, List.length_cons, List.length_nil, List.length_replicate, es_X5_len, es_X2_len, es_X0_len, es_X1_len, es_X3_len, es_X4_len, es_X6_len] <;> rfl)).trans (by rw [show s0 + 1068 + 37 = s0 + 1105 by omega]))
  rw [ent_bool (by decide)]
  exact zInt h (z0I (by decide))
set_option maxRecDepth 100000 in
set_option maxHeartbeats 2000000 in
theorem zc_rows (h1 : va_P D vwCl (cW s0 (s0 + 1) (.inr (5, fin_X5 (zG s0 D cy) (s0 + 1))) (es_X5 (zG s0 D cy) (s0 + 1))) H) (h2 : va_P D vwCl (cW (s0 + 1067) (s0 + 1068) (.inr (6, fin_X6 (zG s0 D cy) (s0 + 1068))) (es_X6 (zG s0 D cy) (s0 + 1068))) H) {i : Nat} (hi : i < 78) : va_at D vwCl ((zG s0 D cy).1 (65 + i), ent (zG s0 D cy) z0 (65 + i)) H := by
  have ht : tg (65 + i) = 2 := by
    unfold tg
    repeat' split
    all_goals first | rfl | omega
  have hl : ln (65 + i) = 26 := by
    unfold ln
    repeat' split
    all_goals first | rfl | omega
  have ho : zOff (65 + i) = 48 + i := by
    unfold zOff
    rw [if_neg (by omega), if_pos (by omega)]
    omega
  rw [ent_long ht, hl]
  show va_at D vwCl (s0 + zOff (65 + i), _) H
  rw [ho]
  have h := h1 (47 + i + 1) (s0 + 1 + (47 + i), (.inl (cy 2, (26, .inr (.inl (fun _ => 0)))))) (cW_at (i := 47 + i) (by
    have q : (es_X5 (zG s0 D cy) (s0 + 1))[47 + i]? = (es_X4 (zG s0 D cy) (s0 + 47))[1 + i]? := by
      unfold es_X5 es_X0 es_X3
      repeat' (first | rw [List.getElem?_append_right (by simp only [List.getElem?_append, List.getElem?_replicate, List.getElem?_cons, List.length_append, List.length_cons, List.length_nil, List.length_replicate, es_X5_len, es_X2_len, es_X0_len, es_X1_len, es_X3_len, es_X4_len, es_X6_len] <;> omega)] | rw [List.getElem?_append_left (by simp only [List.getElem?_append, List.getElem?_replicate, List.getElem?_cons, List.length_append, List.length_cons, List.length_nil, List.length_replicate, es_X5_len, es_X2_len, es_X0_len, es_X1_len, es_X3_len, es_X4_len, es_X6_len] <;> omega)] | rw [List.getElem?_cons, if_neg (by simp only [List.getElem?_append, List.getElem?_replicate, List.getElem?_cons, List.length_append, List.length_cons, List.length_nil, List.length_replicate, es_X5_len, es_X2_len, es_X0_len, es_X1_len, es_X3_len, es_X4_len, es_X6_len] <;> omega)])
      congr 1
      simp only [List.getElem?_append, List.getElem?_replicate, List.getElem?_cons, List.length_append, List.length_cons, List.length_nil, List.length_replicate, es_X5_len, es_X2_len, es_X0_len, es_X1_len, es_X3_len, es_X4_len, es_X6_len]
      omega
    rw [q]
    unfold es_X4
    rw [List.getElem?_append_left (by simp only [List.getElem?_append, List.getElem?_replicate, List.getElem?_cons, List.length_append, List.length_cons, List.length_nil, List.length_replicate, es_X5_len, es_X2_len, es_X0_len, es_X1_len, es_X3_len, es_X4_len, es_X6_len] <;> omega), List.getElem?_append_left (by simp only [List.getElem?_append, List.getElem?_replicate, List.getElem?_cons, List.length_append, List.length_cons, List.length_nil, List.length_replicate, es_X5_len, es_X2_len, es_X0_len, es_X1_len, es_X3_len, es_X4_len, es_X6_len] <;> omega), List.nil_append, Nat.add_comm, List.getElem?_cons_succ, List.getElem?_replicate, if_pos hi]
    rfl))
  rw [show s0 + 1 + (47 + i) = s0 + (48 + i) by omega] at h
  exact zLong h (z0J (by omega))
set_option maxRecDepth 100000 in
set_option maxHeartbeats 2000000 in
theorem zc_mots (h1 : va_P D vwCl (cW s0 (s0 + 1) (.inr (5, fin_X5 (zG s0 D cy) (s0 + 1))) (es_X5 (zG s0 D cy) (s0 + 1))) H) (h2 : va_P D vwCl (cW (s0 + 1067) (s0 + 1068) (.inr (6, fin_X6 (zG s0 D cy) (s0 + 1068))) (es_X6 (zG s0 D cy) (s0 + 1068))) H) {i : Nat} (hi : i < 924) : va_at D vwCl ((zG s0 D cy).1 (143 + i), ent (zG s0 D cy) z0 (143 + i)) H := by
  have ht : tg (143 + i) = 2 := by
    unfold tg
    repeat' split
    all_goals first | rfl | omega
  have hl : ln (143 + i) = 26 := by
    unfold ln
    repeat' split
    all_goals first | rfl | omega
  have ho : zOff (143 + i) = 132 + i := by
    unfold zOff
    rw [if_neg (by omega), if_neg (by omega), if_pos (by omega)]
    omega
  rw [ent_long ht, hl]
  show va_at D vwCl (s0 + zOff (143 + i), _) H
  rw [ho]
  have h := h1 (131 + i + 1) (s0 + 1 + (131 + i), (.inl (cy 2, (26, .inr (.inl (fun _ => 0)))))) (cW_at (i := 131 + i) (by
    have q : (es_X5 (zG s0 D cy) (s0 + 1))[131 + i]? = (es_X3 (zG s0 D cy) (s0 + 46))[86 + i]? := by
      unfold es_X5 es_X0
      repeat' (first | rw [List.getElem?_append_right (by simp only [List.getElem?_append, List.getElem?_replicate, List.getElem?_cons, List.length_append, List.length_cons, List.length_nil, List.length_replicate, es_X5_len, es_X2_len, es_X0_len, es_X1_len, es_X3_len, es_X4_len, es_X6_len] <;> omega)] | rw [List.getElem?_append_left (by simp only [List.getElem?_append, List.getElem?_replicate, List.getElem?_cons, List.length_append, List.length_cons, List.length_nil, List.length_replicate, es_X5_len, es_X2_len, es_X0_len, es_X1_len, es_X3_len, es_X4_len, es_X6_len] <;> omega)] | rw [List.getElem?_cons, if_neg (by simp only [List.getElem?_append, List.getElem?_replicate, List.getElem?_cons, List.length_append, List.length_cons, List.length_nil, List.length_replicate, es_X5_len, es_X2_len, es_X0_len, es_X1_len, es_X3_len, es_X4_len, es_X6_len] <;> omega)])
      congr 1
      simp only [List.getElem?_append, List.getElem?_replicate, List.getElem?_cons, List.length_append, List.length_cons, List.length_nil, List.length_replicate, es_X5_len, es_X2_len, es_X0_len, es_X1_len, es_X3_len, es_X4_len, es_X6_len]
      omega
    rw [q]
    unfold es_X3
    rw [List.getElem?_append_right (by simp only [List.getElem?_append, List.getElem?_replicate, List.getElem?_cons, List.length_append, List.length_cons, List.length_nil, List.length_replicate, es_X5_len, es_X2_len, es_X0_len, es_X1_len, es_X3_len, es_X4_len, es_X6_len] <;> omega)]
    have e2 : 86 + i - ((([] : List va_E) ++ (.inr (4, fin_X4 (zG s0 D cy) (s0 + 46 + 1)) :: es_X4 (zG s0 D cy) (s0 + 46 + 1))) ++ [(.inl ((zG s0 D cy).2.2 1, (924, .inl (fun _ => 0))) : va_E)]).length = i + 1 := by
      simp only [List.getElem?_append, List.getElem?_replicate, List.getElem?_cons, List.length_append, List.length_cons, List.length_nil, List.length_replicate, es_X5_len, es_X2_len, es_X0_len, es_X1_len, es_X3_len, es_X4_len, es_X6_len]
      omega
    rw [e2, List.getElem?_cons_succ, List.getElem?_replicate, if_pos hi]
    rfl))
  rw [show s0 + 1 + (131 + i) = s0 + (132 + i) by omega] at h
  exact zLong h (z0J (by omega))
theorem zc_all (h1 : va_P D vwCl (cW s0 (s0 + 1) (.inr (5, fin_X5 (zG s0 D cy) (s0 + 1))) (es_X5 (zG s0 D cy) (s0 + 1))) H) (h2 : va_P D vwCl (cW (s0 + 1067) (s0 + 1068) (.inr (6, fin_X6 (zG s0 D cy) (s0 + 1068))) (es_X6 (zG s0 D cy) (s0 + 1068))) H) : va_P D vwCl (zW (zG s0 D cy) z0) H := by
  intro k q hk
  obtain ⟨hc, rfl⟩ := zW_inv hk
  match k, hc with
  | 0, _ => exact zc_0 h1 h2
  | 1, _ => exact zc_1 h1 h2
  | 2, _ => exact zc_2 h1 h2
  | 3, _ => exact zc_3 h1 h2
  | 4, _ => exact zc_4 h1 h2
  | 5, _ => exact zc_5 h1 h2
  | 6, _ => exact zc_6 h1 h2
  | 7, _ => exact zc_7 h1 h2
  | 8, _ => exact zc_8 h1 h2
  | 9, _ => exact zc_9 h1 h2
  | 10, _ => exact zc_10 h1 h2
  | 11, _ => exact zc_11 h1 h2
  | 12, _ => exact zc_12 h1 h2
  | 13, _ => exact zc_13 h1 h2
  | 14, _ => exact zc_14 h1 h2
  | 15, _ => exact zc_15 h1 h2
  | 16, _ => exact zc_16 h1 h2
  | 17, _ => exact zc_17 h1 h2
  | 18, _ => exact zc_18 h1 h2
  | 19, _ => exact zc_19 h1 h2
  | 20, _ => exact zc_20 h1 h2
  | 21, _ => exact zc_21 h1 h2
  | 22, _ => exact zc_22 h1 h2
  | 23, _ => exact zc_23 h1 h2
  | 24, _ => exact zc_24 h1 h2
  | 25, _ => exact zc_25 h1 h2
  | 26, _ => exact zc_26 h1 h2
  | 27, _ => exact zc_27 h1 h2
  | 28, _ => exact zc_28 h1 h2
  | 29, _ => exact zc_29 h1 h2
  | 30, _ => exact zc_30 h1 h2
  | 31, _ => exact zc_31 h1 h2
  | 32, _ => exact zc_32 h1 h2
  | 33, _ => exact zc_33 h1 h2
  | 34, _ => exact zc_34 h1 h2
  | 35, _ => exact zc_35 h1 h2
  | 36, _ => exact zc_36 h1 h2
  | 37, _ => exact zc_37 h1 h2
  | 38, _ => exact zc_38 h1 h2
  | 39, _ => exact zc_39 h1 h2
  | 40, _ => exact zc_40 h1 h2
  | 41, _ => exact zc_41 h1 h2
  | 42, _ => exact zc_42 h1 h2
  | 43, _ => exact zc_43 h1 h2
  | 44, _ => exact zc_44 h1 h2
  | 45, _ => exact zc_45 h1 h2
  | 46, _ => exact zc_46 h1 h2
  | 47, _ => exact zc_47 h1 h2
  | 48, _ => exact zc_48 h1 h2
  | 49, _ => exact zc_49 h1 h2
  | 50, _ => exact zc_50 h1 h2
  | 51, _ => exact zc_51 h1 h2
  | 52, _ => exact zc_52 h1 h2
  | 53, _ => exact zc_53 h1 h2
  | 54, _ => exact zc_54 h1 h2
  | 55, _ => exact zc_55 h1 h2
  | 56, _ => exact zc_56 h1 h2
  | 57, _ => exact zc_57 h1 h2
  | 58, _ => exact zc_58 h1 h2
  | 59, _ => exact zc_59 h1 h2
  | 60, _ => exact zc_60 h1 h2
  | 61, _ => exact zc_61 h1 h2
  | 62, _ => exact zc_62 h1 h2
  | 63, _ => exact zc_63 h1 h2
  | 64, _ => exact zc_64 h1 h2
  | n + 65, hn =>
    by_cases a : n < 78
    · rw [Nat.add_comm]
      exact zc_rows h1 h2 a
    · by_cases b : n < 1002
      · obtain ⟨i, rfl⟩ : ∃ i, n = i + 78 := ⟨n - 78, by omega⟩
        rw [show i + 78 + 65 = 143 + i by omega]
        exact zc_mots h1 h2 (by omega)
      · obtain ⟨i, rfl⟩ : ∃ i, n = i + 1002 := ⟨n - 1002, by omega⟩
        have hi : i < 39 := by unfold zN at hn; omega
        match i, hi with
        | 0, _ => exact zc_1067 h1 h2
        | 1, _ => exact zc_1068 h1 h2
        | 2, _ => exact zc_1069 h1 h2
        | 3, _ => exact zc_1070 h1 h2
        | 4, _ => exact zc_1071 h1 h2
        | 5, _ => exact zc_1072 h1 h2
        | 6, _ => exact zc_1073 h1 h2
        | 7, _ => exact zc_1074 h1 h2
        | 8, _ => exact zc_1075 h1 h2
        | 9, _ => exact zc_1076 h1 h2
        | 10, _ => exact zc_1077 h1 h2
        | 11, _ => exact zc_1078 h1 h2
        | 12, _ => exact zc_1079 h1 h2
        | 13, _ => exact zc_1080 h1 h2
        | 14, _ => exact zc_1081 h1 h2
        | 15, _ => exact zc_1082 h1 h2
        | 16, _ => exact zc_1083 h1 h2
        | 17, _ => exact zc_1084 h1 h2
        | 18, _ => exact zc_1085 h1 h2
        | 19, _ => exact zc_1086 h1 h2
        | 20, _ => exact zc_1087 h1 h2
        | 21, _ => exact zc_1088 h1 h2
        | 22, _ => exact zc_1089 h1 h2
        | 23, _ => exact zc_1090 h1 h2
        | 24, _ => exact zc_1091 h1 h2
        | 25, _ => exact zc_1092 h1 h2
        | 26, _ => exact zc_1093 h1 h2
        | 27, _ => exact zc_1094 h1 h2
        | 28, _ => exact zc_1095 h1 h2
        | 29, _ => exact zc_1096 h1 h2
        | 30, _ => exact zc_1097 h1 h2
        | 31, _ => exact zc_1098 h1 h2
        | 32, _ => exact zc_1099 h1 h2
        | 33, _ => exact zc_1100 h1 h2
        | 34, _ => exact zc_1101 h1 h2
        | 35, _ => exact zc_1102 h1 h2
        | 36, _ => exact zc_1103 h1 h2
        | 37, _ => exact zc_1104 h1 h2
        | 38, _ => exact zc_1105 h1 h2
end ZFIRST
theorem zG_inj (s0 : Nat) (D : va_G) (cy : Nat → ClassId) : zI (zG s0 D cy) := by
  have hlow : ∀ i, i < 65 → ∀ j, j < 65 → zOff i = zOff j → i = j := by decide +kernel
  have hl2 : ∀ i, i < 65 → (zOff i < 48 ∨ zOff i = 126 ∨ zOff i = 127 ∨ zOff i = 128 ∨ zOff i = 129 ∨ zOff i = 130 ∨ zOff i = 131 ∨ (1056 ≤ zOff i ∧ zOff i < 1067)) := by decide +kernel
  have h2 : ∀ i, 65 ≤ i → i < 143 → zOff i = i - 17 := fun i a b => by unfold zOff; rw [if_neg (by omega), if_pos b]
  have h3 : ∀ i, 143 ≤ i → i < 1067 → zOff i = i - 11 := fun i a b => by unfold zOff; rw [if_neg (by omega), if_neg (by omega), if_pos b]
  have h4 : ∀ i, 1067 ≤ i → zOff i = i := fun i a => by unfold zOff; rw [if_neg (by omega), if_neg (by omega), if_neg (by omega)]
  intro i j hi hj e
  have e : zOff i = zOff j := Nat.add_left_cancel (show s0 + zOff i = s0 + zOff j from e)
  by_cases a1 : i < 65 <;> by_cases b1 : j < 65
  · exact hlow i a1 j b1 e
  · have q := hl2 i a1
    by_cases b2 : j < 143
    · rw [h2 j (by omega) b2] at e; omega
    · by_cases b3 : j < 1067
      · rw [h3 j (by omega) b3] at e; omega
      · rw [h4 j (by omega)] at e; omega
  · have q := hl2 j b1
    by_cases b2 : i < 143
    · rw [h2 i (by omega) b2] at e; omega
    · by_cases b3 : i < 1067
      · rw [h3 i (by omega) b3] at e; omega
      · rw [h4 i (by omega)] at e; omega
  · by_cases a2 : i < 143 <;> by_cases b2 : j < 143
    · rw [h2 i (by omega) a2, h2 j (by omega) b2] at e; omega
    · rw [h2 i (by omega) a2] at e
      by_cases b3 : j < 1067
      · rw [h3 j (by omega) b3] at e; omega
      · rw [h4 j (by omega)] at e; omega
    · rw [h2 j (by omega) b2] at e
      by_cases a3 : i < 1067
      · rw [h3 i (by omega) a3] at e; omega
      · rw [h4 i (by omega)] at e; omega
    · by_cases a3 : i < 1067 <;> by_cases b3 : j < 1067
      · rw [h3 i (by omega) a3, h3 j (by omega) b3] at e; omega
      · rw [h3 i (by omega) a3, h4 j (by omega)] at e; omega
      · rw [h4 i (by omega), h3 j (by omega) b3] at e; omega
      · rw [h4 i (by omega), h4 j (by omega)] at e; omega
