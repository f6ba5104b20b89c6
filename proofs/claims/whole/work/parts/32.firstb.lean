theorem es_X6_flat (G : ZG) (sz : Nat) : es_X6 G sz = [.inl (G.2.2 1, (7, .inl (fun _ => 0))), .inl (G.2.2 1, (7, .inl (fun _ => 0))), .inl (G.2.2 1, (7, .inl (fun _ => 0))), .inl (G.2.2 1, (6, .inl (fun _ => 0))), .inl (G.2.2 1, (6, .inl (fun _ => 0))), .inl (G.2.2 1, (6, .inl (fun _ => 0))), .inl (G.2.2 1, (42, .inl (fun _ => 0))), .inl (G.2.2 1, (14, .inl (fun _ => 0))), .inl (G.2.2 1, (21, .inl (fun _ => 0))), .inl (G.2.2 2, (252, .inr (.inl (fun _ => 0)))), .inl (G.2.2 2, (252, .inr (.inl (fun _ => 0)))), .inl (G.2.2 1, (12, .inl (fun _ => 0))), .inl (G.2.2 1, (924, .inl (fun _ => 0))), .inl (G.2.2 2, (11088, .inr (.inl (fun _ => 0)))), .inl (G.2.2 3, (4096, .inl (fun _ => 0))), .inl (G.2.2 1, (13, .inl (fun _ => 0))), .inl (G.2.2 2, (21, .inr (.inl (fun _ => 0)))), .inl (G.2.2 2, (12, .inr (.inl (fun _ => 0)))), .inl (G.2.2 2, (3, .inr (.inl (fun _ => 0)))), .inl (G.2.2 2, (180, .inr (.inl (fun _ => 0)))), .inl (G.2.2 2, (180, .inr (.inl (fun _ => 0)))), .inl (G.2.2 1, (15, .inl (fun _ => 0))), .inl (G.2.2 2, (3, .inr (.inl (fun _ => 0)))), .inl (G.2.2 1, (12, .inl (fun _ => 0))), .inl (G.2.2 2, (180, .inr (.inl (fun _ => 0)))), .inl (G.2.2 2, (15, .inr (.inl (fun _ => 0)))), .inl (G.2.2 2, (2, .inr (.inl (fun _ => 0)))), .inl (G.2.2 2, (2, .inr (.inl (fun _ => 0)))), .inl (G.2.2 3, (3, .inl (fun _ => 0))), .inl (G.2.2 1, (3, .inl (fun _ => 0))), .inl (G.2.2 2, (6, .inr (.inl (fun _ => 0)))), .inl (G.2.2 2, (6, .inr (.inl (fun _ => 0)))), .inl (G.2.2 2, (12, .inr (.inl (fun _ => 0)))), .inl (G.2.2 2, (12, .inr (.inl (fun _ => 0)))), .inl (G.2.2 2, (12, .inr (.inl (fun _ => 0)))), .inl (G.2.2 2, (12, .inr (.inl (fun _ => 0)))), .inl (G.2.2 1, (166, .inl (fun _ => 0))), .inl (G.2.2 3, (2, .inl (fun _ => 0)))] := by
  unfold es_X6
  simp only [List.nil_append, List.cons_append]
section ZFIRST
variable {s0 : Nat} {D : va_G} {cy : Nat → ClassId} {H : Heap}
set_option maxRecDepth 100000 in
set_option maxHeartbeats 2000000 in
theorem zc_1067 (h1 : va_P D vwCl (cW s0 (s0 + 1) (.inr (5, fin_X5 (zG s0 D cy) (s0 + 1))) (es_X5 (zG s0 D cy) (s0 + 1))) H) (h2 : va_P D vwCl (cW (s0 + 1067) (s0 + 1068) (.inr (6, fin_X6 (zG s0 D cy) (s0 + 1068))) (es_X6 (zG s0 D cy) (s0 + 1068))) H) : va_at D vwCl ((zG s0 D cy).1 1067, ent (zG s0 D cy) z0 1067) H := by
  have h := h2 0 _ rfl
  rw [ent_obj (by decide)]
  exact zObj h (by rfl)
set_option maxRecDepth 100000 in
set_option maxHeartbeats 2000000 in
theorem zc_1068 (h1 : va_P D vwCl (cW s0 (s0 + 1) (.inr (5, fin_X5 (zG s0 D cy) (s0 + 1))) (es_X5 (zG s0 D cy) (s0 + 1))) H) (h2 : va_P D vwCl (cW (s0 + 1067) (s0 + 1068) (.inr (6, fin_X6 (zG s0 D cy) (s0 + 1068))) (es_X6 (zG s0 D cy) (s0 + 1068))) H) : va_at D vwCl ((zG s0 D cy).1 1068, ent (zG s0 D cy) z0 1068) H := by
  have h := h2 1 (s0 + 1068, (.inl ((zG s0 D cy).2.2 1, (7, .inl (fun _ => 0))))) ((cW_at (i := 0) (by rw [es_X6_flat]; rfl)).trans (by rw [show s0 + 1068 + 0 = s0 + 1068 by omega]))
  rw [ent_int (by decide)]
  exact zInt h (z0I (by decide))
set_option maxRecDepth 100000 in
set_option maxHeartbeats 2000000 in
theorem zc_1069 (h1 : va_P D vwCl (cW s0 (s0 + 1) (.inr (5, fin_X5 (zG s0 D cy) (s0 + 1))) (es_X5 (zG s0 D cy) (s0 + 1))) H) (h2 : va_P D vwCl (cW (s0 + 1067) (s0 + 1068) (.inr (6, fin_X6 (zG s0 D cy) (s0 + 1068))) (es_X6 (zG s0 D cy) (s0 + 1068))) H) : va_at D vwCl ((zG s0 D cy).1 1069, ent (zG s0 D cy) z0 1069) H := by
  have h := h2 2 (s0 + 1069, (.inl ((zG s0 D cy).2.2 1, (7, .inl (fun _ => 0))))) ((cW_at (i := 1) (by rw [es_X6_flat]; rfl)).trans (by rw [show s0 + 1068 + 1 = s0 + 1069 by omega]))
  rw [ent_int (by decide)]
  exact zInt h (z0I (by decide))
set_option maxRecDepth 100000 in
set_option maxHeartbeats 2000000 in
theorem zc_1070 (h1 : va_P D vwCl (cW s0 (s0 + 1) (.inr (5, fin_X5 (zG s0 D cy) (s0 + 1))) (es_X5 (zG s0 D cy) (s0 + 1))) H) (h2 : va_P D vwCl (cW (s0 + 1067) (s0 + 1068) (.inr (6, fin_X6 (zG s0 D cy) (s0 + 1068))) (es_X6 (zG s0 D cy) (s0 + 1068))) H) : va_at D vwCl ((zG s0 D cy).1 1070, ent (zG s0 D cy) z0 1070) H := by
  have h := h2 3 (s0 + 1070, (.inl ((zG s0 D cy).2.2 1, (7, .inl (fun _ => 0))))) ((cW_at (i := 2) (by rw [es_X6_flat]; rfl)).trans (by rw [show s0 + 1068 + 2 = s0 + 1070 by omega]))
  rw [ent_int (by decide)]
  exact zInt h (z0I (by decide))
set_option maxRecDepth 100000 in
set_option maxHeartbeats 2000000 in
theorem zc_1071 (h1 : va_P D vwCl (cW s0 (s0 + 1) (.inr (5, fin_X5 (zG s0 D cy) (s0 + 1))) (es_X5 (zG s0 D cy) (s0 + 1))) H) (h2 : va_P D vwCl (cW (s0 + 1067) (s0 + 1068) (.inr (6, fin_X6 (zG s0 D cy) (s0 + 1068))) (es_X6 (zG s0 D cy) (s0 + 1068))) H) : va_at D vwCl ((zG s0 D cy).1 1071, ent (zG s0 D cy) z0 1071) H := by
  have h := h2 4 (s0 + 1071, (.inl ((zG s0 D cy).2.2 1, (6, .inl (fun _ => 0))))) ((cW_at (i := 3) (by rw [es_X6_flat]; rfl)).trans (by rw [show s0 + 1068 + 3 = s0 + 1071 by omega]))
  rw [ent_int (by decide)]
  exact zInt h (z0I (by decide))
set_option maxRecDepth 100000 in
set_option maxHeartbeats 2000000 in
theorem zc_1072 (h1 : va_P D vwCl (cW s0 (s0 + 1) (.inr (5, fin_X5 (zG s0 D cy) (s0 + 1))) (es_X5 (zG s0 D cy) (s0 + 1))) H) (h2 : va_P D vwCl (cW (s0 + 1067) (s0 + 1068) (.inr (6, fin_X6 (zG s0 D cy) (s0 + 1068))) (es_X6 (zG s0 D cy) (s0 + 1068))) H) : va_at D vwCl ((zG s0 D cy).1 1072, ent (zG s0 D cy) z0 1072) H := by
  have h := h2 5 (s0 + 1072, (.inl ((zG s0 D cy).2.2 1, (6, .inl (fun _ => 0))))) ((cW_at (i := 4) (by rw [es_X6_flat]; rfl)).trans (by rw [show s0 + 1068 + 4 = s0 + 1072 by omega]))
  rw [ent_int (by decide)]
  exact zInt h (z0I (by decide))
set_option maxRecDepth 100000 in
set_option maxHeartbeats 2000000 in
theorem zc_1073 (h1 : va_P D vwCl (cW s0 (s0 + 1) (.inr (5, fin_X5 (zG s0 D cy) (s0 + 1))) (es_X5 (zG s0 D cy) (s0 + 1))) H) (h2 : va_P D vwCl (cW (s0 + 1067) (s0 + 1068) (.inr (6, fin_X6 (zG s0 D cy) (s0 + 1068))) (es_X6 (zG s0 D cy) (s0 + 1068))) H) : va_at D vwCl ((zG s0 D cy).1 1073, ent (zG s0 D cy) z0 1073) H := by
  have h := h2 6 (s0 + 1073, (.inl ((zG s0 D cy).2.2 1, (6, .inl (fun _ => 0))))) ((cW_at (i := 5) (by rw [es_X6_flat]; rfl)).trans (by rw [show s0 + 1068 + 5 = s0 + 1073 by omega]))
  rw [ent_int (by decide)]
  exact zInt h (z0I (by decide))
set_option maxRecDepth 100000 in
set_option maxHeartbeats 2000000 in
theorem zc_1074 (h1 : va_P D vwCl (cW s0 (s0 + 1) (.inr (5, fin_X5 (zG s0 D cy) (s0 + 1))) (es_X5 (zG s0 D cy) (s0 + 1))) H) (h2 : va_P D vwCl (cW (s0 + 1067) (s0 + 1068) (.inr (6, fin_X6 (zG s0 D cy) (s0 + 1068))) (es_X6 (zG s0 D cy) (s0 + 1068))) H) : va_at D vwCl ((zG s0 D cy).1 1074, ent (zG s0 D cy) z0 1074) H := by
  have h := h2 7 (s0 + 1074, (.inl ((zG s0 D cy).2.2 1, (42, .inl (fun _ => 0))))) ((cW_at (i := 6) (by rw [es_X6_flat]; rfl)).trans (by rw [show s0 + 1068 + 6 = s0 + 1074 by omega]))
  rw [ent_int (by decide)]
  exact zInt h (z0I (by decide))
set_option maxRecDepth 100000 in
set_option maxHeartbeats 2000000 in
theorem zc_1075 (h1 : va_P D vwCl (cW s0 (s0 + 1) (.inr (5, fin_X5 (zG s0 D cy) (s0 + 1))) (es_X5 (zG s0 D cy) (s0 + 1))) H) (h2 : va_P D vwCl (cW (s0 + 1067) (s0 + 1068) (.inr (6, fin_X6 (zG s0 D cy) (s0 + 1068))) (es_X6 (zG s0 D cy) (s0 + 1068))) H) : va_at D vwCl ((zG s0 D cy).1 1075, ent (zG s0 D cy) z0 1075) H := by
  have h := h2 8 (s0 + 1075, (.inl ((zG s0 D cy).2.2 1, (14, .inl (fun _ => 0))))) ((cW_at (i := 7) (by rw [es_X6_flat]; rfl)).trans (by rw [show s0 + 1068 + 7 = s0 + 1075 by omega]))
  rw [ent_int (by decide)]
  exact zInt h (z0I (by decide))
set_option maxRecDepth 100000 in
set_option maxHeartbeats 2000000 in
theorem zc_1076 (h1 : va_P D vwCl (cW s0 (s0 + 1) (.inr (5, fin_X5 (zG s0 D cy) (s0 + 1))) (es_X5 (zG s0 D cy) (s0 + 1))) H) (h2 : va_P D vwCl (cW (s0 + 1067) (s0 + 1068) (.inr (6, fin_X6 (zG s0 D cy) (s0 + 1068))) (es_X6 (zG s0 D cy) (s0 + 1068))) H) : va_at D vwCl ((zG s0 D cy).1 1076, ent (zG s0 D cy) z0 1076) H := by
  have h := h2 9 (s0 + 1076, (.inl ((zG s0 D cy).2.2 1, (21, .inl (fun _ => 0))))) ((cW_at (i := 8) (by rw [es_X6_flat]; rfl)).trans (by rw [show s0 + 1068 + 8 = s0 + 1076 by omega]))
  rw [ent_int (by decide)]
  exact zInt h (z0I (by decide))
set_option maxRecDepth 100000 in
set_option maxHeartbeats 2000000 in
theorem zc_1077 (h1 : va_P D vwCl (cW s0 (s0 + 1) (.inr (5, fin_X5 (zG s0 D cy) (s0 + 1))) (es_X5 (zG s0 D cy) (s0 + 1))) H) (h2 : va_P D vwCl (cW (s0 + 1067) (s0 + 1068) (.inr (6, fin_X6 (zG s0 D cy) (s0 + 1068))) (es_X6 (zG s0 D cy) (s0 + 1068))) H) : va_at D vwCl ((zG s0 D cy).1 1077, ent (zG s0 D cy) z0 1077) H := by
  have h := h2 10 (s0 + 1077, (.inl ((zG s0 D cy).2.2 2, (252, .inr (.inl (fun _ => 0)))))) ((cW_at (i := 9) (by rw [es_X6_flat]; rfl)).trans (by rw [show s0 + 1068 + 9 = s0 + 1077 by omega]))
  rw [ent_long (by decide)]
  exact zLong h (z0J (by decide))
set_option maxRecDepth 100000 in
set_option maxHeartbeats 2000000 in
theorem zc_1078 (h1 : va_P D vwCl (cW s0 (s0 + 1) (.inr (5, fin_X5 (zG s0 D cy) (s0 + 1))) (es_X5 (zG s0 D cy) (s0 + 1))) H) (h2 : va_P D vwCl (cW (s0 + 1067) (s0 + 1068) (.inr (6, fin_X6 (zG s0 D cy) (s0 + 1068))) (es_X6 (zG s0 D cy) (s0 + 1068))) H) : va_at D vwCl ((zG s0 D cy).1 1078, ent (zG s0 D cy) z0 1078) H := by
  have h := h2 11 (s0 + 1078, (.inl ((zG s0 D cy).2.2 2, (252, .inr (.inl (fun _ => 0)))))) ((cW_at (i := 10) (by rw [es_X6_flat]; rfl)).trans (by rw [show s0 + 1068 + 10 = s0 + 1078 by omega]))
  rw [ent_long (by decide)]
  exact zLong h (z0J (by decide))
set_option maxRecDepth 100000 in
set_option maxHeartbeats 2000000 in
theorem zc_1079 (h1 : va_P D vwCl (cW s0 (s0 + 1) (.inr (5, fin_X5 (zG s0 D cy) (s0 + 1))) (es_X5 (zG s0 D cy) (s0 + 1))) H) (h2 : va_P D vwCl (cW (s0 + 1067) (s0 + 1068) (.inr (6, fin_X6 (zG s0 D cy) (s0 + 1068))) (es_X6 (zG s0 D cy) (s0 + 1068))) H) : va_at D vwCl ((zG s0 D cy).1 1079, ent (zG s0 D cy) z0 1079) H := by
  have h := h2 12 (s0 + 1079, (.inl ((zG s0 D cy).2.2 1, (12, .inl (fun _ => 0))))) ((cW_at (i := 11) (by rw [es_X6_flat]; rfl)).trans (by rw [show s0 + 1068 + 11 = s0 + 1079 by omega]))
  rw [ent_int (by decide)]
  exact zInt h (z0I (by decide))
set_option maxRecDepth 100000 in
set_option maxHeartbeats 2000000 in
theorem zc_1080 (h1 : va_P D vwCl (cW s0 (s0 + 1) (.inr (5, fin_X5 (zG s0 D cy) (s0 + 1))) (es_X5 (zG s0 D cy) (s0 + 1))) H) (h2 : va_P D vwCl (cW (s0 + 1067) (s0 + 1068) (.inr (6, fin_X6 (zG s0 D cy) (s0 + 1068))) (es_X6 (zG s0 D cy) (s0 + 1068))) H) : va_at D vwCl ((zG s0 D cy).1 1080, ent (zG s0 D cy) z0 1080) H := by
  have h := h2 13 (s0 + 1080, (.inl ((zG s0 D cy).2.2 1, (924, .inl (fun _ => 0))))) ((cW_at (i := 12) (by rw [es_X6_flat]; rfl)).trans (by rw [show s0 + 1068 + 12 = s0 + 1080 by omega]))
  rw [ent_int (by decide)]
  exact zInt h (z0I (by decide))
set_option maxRecDepth 100000 in
set_option maxHeartbeats 2000000 in
theorem zc_1081 (h1 : va_P D vwCl (cW s0 (s0 + 1) (.inr (5, fin_X5 (zG s0 D cy) (s0 + 1))) (es_X5 (zG s0 D cy) (s0 + 1))) H) (h2 : va_P D vwCl (cW (s0 + 1067) (s0 + 1068) (.inr (6, fin_X6 (zG s0 D cy) (s0 + 1068))) (es_X6 (zG s0 D cy) (s0 + 1068))) H) : va_at D vwCl ((zG s0 D cy).1 1081, ent (zG s0 D cy) z0 1081) H := by
  have h := h2 14 (s0 + 1081, (.inl ((zG s0 D cy).2.2 2, (11088, .inr (.inl (fun _ => 0)))))) ((cW_at (i := 13) (by rw [es_X6_flat]; rfl)).trans (by rw [show s0 + 1068 + 13 = s0 + 1081 by omega]))
  rw [ent_long (by decide)]
  exact zLong h (z0J (by decide))
set_option maxRecDepth 100000 in
set_option maxHeartbeats 2000000 in
theorem zc_1082 (h1 : va_P D vwCl (cW s0 (s0 + 1) (.inr (5, fin_X5 (zG s0 D cy) (s0 + 1))) (es_X5 (zG s0 D cy) (s0 + 1))) H) (h2 : va_P D vwCl (cW (s0 + 1067) (s0 + 1068) (.inr (6, fin_X6 (zG s0 D cy) (s0 + 1068))) (es_X6 (zG s0 D cy) (s0 + 1068))) H) : va_at D vwCl ((zG s0 D cy).1 1082, ent (zG s0 D cy) z0 1082) H := by
  have h := h2 15 (s0 + 1082, (.inl ((zG s0 D cy).2.2 3, (4096, .inl (fun _ => 0))))) ((cW_at (i := 14) (by rw [es_X6_flat]; rfl)).trans (by rw [show s0 + 1068 + 14 = s0 + 1082 by omega]))
  rw [ent_bool (by decide)]
  exact zInt h (z0I (by decide))
set_option maxRecDepth 100000 in
set_option maxHeartbeats 2000000 in
theorem zc_1083 (h1 : va_P D vwCl (cW s0 (s0 + 1) (.inr (5, fin_X5 (zG s0 D cy) (s0 + 1))) (es_X5 (zG s0 D cy) (s0 + 1))) H) (h2 : va_P D vwCl (cW (s0 + 1067) (s0 + 1068) (.inr (6, fin_X6 (zG s0 D cy) (s0 + 1068))) (es_X6 (zG s0 D cy) (s0 + 1068))) H) : va_at D vwCl ((zG s0 D cy).1 1083, ent (zG s0 D cy) z0 1083) H := by
  have h := h2 16 (s0 + 1083, (.inl ((zG s0 D cy).2.2 1, (13, .inl (fun _ => 0))))) ((cW_at (i := 15) (by rw [es_X6_flat]; rfl)).trans (by rw [show s0 + 1068 + 15 = s0 + 1083 by omega]))
  rw [ent_int (by decide)]
  exact zInt h (z0I (by decide))
set_option maxRecDepth 100000 in
set_option maxHeartbeats 2000000 in
theorem zc_1084 (h1 : va_P D vwCl (cW s0 (s0 + 1) (.inr (5, fin_X5 (zG s0 D cy) (s0 + 1))) (es_X5 (zG s0 D cy) (s0 + 1))) H) (h2 : va_P D vwCl (cW (s0 + 1067) (s0 + 1068) (.inr (6, fin_X6 (zG s0 D cy) (s0 + 1068))) (es_X6 (zG s0 D cy) (s0 + 1068))) H) : va_at D vwCl ((zG s0 D cy).1 1084, ent (zG s0 D cy) z0 1084) H := by
  have h := h2 17 (s0 + 1084, (.inl ((zG s0 D cy).2.2 2, (21, .inr (.inl (fun _ => 0)))))) ((cW_at (i := 16) (by rw [es_X6_flat]; rfl)).trans (by rw [show s0 + 1068 + 16 = s0 + 1084 by omega]))
  rw [ent_long (by decide)]
  exact zLong h (z0J (by decide))
set_option maxRecDepth 100000 in
set_option maxHeartbeats 2000000 in
theorem zc_1085 (h1 : va_P D vwCl (cW s0 (s0 + 1) (.inr (5, fin_X5 (zG s0 D cy) (s0 + 1))) (es_X5 (zG s0 D cy) (s0 + 1))) H) (h2 : va_P D vwCl (cW (s0 + 1067) (s0 + 1068) (.inr (6, fin_X6 (zG s0 D cy) (s0 + 1068))) (es_X6 (zG s0 D cy) (s0 + 1068))) H) : va_at D vwCl ((zG s0 D cy).1 1085, ent (zG s0 D cy) z0 1085) H := by
  have h := h2 18 (s0 + 1085, (.inl ((zG s0 D cy).2.2 2, (12, .inr (.inl (fun _ => 0)))))) ((cW_at (i := 17) (by rw [es_X6_flat]; rfl)).trans (by rw [show s0 + 1068 + 17 = s0 + 1085 by omega]))
  rw [ent_long (by decide)]
  exact zLong h (z0J (by decide))
set_option maxRecDepth 100000 in
set_option maxHeartbeats 2000000 in
theorem zc_1086 (h1 : va_P D vwCl (cW s0 (s0 + 1) (.inr (5, fin_X5 (zG s0 D cy) (s0 + 1))) (es_X5 (zG s0 D cy) (s0 + 1))) H) (h2 : va_P D vwCl (cW (s0 + 1067) (s0 + 1068) (.inr (6, fin_X6 (zG s0 D cy) (s0 + 1068))) (es_X6 (zG s0 D cy) (s0 + 1068))) H) : va_at D vwCl ((zG s0 D cy).1 1086, ent (zG s0 D cy) z0 1086) H := by
  have h := h2 19 (s0 + 1086, (.inl ((zG s0 D cy).2.2 2, (3, .inr (.inl (fun _ => 0)))))) ((cW_at (i := 18) (by rw [es_X6_flat]; rfl)).trans (by rw [show s0 + 1068 + 18 = s0 + 1086 by omega]))
  rw [ent_long (by decide)]
  exact zLong h (z0J (by decide))
set_option maxRecDepth 100000 in
set_option maxHeartbeats 2000000 in
theorem zc_1087 (h1 : va_P D vwCl (cW s0 (s0 + 1) (.inr (5, fin_X5 (zG s0 D cy) (s0 + 1))) (es_X5 (zG s0 D cy) (s0 + 1))) H) (h2 : va_P D vwCl (cW (s0 + 1067) (s0 + 1068) (.inr (6, fin_X6 (zG s0 D cy) (s0 + 1068))) (es_X6 (zG s0 D cy) (s0 + 1068))) H) : va_at D vwCl ((zG s0 D cy).1 1087, ent (zG s0 D cy) z0 1087) H := by
  have h := h2 20 (s0 + 1087, (.inl ((zG s0 D cy).2.2 2, (180, .inr (.inl (fun _ => 0)))))) ((cW_at (i := 19) (by rw [es_X6_flat]; rfl)).trans (by rw [show s0 + 1068 + 19 = s0 + 1087 by omega]))
  rw [ent_long (by decide)]
  exact zLong h (z0J (by decide))
set_option maxRecDepth 100000 in
set_option maxHeartbeats 2000000 in
theorem zc_1088 (h1 : va_P D vwCl (cW s0 (s0 + 1) (.inr (5, fin_X5 (zG s0 D cy) (s0 + 1))) (es_X5 (zG s0 D cy) (s0 + 1))) H) (h2 : va_P D vwCl (cW (s0 + 1067) (s0 + 1068) (.inr (6, fin_X6 (zG s0 D cy) (s0 + 1068))) (es_X6 (zG s0 D cy) (s0 + 1068))) H) : va_at D vwCl ((zG s0 D cy).1 1088, ent (zG s0 D cy) z0 1088) H := by
  have h := h2 21 (s0 + 1088, (.inl ((zG s0 D cy).2.2 2, (180, .inr (.inl (fun _ => 0)))))) ((cW_at (i := 20) (by rw [es_X6_flat]; rfl)).trans (by rw [show s0 + 1068 + 20 = s0 + 1088 by omega]))
  rw [ent_long (by decide)]
  exact zLong h (z0J (by decide))
set_option maxRecDepth 100000 in
set_option maxHeartbeats 2000000 in
theorem zc_1089 (h1 : va_P D vwCl (cW s0 (s0 + 1) (.inr (5, fin_X5 (zG s0 D cy) (s0 + 1))) (es_X5 (zG s0 D cy) (s0 + 1))) H) (h2 : va_P D vwCl (cW (s0 + 1067) (s0 + 1068) (.inr (6, fin_X6 (zG s0 D cy) (s0 + 1068))) (es_X6 (zG s0 D cy) (s0 + 1068))) H) : va_at D vwCl ((zG s0 D cy).1 1089, ent (zG s0 D cy) z0 1089) H := by
  have h := h2 22 (s0 + 1089, (.inl ((zG s0 D cy).2.2 1, (15, .inl (fun _ => 0))))) ((cW_at (i := 21) (by rw [es_X6_flat]; rfl)).trans (by rw [show s0 + 1068 + 21 = s0 + 1089 by omega]))
  rw [ent_int (by decide)]
  exact zInt h (z0I (by decide))
set_option maxRecDepth 100000 in
set_option maxHeartbeats 2000000 in
theorem zc_1090 (h1 : va_P D vwCl (cW s0 (s0 + 1) (.inr (5, fin_X5 (zG s0 D cy) (s0 + 1))) (es_X5 (zG s0 D cy) (s0 + 1))) H) (h2 : va_P D vwCl (cW (s0 + 1067) (s0 + 1068) (.inr (6, fin_X6 (zG s0 D cy) (s0 + 1068))) (es_X6 (zG s0 D cy) (s0 + 1068))) H) : va_at D vwCl ((zG s0 D cy).1 1090, ent (zG s0 D cy) z0 1090) H := by
  have h := h2 23 (s0 + 1090, (.inl ((zG s0 D cy).2.2 2, (3, .inr (.inl (fun _ => 0)))))) ((cW_at (i := 22) (by rw [es_X6_flat]; rfl)).trans (by rw [show s0 + 1068 + 22 = s0 + 1090 by omega]))
  rw [ent_long (by decide)]
  exact zLong h (z0J (by decide))
set_option maxRecDepth 100000 in
set_option maxHeartbeats 2000000 in
theorem zc_1091 (h1 : va_P D vwCl (cW s0 (s0 + 1) (.inr (5, fin_X5 (zG s0 D cy) (s0 + 1))) (es_X5 (zG s0 D cy) (s0 + 1))) H) (h2 : va_P D vwCl (cW (s0 + 1067) (s0 + 1068) (.inr (6, fin_X6 (zG s0 D cy) (s0 + 1068))) (es_X6 (zG s0 D cy) (s0 + 1068))) H) : va_at D vwCl ((zG s0 D cy).1 1091, ent (zG s0 D cy) z0 1091) H := by
  have h := h2 24 (s0 + 1091, (.inl ((zG s0 D cy).2.2 1, (12, .inl (fun _ => 0))))) ((cW_at (i := 23) (by rw [es_X6_flat]; rfl)).trans (by rw [show s0 + 1068 + 23 = s0 + 1091 by omega]))
  rw [ent_int (by decide)]
  exact zInt h (z0I (by decide))
set_option maxRecDepth 100000 in
set_option maxHeartbeats 2000000 in
theorem zc_1092 (h1 : va_P D vwCl (cW s0 (s0 + 1) (.inr (5, fin_X5 (zG s0 D cy) (s0 + 1))) (es_X5 (zG s0 D cy) (s0 + 1))) H) (h2 : va_P D vwCl (cW (s0 + 1067) (s0 + 1068) (.inr (6, fin_X6 (zG s0 D cy) (s0 + 1068))) (es_X6 (zG s0 D cy) (s0 + 1068))) H) : va_at D vwCl ((zG s0 D cy).1 1092, ent (zG s0 D cy) z0 1092) H := by
  have h := h2 25 (s0 + 1092, (.inl ((zG s0 D cy).2.2 2, (180, .inr (.inl (fun _ => 0)))))) ((cW_at (i := 24) (by rw [es_X6_flat]; rfl)).trans (by rw [show s0 + 1068 + 24 = s0 + 1092 by omega]))
  rw [ent_long (by decide)]
  exact zLong h (z0J (by decide))
set_option maxRecDepth 100000 in
set_option maxHeartbeats 2000000 in
theorem zc_1093 (h1 : va_P D vwCl (cW s0 (s0 + 1) (.inr (5, fin_X5 (zG s0 D cy) (s0 + 1))) (es_X5 (zG s0 D cy) (s0 + 1))) H) (h2 : va_P D vwCl (cW (s0 + 1067) (s0 + 1068) (.inr (6, fin_X6 (zG s0 D cy) (s0 + 1068))) (es_X6 (zG s0 D cy) (s0 + 1068))) H) : va_at D vwCl ((zG s0 D cy).1 1093, ent (zG s0 D cy) z0 1093) H := by
  have h := h2 26 (s0 + 1093, (.inl ((zG s0 D cy).2.2 2, (15, .inr (.inl (fun _ => 0)))))) ((cW_at (i := 25) (by rw [es_X6_flat]; rfl)).trans (by rw [show s0 + 1068 + 25 = s0 + 1093 by omega]))
  rw [ent_long (by decide)]
  exact zLong h (z0J (by decide))
set_option maxRecDepth 100000 in
set_option maxHeartbeats 2000000 in
theorem zc_1094 (h1 : va_P D vwCl (cW s0 (s0 + 1) (.inr (5, fin_X5 (zG s0 D cy) (s0 + 1))) (es_X5 (zG s0 D cy) (s0 + 1))) H) (h2 : va_P D vwCl (cW (s0 + 1067) (s0 + 1068) (.inr (6, fin_X6 (zG s0 D cy) (s0 + 1068))) (es_X6 (zG s0 D cy) (s0 + 1068))) H) : va_at D vwCl ((zG s0 D cy).1 1094, ent (zG s0 D cy) z0 1094) H := by
  have h := h2 27 (s0 + 1094, (.inl ((zG s0 D cy).2.2 2, (2, .inr (.inl (fun _ => 0)))))) ((cW_at (i := 26) (by rw [es_X6_flat]; rfl)).trans (by rw [show s0 + 1068 + 26 = s0 + 1094 by omega]))
  rw [ent_long (by decide)]
  exact zLong h (z0J (by decide))
set_option maxRecDepth 100000 in
set_option maxHeartbeats 2000000 in
theorem zc_1095 (h1 : va_P D vwCl (cW s0 (s0 + 1) (.inr (5, fin_X5 (zG s0 D cy) (s0 + 1))) (es_X5 (zG s0 D cy) (s0 + 1))) H) (h2 : va_P D vwCl (cW (s0 + 1067) (s0 + 1068) (.inr (6, fin_X6 (zG s0 D cy) (s0 + 1068))) (es_X6 (zG s0 D cy) (s0 + 1068))) H) : va_at D vwCl ((zG s0 D cy).1 1095, ent (zG s0 D cy) z0 1095) H := by
  have h := h2 28 (s0 + 1095, (.inl ((zG s0 D cy).2.2 2, (2, .inr (.inl (fun _ => 0)))))) ((cW_at (i := 27) (by rw [es_X6_flat]; rfl)).trans (by rw [show s0 + 1068 + 27 = s0 + 1095 by omega]))
  rw [ent_long (by decide)]
  exact zLong h (z0J (by decide))
set_option maxRecDepth 100000 in
set_option maxHeartbeats 2000000 in
theorem zc_1096 (h1 : va_P D vwCl (cW s0 (s0 + 1) (.inr (5, fin_X5 (zG s0 D cy) (s0 + 1))) (es_X5 (zG s0 D cy) (s0 + 1))) H) (h2 : va_P D vwCl (cW (s0 + 1067) (s0 + 1068) (.inr (6, fin_X6 (zG s0 D cy) (s0 + 1068))) (es_X6 (zG s0 D cy) (s0 + 1068))) H) : va_at D vwCl ((zG s0 D cy).1 1096, ent (zG s0 D cy) z0 1096) H := by
  have h := h2 29 (s0 + 1096, (.inl ((zG s0 D cy).2.2 3, (3, .inl (fun _ => 0))))) ((cW_at (i := 28) (by rw [es_X6_flat]; rfl)).trans (by rw [show s0 + 1068 + 28 = s0 + 1096 by omega]))
  rw [ent_bool (by decide)]
  exact zInt h (z0I (by decide))
set_option maxRecDepth 100000 in
set_option maxHeartbeats 2000000 in
theorem zc_1097 (h1 : va_P D vwCl (cW s0 (s0 + 1) (.inr (5, fin_X5 (zG s0 D cy) (s0 + 1))) (es_X5 (zG s0 D cy) (s0 + 1))) H) (h2 : va_P D vwCl (cW (s0 + 1067) (s0 + 1068) (.inr (6, fin_X6 (zG s0 D cy) (s0 + 1068))) (es_X6 (zG s0 D cy) (s0 + 1068))) H) : va_at D vwCl ((zG s0 D cy).1 1097, ent (zG s0 D cy) z0 1097) H := by
  have h := h2 30 (s0 + 1097, (.inl ((zG s0 D cy).2.2 1, (3, .inl (fun _ => 0))))) ((cW_at (i := 29) (by rw [es_X6_flat]; rfl)).trans (by rw [show s0 + 1068 + 29 = s0 + 1097 by omega]))
  rw [ent_int (by decide)]
  exact zInt h (z0I (by decide))
set_option maxRecDepth 100000 in
set_option maxHeartbeats 2000000 in
theorem zc_1098 (h1 : va_P D vwCl (cW s0 (s0 + 1) (.inr (5, fin_X5 (zG s0 D cy) (s0 + 1))) (es_X5 (zG s0 D cy) (s0 + 1))) H) (h2 : va_P D vwCl (cW (s0 + 1067) (s0 + 1068) (.inr (6, fin_X6 (zG s0 D cy) (s0 + 1068))) (es_X6 (zG s0 D cy) (s0 + 1068))) H) : va_at D vwCl ((zG s0 D cy).1 1098, ent (zG s0 D cy) z0 1098) H := by
  have h := h2 31 (s0 + 1098, (.inl ((zG s0 D cy).2.2 2, (6, .inr (.inl (fun _ => 0)))))) ((cW_at (i := 30) (by rw [es_X6_flat]; rfl)).trans (by rw [show s0 + 1068 + 30 = s0 + 1098 by omega]))
  rw [ent_long (by decide)]
  exact zLong h (z0J (by decide))
set_option maxRecDepth 100000 in
set_option maxHeartbeats 2000000 in
theorem zc_1099 (h1 : va_P D vwCl (cW s0 (s0 + 1) (.inr (5, fin_X5 (zG s0 D cy) (s0 + 1))) (es_X5 (zG s0 D cy) (s0 + 1))) H) (h2 : va_P D vwCl (cW (s0 + 1067) (s0 + 1068) (.inr (6, fin_X6 (zG s0 D cy) (s0 + 1068))) (es_X6 (zG s0 D cy) (s0 + 1068))) H) : va_at D vwCl ((zG s0 D cy).1 1099, ent (zG s0 D cy) z0 1099) H := by
  have h := h2 32 (s0 + 1099, (.inl ((zG s0 D cy).2.2 2, (6, .inr (.inl (fun _ => 0)))))) ((cW_at (i := 31) (by rw [es_X6_flat]; rfl)).trans (by rw [show s0 + 1068 + 31 = s0 + 1099 by omega]))
  rw [ent_long (by decide)]
  exact zLong h (z0J (by decide))
set_option maxRecDepth 100000 in
set_option maxHeartbeats 2000000 in
theorem zc_1100 (h1 : va_P D vwCl (cW s0 (s0 + 1) (.inr (5, fin_X5 (zG s0 D cy) (s0 + 1))) (es_X5 (zG s0 D cy) (s0 + 1))) H) (h2 : va_P D vwCl (cW (s0 + 1067) (s0 + 1068) (.inr (6, fin_X6 (zG s0 D cy) (s0 + 1068))) (es_X6 (zG s0 D cy) (s0 + 1068))) H) : va_at D vwCl ((zG s0 D cy).1 1100, ent (zG s0 D cy) z0 1100) H := by
  have h := h2 33 (s0 + 1100, (.inl ((zG s0 D cy).2.2 2, (12, .inr (.inl (fun _ => 0)))))) ((cW_at (i := 32) (by rw [es_X6_flat]; rfl)).trans (by rw [show s0 + 1068 + 32 = s0 + 1100 by omega]))
  rw [ent_long (by decide)]
  exact zLong h (z0J (by decide))
set_option maxRecDepth 100000 in
set_option maxHeartbeats 2000000 in
theorem zc_1101 (h1 : va_P D vwCl (cW s0 (s0 + 1) (.inr (5, fin_X5 (zG s0 D cy) (s0 + 1))) (es_X5 (zG s0 D cy) (s0 + 1))) H) (h2 : va_P D vwCl (cW (s0 + 1067) (s0 + 1068) (.inr (6, fin_X6 (zG s0 D cy) (s0 + 1068))) (es_X6 (zG s0 D cy) (s0 + 1068))) H) : va_at D vwCl ((zG s0 D cy).1 1101, ent (zG s0 D cy) z0 1101) H := by
  have h := h2 34 (s0 + 1101, (.inl ((zG s0 D cy).2.2 2, (12, .inr (.inl (fun _ => 0)))))) ((cW_at (i := 33) (by rw [es_X6_flat]; rfl)).trans (by rw [show s0 + 1068 + 33 = s0 + 1101 by omega]))
  rw [ent_long (by decide)]
  exact zLong h (z0J (by decide))
set_option maxRecDepth 100000 in
set_option maxHeartbeats 2000000 in
theorem zc_1102 (h1 : va_P D vwCl (cW s0 (s0 + 1) (.inr (5, fin_X5 (zG s0 D cy) (s0 + 1))) (es_X5 (zG s0 D cy) (s0 + 1))) H) (h2 : va_P D vwCl (cW (s0 + 1067) (s0 + 1068) (.inr (6, fin_X6 (zG s0 D cy) (s0 + 1068))) (es_X6 (zG s0 D cy) (s0 + 1068))) H) : va_at D vwCl ((zG s0 D cy).1 1102, ent (zG s0 D cy) z0 1102) H := by
  have h := h2 35 (s0 + 1102, (.inl ((zG s0 D cy).2.2 2, (12, .inr (.inl (fun _ => 0)))))) ((cW_at (i := 34) (by rw [es_X6_flat]; rfl)).trans (by rw [show s0 + 1068 + 34 = s0 + 1102 by omega]))
  rw [ent_long (by decide)]
  exact zLong h (z0J (by decide))
set_option maxRecDepth 100000 in
set_option maxHeartbeats 2000000 in
theorem zc_1103 (h1 : va_P D vwCl (cW s0 (s0 + 1) (.inr (5, fin_X5 (zG s0 D cy) (s0 + 1))) (es_X5 (zG s0 D cy) (s0 + 1))) H) (h2 : va_P D vwCl (cW (s0 + 1067) (s0 + 1068) (.inr (6, fin_X6 (zG s0 D cy) (s0 + 1068))) (es_X6 (zG s0 D cy) (s0 + 1068))) H) : va_at D vwCl ((zG s0 D cy).1 1103, ent (zG s0 D cy) z0 1103) H := by
  have h := h2 36 (s0 + 1103, (.inl ((zG s0 D cy).2.2 2, (12, .inr (.inl (fun _ => 0)))))) ((cW_at (i := 35) (by rw [es_X6_flat]; rfl)).trans (by rw [show s0 + 1068 + 35 = s0 + 1103 by omega]))
  rw [ent_long (by decide)]
  exact zLong h (z0J (by decide))
set_option maxRecDepth 100000 in
set_option maxHeartbeats 2000000 in
theorem zc_1104 (h1 : va_P D vwCl (cW s0 (s0 + 1) (.inr (5, fin_X5 (zG s0 D cy) (s0 + 1))) (es_X5 (zG s0 D cy) (s0 + 1))) H) (h2 : va_P D vwCl (cW (s0 + 1067) (s0 + 1068) (.inr (6, fin_X6 (zG s0 D cy) (s0 + 1068))) (es_X6 (zG s0 D cy) (s0 + 1068))) H) : va_at D vwCl ((zG s0 D cy).1 1104, ent (zG s0 D cy) z0 1104) H := by
  have h := h2 37 (s0 + 1104, (.inl ((zG s0 D cy).2.2 1, (166, .inl (fun _ => 0))))) ((cW_at (i := 36) (by rw [es_X6_flat]; rfl)).trans (by rw [show s0 + 1068 + 36 = s0 + 1104 by omega]))
  rw [ent_int (by decide)]
  exact zInt h (z0I (by decide))
set_option maxRecDepth 100000 in
set_option maxHeartbeats 2000000 in
theorem zc_1105 (h1 : va_P D vwCl (cW s0 (s0 + 1) (.inr (5, fin_X5 (zG s0 D cy) (s0 + 1))) (es_X5 (zG s0 D cy) (s0 + 1))) H) (h2 : va_P D vwCl (cW (s0 + 1067) (s0 + 1068) (.inr (6, fin_X6 (zG s0 D cy) (s0 + 1068))) (es_X6 (zG s0 D cy) (s0 + 1068))) H) : va_at D vwCl ((zG s0 D cy).1 1105, ent (zG s0 D cy) z0 1105) H := by
  have h := h2 38 (s0 + 1105, (.inl ((zG s0 D cy).2.2 3, (2, .inl (fun _ => 0))))) ((cW_at (i := 37) (by rw [es_X6_flat]; rfl)).trans (by rw [show s0 + 1068 + 37 = s0 + 1105 by omega]))
  rw [ent_bool (by decide)]
  exact zInt h (z0I (by decide))
end ZFIRST
