theorem es5_bal (G : ZG) (b : Nat) {i : Nat} (hi : i < 1022) : (es_X5 G b)[43 + i]? = ((.inr (0, fin_X0 G (b + 44)) : va_E) :: es_X0 G (b + 44))[i]? := by
  unfold es_X5
  refine (List.getElem?_append_left (by simp only [List.length_append, List.length_cons, List.length_nil, List.length_replicate, es_X5_len, es_X2_len, es_X0_len, es_X1_len, es_X3_len, es_X4_len] <;> omega)).trans ?_
  refine (List.getElem?_append_right (by simp only [List.length_append, List.length_cons, List.length_nil, List.length_replicate, es_X5_len, es_X2_len, es_X0_len, es_X1_len, es_X3_len, es_X4_len] <;> omega)).trans ?_
  congr 1
  simp only [List.length_append, List.length_cons, List.length_nil, List.length_replicate, es_X5_len, es_X2_len, es_X0_len, es_X1_len, es_X3_len, es_X4_len] <;> omega
theorem es0_mech (G : ZG) (b : Nat) {i : Nat} (hi : i < 1011) : (es_X0 G b)[i]? = ((.inr (3, fin_X3 G (b + 1)) : va_E) :: es_X3 G (b + 1))[i]? := by
  unfold es_X0
  refine (List.getElem?_append_left (by simp only [List.length_append, List.length_cons, List.length_nil, List.length_replicate, es_X5_len, es_X2_len, es_X0_len, es_X1_len, es_X3_len, es_X4_len] <;> omega)).trans ?_
  refine (List.getElem?_append_left (by simp only [List.length_append, List.length_cons, List.length_nil, List.length_replicate, es_X5_len, es_X2_len, es_X0_len, es_X1_len, es_X3_len, es_X4_len] <;> omega)).trans ?_
  refine (List.getElem?_append_left (by simp only [List.length_append, List.length_cons, List.length_nil, List.length_replicate, es_X5_len, es_X2_len, es_X0_len, es_X1_len, es_X3_len, es_X4_len] <;> omega)).trans ?_
  refine (List.getElem?_append_left (by simp only [List.length_append, List.length_cons, List.length_nil, List.length_replicate, es_X5_len, es_X2_len, es_X0_len, es_X1_len, es_X3_len, es_X4_len] <;> omega)).trans ?_
  refine (List.getElem?_append_left (by simp only [List.length_append, List.length_cons, List.length_nil, List.length_replicate, es_X5_len, es_X2_len, es_X0_len, es_X1_len, es_X3_len, es_X4_len] <;> omega)).trans ?_
  refine (List.getElem?_append_left (by simp only [List.length_append, List.length_cons, List.length_nil, List.length_replicate, es_X5_len, es_X2_len, es_X0_len, es_X1_len, es_X3_len, es_X4_len] <;> omega)).trans ?_
  refine (List.getElem?_append_left (by simp only [List.length_append, List.length_cons, List.length_nil, List.length_replicate, es_X5_len, es_X2_len, es_X0_len, es_X1_len, es_X3_len, es_X4_len] <;> omega)).trans ?_
  rw [List.nil_append]
theorem es3_mot (G : ZG) (b : Nat) {i : Nat} (hi : i < 84) : (es_X3 G b)[i]? = ((.inr (4, fin_X4 G (b + 1)) : va_E) :: es_X4 G (b + 1))[i]? := by
  unfold es_X3
  refine (List.getElem?_append_left (by simp only [List.length_append, List.length_cons, List.length_nil, List.length_replicate, es_X5_len, es_X2_len, es_X0_len, es_X1_len, es_X3_len, es_X4_len] <;> omega)).trans ?_
  refine (List.getElem?_append_left (by simp only [List.length_append, List.length_cons, List.length_nil, List.length_replicate, es_X5_len, es_X2_len, es_X0_len, es_X1_len, es_X3_len, es_X4_len] <;> omega)).trans ?_
  rw [List.nil_append]
theorem es3_rows (G : ZG) (b : Nat) {i : Nat} (hi : i < 924) : (es_X3 G b)[86 + i]? = some (.inl (G.2.2 2, (26, .inr (.inl (fun _ => 0))))) := by
  unfold es_X3
  refine (List.getElem?_append_right (by simp only [List.length_append, List.length_cons, List.length_nil, List.length_replicate, es_X5_len, es_X2_len, es_X0_len, es_X1_len, es_X3_len, es_X4_len] <;> omega)).trans ?_
  have e2 : 86 + i - ((([] : List va_E) ++ (.inr (4, fin_X4 G (b + 1)) :: es_X4 G (b + 1))) ++ [(.inl (G.2.2 1, (924, .inl (fun _ => 0))) : va_E)]).length = i + 1 := by
    simp only [List.length_append, List.length_cons, List.length_nil, List.length_replicate, es_X5_len, es_X2_len, es_X0_len, es_X1_len, es_X3_len, es_X4_len] <;> omega
  rw [e2, List.getElem?_cons_succ, List.getElem?_replicate, if_pos hi]
theorem es4_rows (G : ZG) (b : Nat) {i : Nat} (hi : i < 78) : (es_X4 G b)[1 + i]? = some (.inl (G.2.2 2, (26, .inr (.inl (fun _ => 0))))) := by
  unfold es_X4
  refine (List.getElem?_append_left (by simp only [List.length_append, List.length_cons, List.length_nil, List.length_replicate, es_X5_len, es_X2_len, es_X0_len, es_X1_len, es_X3_len, es_X4_len] <;> omega)).trans ?_
  refine (List.getElem?_append_left (by simp only [List.length_append, List.length_cons, List.length_nil, List.length_replicate, es_X5_len, es_X2_len, es_X0_len, es_X1_len, es_X3_len, es_X4_len] <;> omega)).trans ?_
  rw [List.nil_append, Nat.add_comm 1 i, List.getElem?_cons_succ, List.getElem?_replicate, if_pos hi]
section ZFIRST
variable {s0 : Nat} {D : va_G} {cy : Nat → ClassId} {H : Heap}
theorem zc_rows (h1 : va_P D vwCl (cW s0 (s0 + 1) (.inr (5, fin_X5 (zG s0 D cy) (s0 + 1))) (es_X5 (zG s0 D cy) (s0 + 1))) H) (h2 : va_P D vwCl (cW (s0 + 1067) (s0 + 1068) (.inr (6, fin_X6 (zG s0 D cy) (s0 + 1068))) (es_X6 (zG s0 D cy) (s0 + 1068))) H) {i : Nat} (hi : i < 78) : va_at D vwCl ((zG s0 D cy).1 (65 + i), ent (zG s0 D cy) z0 (65 + i)) H := by
  have ht : tg (65 + i) = 2 := by
    unfold tg
    repeat' split
    all_goals first | rfl | omega
  have hl : ln (65 + i) = 26 := by
    unfold ln
    repeat' split
    all_goals first | rfl | omega
  have ho : zOff (65 + i) = 48 + i := by
    unfold zOff
    rw [if_neg (by omega)]
    first | (rw [if_pos (by omega)]; omega) | (rw [if_neg (by omega), if_pos (by omega)]; omega)
  rw [ent_long ht, hl]
  show va_at D vwCl (s0 + zOff (65 + i), _) H
  rw [ho]
  have e : (es_X5 (zG s0 D cy) (s0 + 1))[47 + i]? = some (.inl ((zG s0 D cy).2.2 2, (26, .inr (.inl (fun _ => 0))))) := by
    rw [show 47 + i = 43 + (4 + i) by omega, es5_bal _ _ (by omega), show 4 + i = (3 + i) + 1 by omega, List.getElem?_cons_succ, es0_mech _ _ (by omega), show 3 + i = (2 + i) + 1 by omega, List.getElem?_cons_succ, es3_mot _ _ (by omega), show 2 + i = (1 + i) + 1 by omega, List.getElem?_cons_succ, es4_rows _ _ hi]
  have h := h1 (47 + i + 1) _ (cW_at e)
  rw [show s0 + 1 + (47 + i) = s0 + (48 + i) by omega] at h
  exact zLong h (z0J (by omega))
theorem zc_mots (h1 : va_P D vwCl (cW s0 (s0 + 1) (.inr (5, fin_X5 (zG s0 D cy) (s0 + 1))) (es_X5 (zG s0 D cy) (s0 + 1))) H) (h2 : va_P D vwCl (cW (s0 + 1067) (s0 + 1068) (.inr (6, fin_X6 (zG s0 D cy) (s0 + 1068))) (es_X6 (zG s0 D cy) (s0 + 1068))) H) {i : Nat} (hi : i < 924) : va_at D vwCl ((zG s0 D cy).1 (143 + i), ent (zG s0 D cy) z0 (143 + i)) H := by
  have ht : tg (143 + i) = 2 := by
    unfold tg
    repeat' split
    all_goals first | rfl | omega
  have hl : ln (143 + i) = 26 := by
    unfold ln
    repeat' split
    all_goals first | rfl | omega
  have ho : zOff (143 + i) = 132 + i := by
    unfold zOff
    rw [if_neg (by omega)]
    first | (rw [if_pos (by omega)]; omega) | (rw [if_neg (by omega), if_pos (by omega)]; omega)
  rw [ent_long ht, hl]
  show va_at D vwCl (s0 + zOff (143 + i), _) H
  rw [ho]
  have e : (es_X5 (zG s0 D cy) (s0 + 1))[131 + i]? = some (.inl ((zG s0 D cy).2.2 2, (26, .inr (.inl (fun _ => 0))))) := by
    rw [show 131 + i = 43 + (88 + i) by omega, es5_bal _ _ (by omega), show 88 + i = (87 + i) + 1 by omega, List.getElem?_cons_succ, es0_mech _ _ (by omega), show 87 + i = (86 + i) + 1 by omega, List.getElem?_cons_succ, es3_rows _ _ hi]
  have h := h1 (131 + i + 1) _ (cW_at e)
  rw [show s0 + 1 + (131 + i) = s0 + (132 + i) by omega] at h
  exact zLong h (z0J (by omega))
set_option maxRecDepth 100000 in
theorem zc_low (h1 : va_P D vwCl (cW s0 (s0 + 1) (.inr (5, fin_X5 (zG s0 D cy) (s0 + 1))) (es_X5 (zG s0 D cy) (s0 + 1))) H) (h2 : va_P D vwCl (cW (s0 + 1067) (s0 + 1068) (.inr (6, fin_X6 (zG s0 D cy) (s0 + 1068))) (es_X6 (zG s0 D cy) (s0 + 1068))) H) : ∀ c ∈ ([0, 1, 2, 3, 4, 5, 6, 7, 8, 9, 10, 11, 12, 13, 14, 15, 16, 17, 18, 19, 20, 21, 22, 23, 24, 25, 26, 27, 28, 29, 30, 31, 32, 33, 34, 35, 36, 37, 38, 39, 40, 41, 42, 43, 44, 45, 46, 47, 48, 49, 50, 51, 52, 53, 54, 55, 56, 57, 58, 59, 60, 61, 62, 63, 64] : List Nat), va_at D vwCl ((zG s0 D cy).1 c, ent (zG s0 D cy) z0 c) H := List.forall_mem_cons.mpr ⟨zc_0 h1 h2, List.forall_mem_cons.mpr ⟨zc_1 h1 h2, List.forall_mem_cons.mpr ⟨zc_2 h1 h2, List.forall_mem_cons.mpr ⟨zc_3 h1 h2, List.forall_mem_cons.mpr ⟨zc_4 h1 h2, List.forall_mem_cons.mpr ⟨zc_5 h1 h2, List.forall_mem_cons.mpr ⟨zc_6 h1 h2, List.forall_mem_cons.mpr ⟨zc_7 h1 h2, List.forall_mem_cons.mpr ⟨zc_8 h1 h2, List.forall_mem_cons.mpr ⟨zc_9 h1 h2, List.forall_mem_cons.mpr ⟨zc_10 h1 h2, List.forall_mem_cons.mpr ⟨zc_11 h1 h2, List.forall_mem_cons.mpr ⟨zc_12 h1 h2, List.forall_mem_cons.mpr ⟨zc_13 h1 h2, List.forall_mem_cons.mpr ⟨zc_14 h1 h2, List.forall_mem_cons.mpr ⟨zc_15 h1 h2, List.forall_mem_cons.mpr ⟨zc_16 h1 h2, List.forall_mem_cons.mpr ⟨zc_17 h1 h2, List.forall_mem_cons.mpr ⟨zc_18 h1 h2, List.forall_mem_cons.mpr ⟨zc_19 h1 h2, List.forall_mem_cons.mpr ⟨zc_20 h1 h2, List.forall_mem_cons.mpr ⟨zc_21 h1 h2, List.forall_mem_cons.mpr ⟨zc_22 h1 h2, List.forall_mem_cons.mpr ⟨zc_23 h1 h2, List.forall_mem_cons.mpr ⟨zc_24 h1 h2, List.forall_mem_cons.mpr ⟨zc_25 h1 h2, List.forall_mem_cons.mpr ⟨zc_26 h1 h2, List.forall_mem_cons.mpr ⟨zc_27 h1 h2, List.forall_mem_cons.mpr ⟨zc_28 h1 h2, List.forall_mem_cons.mpr ⟨zc_29 h1 h2, List.forall_mem_cons.mpr ⟨zc_30 h1 h2, List.forall_mem_cons.mpr ⟨zc_31 h1 h2, List.forall_mem_cons.mpr ⟨zc_32 h1 h2, List.forall_mem_cons.mpr ⟨zc_33 h1 h2, List.forall_mem_cons.mpr ⟨zc_34 h1 h2, List.forall_mem_cons.mpr ⟨zc_35 h1 h2, List.forall_mem_cons.mpr ⟨zc_36 h1 h2, List.forall_mem_cons.mpr ⟨zc_37 h1 h2, List.forall_mem_cons.mpr ⟨zc_38 h1 h2, List.forall_mem_cons.mpr ⟨zc_39 h1 h2, List.forall_mem_cons.mpr ⟨zc_40 h1 h2, List.forall_mem_cons.mpr ⟨zc_41 h1 h2, List.forall_mem_cons.mpr ⟨zc_42 h1 h2, List.forall_mem_cons.mpr ⟨zc_43 h1 h2, List.forall_mem_cons.mpr ⟨zc_44 h1 h2, List.forall_mem_cons.mpr ⟨zc_45 h1 h2, List.forall_mem_cons.mpr ⟨zc_46 h1 h2, List.forall_mem_cons.mpr ⟨zc_47 h1 h2, List.forall_mem_cons.mpr ⟨zc_48 h1 h2, List.forall_mem_cons.mpr ⟨zc_49 h1 h2, List.forall_mem_cons.mpr ⟨zc_50 h1 h2, List.forall_mem_cons.mpr ⟨zc_51 h1 h2, List.forall_mem_cons.mpr ⟨zc_52 h1 h2, List.forall_mem_cons.mpr ⟨zc_53 h1 h2, List.forall_mem_cons.mpr ⟨zc_54 h1 h2, List.forall_mem_cons.mpr ⟨zc_55 h1 h2, List.forall_mem_cons.mpr ⟨zc_56 h1 h2, List.forall_mem_cons.mpr ⟨zc_57 h1 h2, List.forall_mem_cons.mpr ⟨zc_58 h1 h2, List.forall_mem_cons.mpr ⟨zc_59 h1 h2, List.forall_mem_cons.mpr ⟨zc_60 h1 h2, List.forall_mem_cons.mpr ⟨zc_61 h1 h2, List.forall_mem_cons.mpr ⟨zc_62 h1 h2, List.forall_mem_cons.mpr ⟨zc_63 h1 h2, List.forall_mem_cons.mpr ⟨zc_64 h1 h2, fun _ h => absurd h List.not_mem_nil⟩⟩⟩⟩⟩⟩⟩⟩⟩⟩⟩⟩⟩⟩⟩⟩⟩⟩⟩⟩⟩⟩⟩⟩⟩⟩⟩⟩⟩⟩⟩⟩⟩⟩⟩⟩⟩⟩⟩⟩⟩⟩⟩⟩⟩⟩⟩⟩⟩⟩⟩⟩⟩⟩⟩⟩⟩⟩⟩⟩⟩⟩⟩⟩⟩
set_option maxRecDepth 100000 in
theorem zc_high (h1 : va_P D vwCl (cW s0 (s0 + 1) (.inr (5, fin_X5 (zG s0 D cy) (s0 + 1))) (es_X5 (zG s0 D cy) (s0 + 1))) H) (h2 : va_P D vwCl (cW (s0 + 1067) (s0 + 1068) (.inr (6, fin_X6 (zG s0 D cy) (s0 + 1068))) (es_X6 (zG s0 D cy) (s0 + 1068))) H) : ∀ c ∈ ([1067, 1068, 1069, 1070, 1071, 1072, 1073, 1074, 1075, 1076, 1077, 1078, 1079, 1080, 1081, 1082, 1083, 1084, 1085, 1086, 1087, 1088, 1089, 1090, 1091, 1092, 1093, 1094, 1095, 1096, 1097, 1098, 1099, 1100, 1101, 1102, 1103, 1104, 1105] : List Nat), va_at D vwCl ((zG s0 D cy).1 c, ent (zG s0 D cy) z0 c) H := List.forall_mem_cons.mpr ⟨zc_1067 h1 h2, List.forall_mem_cons.mpr ⟨zc_1068 h1 h2, List.forall_mem_cons.mpr ⟨zc_1069 h1 h2, List.forall_mem_cons.mpr ⟨zc_1070 h1 h2, List.forall_mem_cons.mpr ⟨zc_1071 h1 h2, List.forall_mem_cons.mpr ⟨zc_1072 h1 h2, List.forall_mem_cons.mpr ⟨zc_1073 h1 h2, List.forall_mem_cons.mpr ⟨zc_1074 h1 h2, List.forall_mem_cons.mpr ⟨zc_1075 h1 h2, List.forall_mem_cons.mpr ⟨zc_1076 h1 h2, List.forall_mem_cons.mpr ⟨zc_1077 h1 h2, List.forall_mem_cons.mpr ⟨zc_1078 h1 h2, List.forall_mem_cons.mpr ⟨zc_1079 h1 h2, List.forall_mem_cons.mpr ⟨zc_1080 h1 h2, List.forall_mem_cons.mpr ⟨zc_1081 h1 h2, List.forall_mem_cons.mpr ⟨zc_1082 h1 h2, List.forall_mem_cons.mpr ⟨zc_1083 h1 h2, List.forall_mem_cons.mpr ⟨zc_1084 h1 h2, List.forall_mem_cons.mpr ⟨zc_1085 h1 h2, List.forall_mem_cons.mpr ⟨zc_1086 h1 h2, List.forall_mem_cons.mpr ⟨zc_1087 h1 h2, List.forall_mem_cons.mpr ⟨zc_1088 h1 h2, List.forall_mem_cons.mpr ⟨zc_1089 h1 h2, List.forall_mem_cons.mpr ⟨zc_1090 h1 h2, List.forall_mem_cons.mpr ⟨zc_1091 h1 h2, List.forall_mem_cons.mpr ⟨zc_1092 h1 h2, List.forall_mem_cons.mpr ⟨zc_1093 h1 h2, List.forall_mem_cons.mpr ⟨zc_1094 h1 h2, List.forall_mem_cons.mpr ⟨zc_1095 h1 h2, List.forall_mem_cons.mpr ⟨zc_1096 h1 h2, List.forall_mem_cons.mpr ⟨zc_1097 h1 h2, List.forall_mem_cons.mpr ⟨zc_1098 h1 h2, List.forall_mem_cons.mpr ⟨zc_1099 h1 h2, List.forall_mem_cons.mpr ⟨zc_1100 h1 h2, List.forall_mem_cons.mpr ⟨zc_1101 h1 h2, List.forall_mem_cons.mpr ⟨zc_1102 h1 h2, List.forall_mem_cons.mpr ⟨zc_1103 h1 h2, List.forall_mem_cons.mpr ⟨zc_1104 h1 h2, List.forall_mem_cons.mpr ⟨zc_1105 h1 h2, fun _ h => absurd h List.not_mem_nil⟩⟩⟩⟩⟩⟩⟩⟩⟩⟩⟩⟩⟩⟩⟩⟩⟩⟩⟩⟩⟩⟩⟩⟩⟩⟩⟩⟩⟩⟩⟩⟩⟩⟩⟩⟩⟩⟩⟩
theorem in_low : ∀ c, c < 65 → c ∈ ([0, 1, 2, 3, 4, 5, 6, 7, 8, 9, 10, 11, 12, 13, 14, 15, 16, 17, 18, 19, 20, 21, 22, 23, 24, 25, 26, 27, 28, 29, 30, 31, 32, 33, 34, 35, 36, 37, 38, 39, 40, 41, 42, 43, 44, 45, 46, 47, 48, 49, 50, 51, 52, 53, 54, 55, 56, 57, 58, 59, 60, 61, 62, 63, 64] : List Nat) := by decide +kernel
theorem in_high : ∀ c, c < 39 → 1067 + c ∈ ([1067, 1068, 1069, 1070, 1071, 1072, 1073, 1074, 1075, 1076, 1077, 1078, 1079, 1080, 1081, 1082, 1083, 1084, 1085, 1086, 1087, 1088, 1089, 1090, 1091, 1092, 1093, 1094, 1095, 1096, 1097, 1098, 1099, 1100, 1101, 1102, 1103, 1104, 1105] : List Nat) := by decide +kernel
theorem zc_all (h1 : va_P D vwCl (cW s0 (s0 + 1) (.inr (5, fin_X5 (zG s0 D cy) (s0 + 1))) (es_X5 (zG s0 D cy) (s0 + 1))) H) (h2 : va_P D vwCl (cW (s0 + 1067) (s0 + 1068) (.inr (6, fin_X6 (zG s0 D cy) (s0 + 1068))) (es_X6 (zG s0 D cy) (s0 + 1068))) H) : va_P D vwCl (zW (zG s0 D cy) z0) H := by
  intro k q hk
  obtain ⟨hc, rfl⟩ := zW_inv hk
  unfold zN at hc
  by_cases a0 : k < 65
  · exact zc_low h1 h2 k (in_low k a0)
  · by_cases a : k < 143
    · obtain ⟨i, rfl⟩ : ∃ i, k = 65 + i := ⟨k - 65, by omega⟩
      exact zc_rows h1 h2 (by omega)
    · by_cases b : k < 1067
      · obtain ⟨i, rfl⟩ : ∃ i, k = 143 + i := ⟨k - 143, by omega⟩
        exact zc_mots h1 h2 (by omega)
      · obtain ⟨i, rfl⟩ : ∃ i, k = 1067 + i := ⟨k - 1067, by omega⟩
        exact zc_high h1 h2 _ (in_high i (by omega))
end ZFIRST
set_option maxRecDepth 100000 in
theorem zG_inj (s0 : Nat) (D : va_G) (cy : Nat → ClassId) : zI (zG s0 D cy) := by
  have hlow : ∀ i, i < 65 → ∀ j, j < 65 → zOff i = zOff j → i = j := by decide +kernel
  have hl2 : ∀ i, i < 65 → (zOff i < 48 ∨ zOff i = 126 ∨ zOff i = 127 ∨ zOff i = 128 ∨ zOff i = 129 ∨ zOff i = 130 ∨ zOff i = 131 ∨ (1056 ≤ zOff i ∧ zOff i < 1067)) := by decide +kernel
  have h2 : ∀ i, 65 ≤ i → i < 143 → zOff i = i - 17 := fun i a b => by unfold zOff; rw [if_neg (by omega), if_pos b]
  have h3 : ∀ i, 143 ≤ i → i < 1067 → zOff i = i - 11 := fun i a b => by unfold zOff; rw [if_neg (by omega), if_neg (by omega), if_pos b]
  have h4 : ∀ i, 1067 ≤ i → zOff i = i := fun i a => by unfold zOff; rw [if_neg (by omega), if_neg (by omega), if_neg (by omega)]
  intro i j hi hj e
  have e : zOff i = zOff j := Nat.add_left_cancel (show s0 + zOff i = s0 + zOff j from e)
  by_cases a1 : i < 65 <;> by_cases b1 : j < 65
  · exact hlow i a1 j b1 e
  · have q := hl2 i a1
    by_cases b2 : j < 143
    · rw [h2 j (by omega) b2] at e; omega
    · by_cases b3 : j < 1067
      · rw [h3 j (by omega) b3] at e; omega
      · rw [h4 j (by omega)] at e; omega
  · have q := hl2 j b1
    by_cases b2 : i < 143
    · rw [h2 i (by omega) b2] at e; omega
    · by_cases b3 : i < 1067
      · rw [h3 i (by omega) b3] at e; omega
      · rw [h4 i (by omega)] at e; omega
  · by_cases a2 : i < 143 <;> by_cases b2 : j < 143
    · rw [h2 i (by omega) a2, h2 j (by omega) b2] at e; omega
    · rw [h2 i (by omega) a2] at e
      by_cases b3 : j < 1067
      · rw [h3 j (by omega) b3] at e; omega
      · rw [h4 j (by omega)] at e; omega
    · rw [h2 j (by omega) b2] at e
      by_cases a3 : i < 1067
      · rw [h3 i (by omega) a3] at e; omega
      · rw [h4 i (by omega)] at e; omega
    · by_cases a3 : i < 1067 <;> by_cases b3 : j < 1067
      · rw [h3 i (by omega) a3, h3 j (by omega) b3] at e; omega
      · rw [h3 i (by omega) a3, h4 j (by omega)] at e; omega
      · rw [h4 i (by omega), h3 j (by omega) b3] at e; omega
      · rw [h4 i (by omega), h4 j (by omega)] at e; omega
