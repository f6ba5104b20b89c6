theorem wd_9 : Cond.methodLink RX5 3 objectInit ∈ WA := List.mem_of_getElem? (i := 9) (by decide +kernel)
theorem wd_10 : Cond.instanceMethod objectInit ∈ WA := List.mem_of_getElem? (i := 10) (by decide +kernel)
theorem wd_11 : Cond.code objectInit ⟨#[0xb1]⟩ 1 none ∈ WA := List.mem_of_getElem? (i := 11) (by decide +kernel)
theorem wd_12 : Cond.classLink RX5 9 RX2 ∈ WA := List.mem_of_getElem? (i := 12) (by decide +kernel)
theorem wd_13 : Cond.instantiable RX2 9 ∈ WA := List.mem_of_getElem? (i := 13) (by decide +kernel)
theorem wd_17 : Cond.classLink RX5 20 RX0 ∈ WA := List.mem_of_getElem? (i := 17) (by decide +kernel)
theorem wd_18 : Cond.instantiable RX0 12 ∈ WA := List.mem_of_getElem? (i := 18) (by decide +kernel)
theorem wd_23 : Cond.classLink RX5 39 RX1 ∈ WA := List.mem_of_getElem? (i := 23) (by decide +kernel)
theorem wd_24 : Cond.instantiable RX1 2 ∈ WA := List.mem_of_getElem? (i := 24) (by decide +kernel)
theorem wd_27 : Cond.methodLink RX5 11 yX2_init ∈ WA := List.mem_of_getElem? (i := 27) (by decide +kernel)
theorem wd_28 : Cond.instanceMethod yX2_init ∈ WA := List.mem_of_getElem? (i := 28) (by decide +kernel)
theorem wd_29 : Cond.code yX2_init cX2_init 1 none ∈ WA := List.mem_of_getElem? (i := 29) (by decide +kernel)
theorem wd_30 : Cond.methodLink RX2 3 objectInit ∈ WA := List.mem_of_getElem? (i := 30) (by decide +kernel)
theorem wd_31 : Cond.arrayClass .int ∈ WA := List.mem_of_getElem? (i := 31) (by decide +kernel)
theorem wd_38 : Cond.classLink RX2 30 "[[I" ∈ WA := List.mem_of_getElem? (i := 38) (by decide +kernel)
theorem wd_40 : Cond.methodLink RX5 22 yX0_init ∈ WA := List.mem_of_getElem? (i := 40) (by decide +kernel)
theorem wd_41 : Cond.instanceMethod yX0_init ∈ WA := List.mem_of_getElem? (i := 41) (by decide +kernel)
theorem wd_42 : Cond.code yX0_init cX0_init 1 none ∈ WA := List.mem_of_getElem? (i := 42) (by decide +kernel)
theorem wd_43 : Cond.methodLink RX0 3 objectInit ∈ WA := List.mem_of_getElem? (i := 43) (by decide +kernel)
theorem wd_44 : Cond.classLink RX0 9 RX3 ∈ WA := List.mem_of_getElem? (i := 44) (by decide +kernel)
theorem wd_45 : Cond.instantiable RX3 4 ∈ WA := List.mem_of_getElem? (i := 45) (by decide +kernel)
theorem wd_49 : Cond.classLink RX0 22 "[[J" ∈ WA := List.mem_of_getElem? (i := 49) (by decide +kernel)
theorem wd_50 : Cond.arrayClass .long ∈ WA := List.mem_of_getElem? (i := 50) (by decide +kernel)
theorem wd_53 : Cond.classLink RX0 31 RX1 ∈ WA := List.mem_of_getElem? (i := 53) (by decide +kernel)
theorem wd_58 : Cond.methodLink RX0 11 yX3_init ∈ WA := List.mem_of_getElem? (i := 58) (by decide +kernel)
theorem wd_59 : Cond.instanceMethod yX3_init ∈ WA := List.mem_of_getElem? (i := 59) (by decide +kernel)
theorem wd_60 : Cond.code yX3_init cX3_init 1 none ∈ WA := List.mem_of_getElem? (i := 60) (by decide +kernel)
theorem wd_61 : Cond.methodLink RX3 3 objectInit ∈ WA := List.mem_of_getElem? (i := 61) (by decide +kernel)
theorem wd_62 : Cond.classLink RX3 9 RX4 ∈ WA := List.mem_of_getElem? (i := 62) (by decide +kernel)
theorem wd_63 : Cond.instantiable RX4 7 ∈ WA := List.mem_of_getElem? (i := 63) (by decide +kernel)
theorem wd_67 : Cond.classLink RX3 22 "[[J" ∈ WA := List.mem_of_getElem? (i := 67) (by decide +kernel)
theorem wd_69 : Cond.methodLink RX3 11 yX4_init ∈ WA := List.mem_of_getElem? (i := 69) (by decide +kernel)
theorem wd_70 : Cond.instanceMethod yX4_init ∈ WA := List.mem_of_getElem? (i := 70) (by decide +kernel)
theorem wd_71 : Cond.code yX4_init cX4_init 1 none ∈ WA := List.mem_of_getElem? (i := 71) (by decide +kernel)
theorem wd_72 : Cond.methodLink RX4 3 objectInit ∈ WA := List.mem_of_getElem? (i := 72) (by decide +kernel)
theorem wd_73 : Cond.classLink RX4 11 "[[J" ∈ WA := List.mem_of_getElem? (i := 73) (by decide +kernel)
theorem wd_76 : Cond.classLink RX4 20 "[[I" ∈ WA := List.mem_of_getElem? (i := 76) (by decide +kernel)
theorem wd_78 : Cond.methodLink RX0 33 yX1_init ∈ WA := List.mem_of_getElem? (i := 78) (by decide +kernel)
theorem wd_79 : Cond.instanceMethod yX1_init ∈ WA := List.mem_of_getElem? (i := 79) (by decide +kernel)
theorem wd_80 : Cond.code yX1_init cX1_init 1 none ∈ WA := List.mem_of_getElem? (i := 80) (by decide +kernel)
theorem wd_81 : Cond.methodLink RX1 1 objectInit ∈ WA := List.mem_of_getElem? (i := 81) (by decide +kernel)
theorem wd_83 : Cond.methodLink RX5 41 yX1_init ∈ WA := List.mem_of_getElem? (i := 83) (by decide +kernel)
theorem wd_87 : Cond.methodLink RX6 1 objectInit ∈ WA := List.mem_of_getElem? (i := 87) (by decide +kernel)
theorem wd_103 : Cond.arrayClass .boolean ∈ WA := List.mem_of_getElem? (i := 103) (by decide +kernel)
theorem nm_aI : ("[" ++ (FieldType.array .int).toString) = "[[I" := by decide
theorem nm_aJ : ("[" ++ (FieldType.array .long).toString) = "[[J" := by decide
abbrev blk0 : List Value := [.null, .null, .int 0, .null, .null, .null, .null, .null, .null, .int 0, .long 0, .long 0]
abbrev blk1 : List Value := [.long 0, .long 0]
abbrev blk2 : List Value := [.int 0, .int 0, .null, .null, .null, .null, .null, .null, .null]
abbrev blk3 : List Value := [.null, .null, .null, .int 0]
abbrev blk4 : List Value := [.null, .null, .null, .int 0, .int 0, .int 0, .int 0]
abbrev blk5 : List Value := [.null, .null, .null, .null, .null, .null, .int 0, .int 0, .int 0]
abbrev blk6 : List Value := [.int 0, .null, .null, .null, .int 0, .null, .null, .null, .null, .int 0, .int 0, .int 0, .null, .null, .null, .null, .null, .int 0, .null, .null, .null, .null, .null, .null, .null, .long 0, .null, .null, .null, .long 0, .int 0, .int 0, .null, .long 0, .int 0, .null, .int 0, .null, .null, .int 0, .int 0, .null, .null, .null, .null, .null, .null, .null, .null, .null, .null, .null, .null]
theorem dX1_init_0 : decode cX1_init 0 = .ok (.aload_n 0, 1) := by decide +kernel
theorem dX1_init_1 : decode cX1_init 1 = .ok (.invokespecial 1, 3) := by decide +kernel
theorem dX1_init_4 : decode cX1_init 4 = .ok (.aload_n 0, 1) := by decide +kernel
theorem dX1_init_5 : decode cX1_init 5 = .ok (.lconst 1, 1) := by decide +kernel
theorem dX1_init_6 : decode cX1_init 6 = .ok (.putfield 7, 3) := by decide +kernel
theorem dX1_init_9 : decode cX1_init 9 = .ok (.return_, 1) := by decide +kernel
abbrev rm_X1_init : Room := { frames := 1, cells := 0, slots := 0, locals := 40 }
def fin_X1 (_ : ZG) (sz : Nat) : List Value := [.long 0, .long (1 : Int64)]
def es_X1 (G : ZG) (sz : Nat) : List va_E := ([] : List va_E)
theorem es_X1_len (G : ZG) (sz : Nat) : (es_X1 G sz).length = 0 := by
  unfold es_X1
  simp only [List.length_append, List.length_cons, List.length_nil, List.length_replicate] <;> omega
set_option maxHeartbeats 4000000 in
set_option maxRecDepth 100000 in
theorem c_X1_init (l : Launch) (G : ZG) : zCt l G yX1_init cX1_init 1 rm_X1_init 1 blk1 (fin_X1 G) (es_X1 G) 0 0 := by
  refine zc_met (by decide +kernel) rfl rfl (fun sz h0 Y h hq => ?_)
  have h : zcOk (l, rm_X1_init, 1, 0, 0) Y G cX1_init RX1 h0 sz := h
  have hq : zcRet (l, rm_X1_init, 1, 0, 0) Y G h0 sz (.inr (1, [.long 0, .long (1 : Int64)])) ([] : List va_E) 0 0 := hq
  refine cz_aload h dX1_init_0 rfl 0 rfl ?_
  refine cz_obj h wd_81 wd_10 wd_11 rfl rfl dX1_init_1 ?_
  refine cz_aload h dX1_init_4 rfl 0 rfl ?_
  refine cz_lconst h (v := (1 : Int64)) dX1_init_5 (by decide) ?_
  refine cz_put h zC1 (fs' := [.long 0, .long (1 : Int64)]) 1 rfl wd_82 rfl (ty := tyX1 1) (by decide +kernel) rfl rfl rfl rfl dX1_init_6 ?_
  exact cz_ret h hq (by simp only [List.length_append, List.length_cons, List.length_nil, List.length_replicate] <;> omega) dX1_init_9
theorem dX2_init_0 : decode cX2_init 0 = .ok (.aload_n 0, 1) := by decide +kernel
theorem dX2_init_1 : decode cX2_init 1 = .ok (.invokespecial 3, 3) := by decide +kernel
theorem dX2_init_4 : decode cX2_init 4 = .ok (.aload_n 0, 1) := by decide +kernel
theorem dX2_init_5 : decode cX2_init 5 = .ok (.bipush 7, 2) := by decide +kernel
theorem dX2_init_7 : decode cX2_init 7 = .ok (.newarray .int, 2) := by decide +kernel
theorem dX2_init_9 : decode cX2_init 9 = .ok (.putfield 9, 3) := by decide +kernel
theorem dX2_init_12 : decode cX2_init 12 = .ok (.aload_n 0, 1) := by decide +kernel
theorem dX2_init_13 : decode cX2_init 13 = .ok (.bipush 7, 2) := by decide +kernel
theorem dX2_init_15 : decode cX2_init 15 = .ok (.newarray .int, 2) := by decide +kernel
theorem dX2_init_17 : decode cX2_init 17 = .ok (.putfield 15, 3) := by decide +kernel
theorem dX2_init_20 : decode cX2_init 20 = .ok (.aload_n 0, 1) := by decide +kernel
theorem dX2_init_21 : decode cX2_init 21 = .ok (.bipush 7, 2) := by decide +kernel
theorem dX2_init_23 : decode cX2_init 23 = .ok (.newarray .int, 2) := by decide +kernel
theorem dX2_init_25 : decode cX2_init 25 = .ok (.putfield 18, 3) := by decide +kernel
theorem dX2_init_28 : decode cX2_init 28 = .ok (.aload_n 0, 1) := by decide +kernel
theorem dX2_init_29 : decode cX2_init 29 = .ok (.bipush 6, 2) := by decide +kernel
theorem dX2_init_31 : decode cX2_init 31 = .ok (.newarray .int, 2) := by decide +kernel
theorem dX2_init_33 : decode cX2_init 33 = .ok (.putfield 21, 3) := by decide +kernel
theorem dX2_init_36 : decode cX2_init 36 = .ok (.aload_n 0, 1) := by decide +kernel
theorem dX2_init_37 : decode cX2_init 37 = .ok (.bipush 6, 2) := by decide +kernel
theorem dX2_init_39 : decode cX2_init 39 = .ok (.newarray .int, 2) := by decide +kernel
theorem dX2_init_41 : decode cX2_init 41 = .ok (.putfield 24, 3) := by decide +kernel
theorem dX2_init_44 : decode cX2_init 44 = .ok (.aload_n 0, 1) := by decide +kernel
theorem dX2_init_45 : decode cX2_init 45 = .ok (.bipush 6, 2) := by decide +kernel
theorem dX2_init_47 : decode cX2_init 47 = .ok (.newarray .int, 2) := by decide +kernel
theorem dX2_init_49 : decode cX2_init 49 = .ok (.putfield 27, 3) := by decide +kernel
theorem dX2_init_52 : decode cX2_init 52 = .ok (.aload_n 0, 1) := by decide +kernel
theorem dX2_init_53 : decode cX2_init 53 = .ok (.bipush 6, 2) := by decide +kernel
theorem dX2_init_55 : decode cX2_init 55 = .ok (.bipush 7, 2) := by decide +kernel
theorem dX2_init_57 : decode cX2_init 57 = .ok (.multianewarray 30 2, 4) := by decide +kernel
theorem dX2_init_61 : decode cX2_init 61 = .ok (.putfield 32, 3) := by decide +kernel
theorem dX2_init_64 : decode cX2_init 64 = .ok (.return_, 1) := by decide +kernel
abbrev rm_X2_init : Room := { frames := 1, cells := 13, slots := 87, locals := 40 }
def fin_X2 (_ : ZG) (sz : Nat) : List Value := [.int 0, .int 0, .ref sz, .ref (sz + 1), .ref (sz + 2), .ref (sz + 3), .ref (sz + 4), .ref (sz + 5), .ref (sz + 6)]
def es_X2 (G : ZG) (sz : Nat) : List va_E := (((((((([] : List va_E) ++ [.inl (G.2.2 1, (7, .inl (fun _ => 0)))]) ++ [.inl (G.2.2 1, (7, .inl (fun _ => 0)))]) ++ [.inl (G.2.2 1, (7, .inl (fun _ => 0)))]) ++ [.inl (G.2.2 1, (6, .inl (fun _ => 0)))]) ++ [.inl (G.2.2 1, (6, .inl (fun _ => 0)))]) ++ [.inl (G.2.2 1, (6, .inl (fun _ => 0)))]) ++ (.inl (G.2.2 5, 6, .inr (.inr (.inr (.inr (fun i => if i < 6 then some ((sz + 6) + 1 + i) else none))))) :: List.replicate 6 (.inl (G.2.2 1, (7, .inl (fun _ => 0))))))
theorem es_X2_len (G : ZG) (sz : Nat) : (es_X2 G sz).length = 13 := by
  unfold es_X2
  simp only [List.length_append, List.length_cons, List.length_nil, List.length_replicate] <;> omega
set_option maxHeartbeats 4000000 in
set_option maxRecDepth 100000 in
theorem c_X2_init (l : Launch) (G : ZG) : zCt l G yX2_init cX2_init 1 rm_X2_init 2 blk2 (fin_X2 G) (es_X2 G) 13 87 := by
  refine zc_met (by decide +kernel) rfl rfl (fun sz h0 Y h hq => ?_)
  have h : zcOk (l, rm_X2_init, 1, 0, 0) Y G cX2_init RX2 h0 sz := h
  have hq : zcRet (l, rm_X2_init, 1, 0, 0) Y G h0 sz (.inr (2, [.int 0, .int 0, .ref sz, .ref (sz + 1), .ref (sz + 2), .ref (sz + 3), .ref (sz + 4), .ref (sz + 5), .ref (sz + 6)])) (((((((([] : List va_E) ++ [.inl (G.2.2 1, (7, .inl (fun _ => 0)))]) ++ [.inl (G.2.2 1, (7, .inl (fun _ => 0)))]) ++ [.inl (G.2.2 1, (7, .inl (fun _ => 0)))]) ++ [.inl (G.2.2 1, (6, .inl (fun _ => 0)))]) ++ [.inl (G.2.2 1, (6, .inl (fun _ => 0)))]) ++ [.inl (G.2.2 1, (6, .inl (fun _ => 0)))]) ++ (.inl (G.2.2 5, 6, .inr (.inr (.inr (.inr (fun i => if i < 6 then some ((sz + 6) + 1 + i) else none))))) :: List.replicate 6 (.inl (G.2.2 1, (7, .inl (fun _ => 0)))))) 13 87 := hq
  refine cz_aload h dX2_init_0 rfl 0 rfl ?_
  refine cz_obj h wd_30 wd_10 wd_11 rfl rfl dX2_init_1 ?_
  refine cz_aload h dX2_init_4 rfl 0 rfl ?_
  refine cz_bipush h (v := (7 : Int32)) dX2_init_5 (by decide) ?_
  refine cz_newa h (ty := .int) (t := 0) (N := 7) (a0 := (7, .inl (fun _ => 0))) rfl wd_31 rfl (fun _ => rfl) (by decide) (by decide) (fun _ w => w) (Nat.ble_eq.mpr (Nat.le_of_ble_eq_true rfl)) (by simp only [List.length_append, List.length_cons, List.length_nil, List.length_replicate] <;> omega) rfl rfl dX2_init_7 ?_
  refine cz_putF h zC2 (fs' := [.int 0, .int 0, .ref sz, .null, .null, .null, .null, .null, .null]) 2 rfl wd_32 rfl (ty := tyX2 2) (by decide +kernel) rfl rfl rfl rfl dX2_init_9 ?_
  refine cz_aload h dX2_init_12 rfl 0 rfl ?_
  refine cz_bipush h (v := (7 : Int32)) dX2_init_13 (by decide) ?_
  refine cz_newa h (ty := .int) (t := 0) (N := 7) (a0 := (7, .inl (fun _ => 0))) rfl wd_31 rfl (fun _ => rfl) (by decide) (by decide) (fun _ w => w) (Nat.ble_eq.mpr (Nat.le_of_ble_eq_true rfl)) (by simp only [List.length_append, List.length_cons, List.length_nil, List.length_replicate] <;> omega) rfl rfl dX2_init_15 ?_
  refine cz_putF h zC2 (fs' := [.int 0, .int 0, .ref sz, .ref (sz + 1), .null, .null, .null, .null, .null]) 3 rfl wd_33 rfl (ty := tyX2 3) (by decide +kernel) rfl rfl rfl rfl dX2_init_17 ?_
  refine cz_aload h dX2_init_20 rfl 0 rfl ?_
  refine cz_bipush h (v := (7 : Int32)) dX2_init_21 (by decide) ?_
  refine cz_newa h (ty := .int) (t := 0) (N := 7) (a0 := (7, .inl (fun _ => 0))) rfl wd_31 rfl (fun _ => rfl) (by decide) (by decide) (fun _ w => w) (Nat.ble_eq.mpr (Nat.le_of_ble_eq_true rfl)) (by simp only [List.length_append, List.length_cons, List.length_nil, List.length_replicate] <;> omega) rfl rfl dX2_init_23 ?_
  refine cz_putF h zC2 (fs' := [.int 0, .int 0, .ref sz, .ref (sz + 1), .ref (sz + 2), .null, .null, .null, .null]) 4 rfl wd_34 rfl (ty := tyX2 4) (by decide +kernel) rfl rfl rfl rfl dX2_init_25 ?_
  refine cz_aload h dX2_init_28 rfl 0 rfl ?_
  refine cz_bipush h (v := (6 : Int32)) dX2_init_29 (by decide) ?_
  refine cz_newa h (ty := .int) (t := 0) (N := 6) (a0 := (6, .inl (fun _ => 0))) rfl wd_31 rfl (fun _ => rfl) (by decide) (by decide) (fun _ w => w) (Nat.ble_eq.mpr (Nat.le_of_ble_eq_true rfl)) (by simp only [List.length_append, List.length_cons, List.length_nil, List.length_replicate] <;> omega) rfl rfl dX2_init_31 ?_
  refine cz_putF h zC2 (fs' := [.int 0, .int 0, .ref sz, .ref (sz + 1), .ref (sz + 2), .ref (sz + 3), .null, .null, .null]) 5 rfl wd_35 rfl (ty := tyX2 5) (by decide +kernel) rfl rfl rfl rfl dX2_init_33 ?_
  refine cz_aload h dX2_init_36 rfl 0 rfl ?_
  refine cz_bipush h (v := (6 : Int32)) dX2_init_37 (by decide) ?_
  refine cz_newa h (ty := .int) (t := 0) (N := 6) (a0 := (6, .inl (fun _ => 0))) rfl wd_31 rfl (fun _ => rfl) (by decide) (by decide) (fun _ w => w) (Nat.ble_eq.mpr (Nat.le_of_ble_eq_true rfl)) (by simp only [List.length_append, List.length_cons, List.length_nil, List.length_replicate] <;> omega) rfl rfl dX2_init_39 ?_
  refine cz_putF h zC2 (fs' := [.int 0, .int 0, .ref sz, .ref (sz + 1), .ref (sz + 2), .ref (sz + 3), .ref (sz + 4), .null, .null]) 6 rfl wd_36 rfl (ty := tyX2 6) (by decide +kernel) rfl rfl rfl rfl dX2_init_41 ?_
  refine cz_aload h dX2_init_44 rfl 0 rfl ?_
  refine cz_bipush h (v := (6 : Int32)) dX2_init_45 (by decide) ?_
  refine cz_newa h (ty := .int) (t := 0) (N := 6) (a0 := (6, .inl (fun _ => 0))) rfl wd_31 rfl (fun _ => rfl) (by decide) (by decide) (fun _ w => w) (Nat.ble_eq.mpr (Nat.le_of_ble_eq_true rfl)) (by simp only [List.length_append, List.length_cons, List.length_nil, List.length_replicate] <;> omega) rfl rfl dX2_init_47 ?_
  refine cz_putF h zC2 (fs' := [.int 0, .int 0, .ref sz, .ref (sz + 1), .ref (sz + 2), .ref (sz + 3), .ref (sz + 4), .ref (sz + 5), .null]) 7 rfl wd_37 rfl (ty := tyX2 7) (by decide +kernel) rfl rfl rfl rfl dX2_init_49 ?_
  refine cz_aload h dX2_init_52 rfl 0 rfl ?_
  refine cz_bipush h (v := (6 : Int32)) dX2_init_53 (by decide) ?_
  refine cz_bipush h (v := (7 : Int32)) dX2_init_55 (by decide) ?_
  refine cz_mna h (ty := .int) (t := 0) (u := 4) (N := 6) (M := 7) (a0 := (7, .inl (fun _ => 0))) (by rw [nm_aI]; exact wd_38) wd_31 (fun w => w.2.1) rfl rfl (fun _ w => w) (fun _ => rfl) (by decide) (by decide) (by decide) (by decide) rfl rfl rfl rfl rfl (by simp only [List.length_append, List.length_cons, List.length_nil, List.length_replicate] <;> omega) rfl rfl dX2_init_57 ?_
  refine cz_putF h zC2 (fs' := [.int 0, .int 0, .ref sz, .ref (sz + 1), .ref (sz + 2), .ref (sz + 3), .ref (sz + 4), .ref (sz + 5), .ref (sz + 6)]) 8 rfl wd_39 rfl (ty := tyX2 8) (by decide +kernel) rfl rfl rfl rfl dX2_init_61 ?_
  exact cz_ret h hq (by simp only [List.length_append, List.length_cons, List.length_nil, List.length_replicate] <;> omega) dX2_init_64
theorem dX4_init_0 : decode cX4_init 0 = .ok (.aload_n 0, 1) := by decide +kernel
theorem dX4_init_1 : decode cX4_init 1 = .ok (.invokespecial 3, 3) := by decide +kernel
theorem dX4_init_4 : decode cX4_init 4 = .ok (.aload_n 0, 1) := by decide +kernel
theorem dX4_init_5 : decode cX4_init 5 = .ok (.bipush 78, 2) := by decide +kernel
theorem dX4_init_7 : decode cX4_init 7 = .ok (.bipush 26, 2) := by decide +kernel
theorem dX4_init_9 : decode cX4_init 9 = .ok (.multianewarray 11 2, 4) := by decide +kernel
theorem dX4_init_13 : decode cX4_init 13 = .ok (.putfield 13, 3) := by decide +kernel
theorem dX4_init_16 : decode cX4_init 16 = .ok (.aload_n 0, 1) := by decide +kernel
theorem dX4_init_17 : decode cX4_init 17 = .ok (.bipush 7, 2) := by decide +kernel
theorem dX4_init_19 : decode cX4_init 19 = .ok (.newarray .int, 2) := by decide +kernel
theorem dX4_init_21 : decode cX4_init 21 = .ok (.putfield 16, 3) := by decide +kernel
theorem dX4_init_24 : decode cX4_init 24 = .ok (.aload_n 0, 1) := by decide +kernel
theorem dX4_init_25 : decode cX4_init 25 = .ok (.iconst 2, 1) := by decide +kernel
theorem dX4_init_26 : decode cX4_init 26 = .ok (.bipush 7, 2) := by decide +kernel
theorem dX4_init_28 : decode cX4_init 28 = .ok (.multianewarray 20 2, 4) := by decide +kernel
theorem dX4_init_32 : decode cX4_init 32 = .ok (.putfield 22, 3) := by decide +kernel
theorem dX4_init_35 : decode cX4_init 35 = .ok (.return_, 1) := by decide +kernel
abbrev rm_X4_init : Room := { frames := 1, cells := 83, slots := 2129, locals := 40 }
def fin_X4 (_ : ZG) (sz : Nat) : List Value := [.ref sz, .ref (sz + 79), .ref (sz + 80), .int 0, .int 0, .int 0, .int 0]
def es_X4 (G : ZG) (sz : Nat) : List va_E := (((([] : List va_E) ++ (.inl (G.2.2 6, 78, .inr (.inr (.inr (.inr (fun i => if i < 78 then some (sz + 1 + i) else none))))) :: List.replicate 78 (.inl (G.2.2 2, (26, .inr (.inl (fun _ => 0))))))) ++ [.inl (G.2.2 1, (7, .inl (fun _ => 0)))]) ++ (.inl (G.2.2 5, 2, .inr (.inr (.inr (.inr (fun i => if i < 2 then some ((sz + 80) + 1 + i) else none))))) :: List.replicate 2 (.inl (G.2.2 1, (7, .inl (fun _ => 0))))))
theorem es_X4_len (G : ZG) (sz : Nat) : (es_X4 G sz).length = 83 := by
  unfold es_X4
  simp only [List.length_append, List.length_cons, List.length_nil, List.length_replicate] <;> omega
set_option maxHeartbeats 4000000 in
set_option maxRecDepth 100000 in
theorem c_X4_init (l : Launch) (G : ZG) : zCt l G yX4_init cX4_init 1 rm_X4_init 4 blk4 (fin_X4 G) (es_X4 G) 83 2129 := by
  refine zc_met (by decide +kernel) rfl rfl (fun sz h0 Y h hq => ?_)
  have h : zcOk (l, rm_X4_init, 1, 0, 0) Y G cX4_init RX4 h0 sz := h
  have hq : zcRet (l, rm_X4_init, 1, 0, 0) Y G h0 sz (.inr (4, [.ref sz, .ref (sz + 79), .ref (sz + 80), .int 0, .int 0, .int 0, .int 0])) (((([] : List va_E) ++ (.inl (G.2.2 6, 78, .inr (.inr (.inr (.inr (fun i => if i < 78 then some (sz + 1 + i) else none))))) :: List.replicate 78 (.inl (G.2.2 2, (26, .inr (.inl (fun _ => 0))))))) ++ [.inl (G.2.2 1, (7, .inl (fun _ => 0)))]) ++ (.inl (G.2.2 5, 2, .inr (.inr (.inr (.inr (fun i => if i < 2 then some ((sz + 80) + 1 + i) else none))))) :: List.replicate 2 (.inl (G.2.2 1, (7, .inl (fun _ => 0)))))) 83 2129 := hq
  refine cz_aload h dX4_init_0 rfl 0 rfl ?_
  refine cz_obj h wd_72 wd_10 wd_11 rfl rfl dX4_init_1 ?_
  refine cz_aload h dX4_init_4 rfl 0 rfl ?_
  refine cz_bipush h (v := (78 : Int32)) dX4_init_5 (by decide) ?_
  refine cz_bipush h (v := (26 : Int32)) dX4_init_7 (by decide) ?_
  refine cz_mna h (ty := .long) (t := 1) (u := 5) (N := 78) (M := 26) (a0 := (26, .inr (.inl (fun _ => 0)))) (by rw [nm_aJ]; exact wd_73) wd_50 (fun w => w.2.2) rfl rfl (fun _ w => w) (fun _ => rfl) (by decide) (by decide) (by decide) (by decide) rfl rfl rfl rfl rfl (by simp only [List.length_append, List.length_cons, List.length_nil, List.length_replicate] <;> omega) rfl rfl dX4_init_9 ?_
  refine cz_putF h zC4 (fs' := [.ref sz, .null, .null, .int 0, .int 0, .int 0, .int 0]) 0 rfl wd_74 rfl (ty := tyX4 0) (by decide +kernel) rfl rfl rfl rfl dX4_init_13 ?_
  refine cz_aload h dX4_init_16 rfl 0 rfl ?_
  refine cz_bipush h (v := (7 : Int32)) dX4_init_17 (by decide) ?_
  refine cz_newa h (ty := .int) (t := 0) (N := 7) (a0 := (7, .inl (fun _ => 0))) rfl wd_31 rfl (fun _ => rfl) (by decide) (by decide) (fun _ w => w) (Nat.ble_eq.mpr (Nat.le_of_ble_eq_true rfl)) (by simp only [List.length_append, List.length_cons, List.length_nil, List.length_replicate] <;> omega) rfl rfl dX4_init_19 ?_
  refine cz_putF h zC4 (fs' := [.ref sz, .ref (sz + 79), .null, .int 0, .int 0, .int 0, .int 0]) 1 rfl wd_75 rfl (ty := tyX4 1) (by decide +kernel) rfl rfl rfl rfl dX4_init_21 ?_
  refine cz_aload h dX4_init_24 rfl 0 rfl ?_
  refine cz_iconst h (v := (2 : Int32)) dX4_init_25 (by decide) ?_
  refine cz_bipush h (v := (7 : Int32)) dX4_init_26 (by decide) ?_
  refine cz_mna h (ty := .int) (t := 0) (u := 4) (N := 2) (M := 7) (a0 := (7, .inl (fun _ => 0))) (by rw [nm_aI]; exact wd_76) wd_31 (fun w => w.2.1) rfl rfl (fun _ w => w) (fun _ => rfl) (by decide) (by decide) (by decide) (by decide) rfl rfl rfl rfl rfl (by simp only [List.length_append, List.length_cons, List.length_nil, List.length_replicate] <;> omega) rfl rfl dX4_init_28 ?_
  refine cz_putF h zC4 (fs' := [.ref sz, .ref (sz + 79), .ref (sz + 80), .int 0, .int 0, .int 0, .int 0]) 2 rfl wd_77 rfl (ty := tyX4 2) (by decide +kernel) rfl rfl rfl rfl dX4_init_32 ?_
  exact cz_ret h hq (by simp only [List.length_append, List.length_cons, List.length_nil, List.length_replicate] <;> omega) dX4_init_35
theorem dX3_init_0 : decode cX3_init 0 = .ok (.aload_n 0, 1) := by decide +kernel
theorem dX3_init_1 : decode cX3_init 1 = .ok (.invokespecial 3, 3) := by decide +kernel
theorem dX3_init_4 : decode cX3_init 4 = .ok (.aload_n 0, 1) := by decide +kernel
theorem dX3_init_5 : decode cX3_init 5 = .ok (.new 9, 3) := by decide +kernel
theorem dX3_init_8 : decode cX3_init 8 = .ok (.dup, 1) := by decide +kernel
theorem dX3_init_9 : decode cX3_init 9 = .ok (.invokespecial 11, 3) := by decide +kernel
theorem dX3_init_12 : decode cX3_init 12 = .ok (.putfield 12, 3) := by decide +kernel
theorem dX3_init_15 : decode cX3_init 15 = .ok (.aload_n 0, 1) := by decide +kernel
theorem dX3_init_16 : decode cX3_init 16 = .ok (.sipush 924, 3) := by decide +kernel
theorem dX3_init_19 : decode cX3_init 19 = .ok (.newarray .int, 2) := by decide +kernel
theorem dX3_init_21 : decode cX3_init 21 = .ok (.putfield 18, 3) := by decide +kernel
theorem dX3_init_24 : decode cX3_init 24 = .ok (.aload_n 0, 1) := by decide +kernel
theorem dX3_init_25 : decode cX3_init 25 = .ok (.sipush 924, 3) := by decide +kernel
theorem dX3_init_28 : decode cX3_init 28 = .ok (.bipush 26, 2) := by decide +kernel
theorem dX3_init_30 : decode cX3_init 30 = .ok (.multianewarray 22 2, 4) := by decide +kernel
theorem dX3_init_34 : decode cX3_init 34 = .ok (.putfield 24, 3) := by decide +kernel
theorem dX3_init_37 : decode cX3_init 37 = .ok (.return_, 1) := by decide +kernel
abbrev rm_X3_init : Room := { frames := 2, cells := 1010, slots := 28008, locals := 60 }
def fin_X3 (_ : ZG) (sz : Nat) : List Value := [.ref sz, .ref (sz + 84), .ref (sz + 85), .int 0]
def es_X3 (G : ZG) (sz : Nat) : List va_E := (((([] : List va_E) ++ (.inr (4, fin_X4 G (sz + 1)) :: es_X4 G (sz + 1))) ++ [.inl (G.2.2 1, (924, .inl (fun _ => 0)))]) ++ (.inl (G.2.2 6, 924, .inr (.inr (.inr (.inr (fun i => if i < 924 then some ((sz + 85) + 1 + i) else none))))) :: List.replicate 924 (.inl (G.2.2 2, (26, .inr (.inl (fun _ => 0)))))))
theorem es_X3_len (G : ZG) (sz : Nat) : (es_X3 G sz).length = 1010 := by
  unfold es_X3
  simp only [List.length_append, List.length_cons, List.length_nil, List.length_replicate, es_X4_len] <;> omega
set_option maxHeartbeats 4000000 in
set_option maxRecDepth 100000 in
theorem c_X3_init (l : Launch) (G : ZG) : zCt l G yX3_init cX3_init 1 rm_X3_init 3 blk3 (fin_X3 G) (es_X3 G) 1010 28008 := by
  refine zc_met (by decide +kernel) rfl rfl (fun sz h0 Y h hq => ?_)
  have h : zcOk (l, rm_X3_init, 1, 0, 0) Y G cX3_init RX3 h0 sz := h
  have hq : zcRet (l, rm_X3_init, 1, 0, 0) Y G h0 sz (.inr (3, [.ref sz, .ref (sz + 84), .ref (sz + 85), .int 0])) (((([] : List va_E) ++ (.inr (4, fin_X4 G (sz + 1)) :: es_X4 G (sz + 1))) ++ [.inl (G.2.2 1, (924, .inl (fun _ => 0)))]) ++ (.inl (G.2.2 6, 924, .inr (.inr (.inr (.inr (fun i => if i < 924 then some ((sz + 85) + 1 + i) else none))))) :: List.replicate 924 (.inl (G.2.2 2, (26, .inr (.inl (fun _ => 0))))))) 1010 28008 := hq
  refine cz_aload h dX3_init_0 rfl 0 rfl ?_
  refine cz_obj h wd_61 wd_10 wd_11 rfl rfl dX3_init_1 ?_
  refine cz_aload h dX3_init_4 rfl 0 rfl ?_
  refine cz_new h zC4 (fs := blk4) tyX4 tyX4_ok (by decide +kernel) wd_62 wd_63 wd_64 (by simp only [List.length_append, List.length_cons, List.length_nil, List.length_replicate] <;> omega) rfl rfl dX3_init_5 ?_
  refine cz_dup h dX3_init_8 ?_
  refine cz_ctor h (mc := 83) (ms := 2129) (cells' := 84) (slots' := 2136) (n' := (sz + 84)) (c_X4_init l G) (by simp only [List.length_append, List.length_cons, List.length_nil, List.length_replicate, es_X4_len] <;> omega) (by simp only [List.length_append, List.length_cons, List.length_nil, List.length_replicate, es_X4_len] <;> omega) wd_69 wd_70 wd_64 wd_71 rfl (by decide +kernel) ⟨rfl, rfl⟩ rfl rfl rfl rfl rfl rfl (by simp only [es_X4_len]) dX3_init_9 ?_
  refine cz_putF h zC3 (fs' := [.ref sz, .null, .null, .int 0]) 0 rfl wd_65 rfl (ty := tyX3 0) (by decide +kernel) rfl rfl rfl rfl dX3_init_12 ?_
  refine cz_aload h dX3_init_15 rfl 0 rfl ?_
  refine cz_sipush h (v := (924 : Int32)) dX3_init_16 (by decide) ?_
  refine cz_newa h (ty := .int) (t := 0) (N := 924) (a0 := (924, .inl (fun _ => 0))) rfl wd_31 rfl (fun _ => rfl) (by decide) (by decide) (fun _ w => w) (Nat.ble_eq.mpr (Nat.le_of_ble_eq_true rfl)) (by simp only [List.length_append, List.length_cons, List.length_nil, List.length_replicate, es_X4_len] <;> omega) rfl rfl dX3_init_19 ?_
  refine cz_putF h zC3 (fs' := [.ref sz, .ref (sz + 84), .null, .int 0]) 1 rfl wd_66 rfl (ty := tyX3 1) (by decide +kernel) rfl rfl rfl rfl dX3_init_21 ?_
  refine cz_aload h dX3_init_24 rfl 0 rfl ?_
  refine cz_sipush h (v := (924 : Int32)) dX3_init_25 (by decide) ?_
  refine cz_bipush h (v := (26 : Int32)) dX3_init_28 (by decide) ?_
  refine cz_mna h (ty := .long) (t := 1) (u := 5) (N := 924) (M := 26) (a0 := (26, .inr (.inl (fun _ => 0)))) (by rw [nm_aJ]; exact wd_67) wd_50 (fun w => w.2.2) rfl rfl (fun _ w => w) (fun _ => rfl) (by decide) (by decide) (by decide) (by decide) rfl rfl rfl rfl rfl (by simp only [List.length_append, List.length_cons, List.length_nil, List.length_replicate, es_X4_len] <;> omega) rfl rfl dX3_init_30 ?_
  refine cz_putF h zC3 (fs' := [.ref sz, .ref (sz + 84), .ref (sz + 85), .int 0]) 2 rfl wd_68 rfl (ty := tyX3 2) (by decide +kernel) rfl rfl rfl rfl dX3_init_34 ?_
  exact cz_ret h hq (by simp only [List.length_append, List.length_cons, List.length_nil, List.length_replicate, es_X4_len] <;> omega) dX3_init_37
theorem dX0_init_0 : decode cX0_init 0 = .ok (.aload_n 0, 1) := by decide +kernel
theorem dX0_init_1 : decode cX0_init 1 = .ok (.invokespecial 3, 3) := by decide +kernel
theorem dX0_init_4 : decode cX0_init 4 = .ok (.aload_n 0, 1) := by decide +kernel
theorem dX0_init_5 : decode cX0_init 5 = .ok (.new 9, 3) := by decide +kernel
theorem dX0_init_8 : decode cX0_init 8 = .ok (.dup, 1) := by decide +kernel
theorem dX0_init_9 : decode cX0_init 9 = .ok (.invokespecial 11, 3) := by decide +kernel
theorem dX0_init_12 : decode cX0_init 12 = .ok (.putfield 12, 3) := by decide +kernel
theorem dX0_init_15 : decode cX0_init 15 = .ok (.aload_n 0, 1) := by decide +kernel
theorem dX0_init_16 : decode cX0_init 16 = .ok (.bipush 6, 2) := by decide +kernel
theorem dX0_init_18 : decode cX0_init 18 = .ok (.newarray .int, 2) := by decide +kernel
theorem dX0_init_20 : decode cX0_init 20 = .ok (.putfield 18, 3) := by decide +kernel
theorem dX0_init_23 : decode cX0_init 23 = .ok (.aload_n 0, 1) := by decide +kernel
theorem dX0_init_24 : decode cX0_init 24 = .ok (.iconst 3, 1) := by decide +kernel
theorem dX0_init_25 : decode cX0_init 25 = .ok (.sipush 924, 3) := by decide +kernel
theorem dX0_init_28 : decode cX0_init 28 = .ok (.multianewarray 22 2, 4) := by decide +kernel
theorem dX0_init_32 : decode cX0_init 32 = .ok (.putfield 24, 3) := by decide +kernel
theorem dX0_init_35 : decode cX0_init 35 = .ok (.aload_n 0, 1) := by decide +kernel
theorem dX0_init_36 : decode cX0_init 36 = .ok (.sipush 924, 3) := by decide +kernel
theorem dX0_init_39 : decode cX0_init 39 = .ok (.newarray .long, 2) := by decide +kernel
theorem dX0_init_41 : decode cX0_init 41 = .ok (.putfield 27, 3) := by decide +kernel
theorem dX0_init_44 : decode cX0_init 44 = .ok (.aload_n 0, 1) := by decide +kernel
theorem dX0_init_45 : decode cX0_init 45 = .ok (.new 31, 3) := by decide +kernel
theorem dX0_init_48 : decode cX0_init 48 = .ok (.dup, 1) := by decide +kernel
theorem dX0_init_49 : decode cX0_init 49 = .ok (.invokespecial 33, 3) := by decide +kernel
theorem dX0_init_52 : decode cX0_init 52 = .ok (.putfield 34, 3) := by decide +kernel
theorem dX0_init_55 : decode cX0_init 55 = .ok (.aload_n 0, 1) := by decide +kernel
theorem dX0_init_56 : decode cX0_init 56 = .ok (.new 31, 3) := by decide +kernel
theorem dX0_init_59 : decode cX0_init 59 = .ok (.dup, 1) := by decide +kernel
theorem dX0_init_60 : decode cX0_init 60 = .ok (.invokespecial 33, 3) := by decide +kernel
theorem dX0_init_63 : decode cX0_init 63 = .ok (.putfield 38, 3) := by decide +kernel
theorem dX0_init_66 : decode cX0_init 66 = .ok (.aload_n 0, 1) := by decide +kernel
theorem dX0_init_67 : decode cX0_init 67 = .ok (.new 31, 3) := by decide +kernel
theorem dX0_init_70 : decode cX0_init 70 = .ok (.dup, 1) := by decide +kernel
theorem dX0_init_71 : decode cX0_init 71 = .ok (.invokespecial 33, 3) := by decide +kernel
theorem dX0_init_74 : decode cX0_init 74 = .ok (.putfield 41, 3) := by decide +kernel
theorem dX0_init_77 : decode cX0_init 77 = .ok (.aload_n 0, 1) := by decide +kernel
theorem dX0_init_78 : decode cX0_init 78 = .ok (.new 31, 3) := by decide +kernel
theorem dX0_init_81 : decode cX0_init 81 = .ok (.dup, 1) := by decide +kernel
theorem dX0_init_82 : decode cX0_init 82 = .ok (.invokespecial 33, 3) := by decide +kernel
theorem dX0_init_85 : decode cX0_init 85 = .ok (.putfield 44, 3) := by decide +kernel
theorem dX0_init_88 : decode cX0_init 88 = .ok (.return_, 1) := by decide +kernel
abbrev rm_X0_init : Room := { frames := 3, cells := 1021, slots := 31725, locals := 80 }
def fin_X0 (_ : ZG) (sz : Nat) : List Value := [.ref sz, .ref (sz + 1011), .int 0, .ref (sz + 1012), .ref (sz + 1016), .ref (sz + 1017), .ref (sz + 1018), .ref (sz + 1019), .ref (sz + 1020), .int 0, .long 0, .long 0]
def es_X0 (G : ZG) (sz : Nat) : List va_E := ((((((((([] : List va_E) ++ (.inr (3, fin_X3 G (sz + 1)) :: es_X3 G (sz + 1))) ++ [.inl (G.2.2 1, (6, .inl (fun _ => 0)))]) ++ (.inl (G.2.2 6, 3, .inr (.inr (.inr (.inr (fun i => if i < 3 then some ((sz + 1012) + 1 + i) else none))))) :: List.replicate 3 (.inl (G.2.2 2, (924, .inr (.inl (fun _ => 0))))))) ++ [.inl (G.2.2 2, (924, .inr (.inl (fun _ => 0))))]) ++ (.inr (1, fin_X1 G (sz + 1018)) :: es_X1 G (sz + 1018))) ++ (.inr (1, fin_X1 G (sz + 1019)) :: es_X1 G (sz + 1019))) ++ (.inr (1, fin_X1 G (sz + 1020)) :: es_X1 G (sz + 1020))) ++ (.inr (1, fin_X1 G (sz + 1021)) :: es_X1 G (sz + 1021)))
theorem es_X0_len (G : ZG) (sz : Nat) : (es_X0 G sz).length = 1021 := by
  unfold es_X0
  simp only [List.length_append, List.length_cons, List.length_nil, List.length_replicate, es_X1_len, es_X3_len] <;> omega
set_option maxHeartbeats 4000000 in
set_option maxRecDepth 100000 in
theorem c_X0_init (l : Launch) (G : ZG) : zCt l G yX0_init cX0_init 1 rm_X0_init 0 blk0 (fin_X0 G) (es_X0 G) 1021 31725 := by
  refine zc_met (by decide +kernel) rfl rfl (fun sz h0 Y h hq => ?_)
  have h : zcOk (l, rm_X0_init, 1, 0, 0) Y G cX0_init RX0 h0 sz := h
  have hq : zcRet (l, rm_X0_init, 1, 0, 0) Y G h0 sz (.inr (0, [.ref sz, .ref (sz + 1011), .int 0, .ref (sz + 1012), .ref (sz + 1016), .ref (sz + 1017), .ref (sz + 1018), .ref (sz + 1019), .ref (sz + 1020), .int 0, .long 0, .long 0])) ((((((((([] : List va_E) ++ (.inr (3, fin_X3 G (sz + 1)) :: es_X3 G (sz + 1))) ++ [.inl (G.2.2 1, (6, .inl (fun _ => 0)))]) ++ (.inl (G.2.2 6, 3, .inr (.inr (.inr (.inr (fun i => if i < 3 then some ((sz + 1012) + 1 + i) else none))))) :: List.replicate 3 (.inl (G.2.2 2, (924, .inr (.inl (fun _ => 0))))))) ++ [.inl (G.2.2 2, (924, .inr (.inl (fun _ => 0))))]) ++ (.inr (1, fin_X1 G (sz + 1018)) :: es_X1 G (sz + 1018))) ++ (.inr (1, fin_X1 G (sz + 1019)) :: es_X1 G (sz + 1019))) ++ (.inr (1, fin_X1 G (sz + 1020)) :: es_X1 G (sz + 1020))) ++ (.inr (1, fin_X1 G (sz + 1021)) :: es_X1 G (sz + 1021))) 1021 31725 := hq
  refine cz_aload h dX0_init_0 rfl 0 rfl ?_
  refine cz_obj h wd_43 wd_10 wd_11 rfl rfl dX0_init_1 ?_
  refine cz_aload h dX0_init_4 rfl 0 rfl ?_
  refine cz_new h zC3 (fs := blk3) tyX3 tyX3_ok (by decide +kernel) wd_44 wd_45 wd_46 (by simp only [List.length_append, List.length_cons, List.length_nil, List.length_replicate] <;> omega) rfl rfl dX0_init_5 ?_
  refine cz_dup h dX0_init_8 ?_
  refine cz_ctor h (mc := 1010) (ms := 28008) (cells' := 1011) (slots' := 28012) (n' := (sz + 1011)) (c_X3_init l G) (by simp only [List.length_append, List.length_cons, List.length_nil, List.length_replicate, es_X3_len] <;> omega) (by simp only [List.length_append, List.length_cons, List.length_nil, List.length_replicate, es_X3_len] <;> omega) wd_58 wd_59 wd_46 wd_60 rfl (by decide +kernel) ⟨rfl, rfl⟩ rfl rfl rfl rfl rfl rfl (by simp only [es_X3_len]) dX0_init_9 ?_
  refine cz_putF h zC0 (fs' := [.ref sz, .null, .int 0, .null, .null, .null, .null, .null, .null, .int 0, .long 0, .long 0]) 0 rfl wd_47 rfl (ty := tyX0 0) (by decide +kernel) rfl rfl rfl rfl dX0_init_12 ?_
  refine cz_aload h dX0_init_15 rfl 0 rfl ?_
  refine cz_bipush h (v := (6 : Int32)) dX0_init_16 (by decide) ?_
  refine cz_newa h (ty := .int) (t := 0) (N := 6) (a0 := (6, .inl (fun _ => 0))) rfl wd_31 rfl (fun _ => rfl) (by decide) (by decide) (fun _ w => w) (Nat.ble_eq.mpr (Nat.le_of_ble_eq_true rfl)) (by simp only [List.length_append, List.length_cons, List.length_nil, List.length_replicate, es_X3_len] <;> omega) rfl rfl dX0_init_18 ?_
  refine cz_putF h zC0 (fs' := [.ref sz, .ref (sz + 1011), .int 0, .null, .null, .null, .null, .null, .null, .int 0, .long 0, .long 0]) 1 rfl wd_48 rfl (ty := tyX0 1) (by decide +kernel) rfl rfl rfl rfl dX0_init_20 ?_
  refine cz_aload h dX0_init_23 rfl 0 rfl ?_
  refine cz_iconst h (v := (3 : Int32)) dX0_init_24 (by decide) ?_
  refine cz_sipush h (v := (924 : Int32)) dX0_init_25 (by decide) ?_
  refine cz_mna h (ty := .long) (t := 1) (u := 5) (N := 3) (M := 924) (a0 := (924, .inr (.inl (fun _ => 0)))) (by rw [nm_aJ]; exact wd_49) wd_50 (fun w => w.2.2) rfl rfl (fun _ w => w) (fun _ => rfl) (by decide) (by decide) (by decide) (by decide) rfl rfl rfl rfl rfl (by simp only [List.length_append, List.length_cons, List.length_nil, List.length_replicate, es_X3_len] <;> omega) rfl rfl dX0_init_28 ?_
  refine cz_putF h zC0 (fs' := [.ref sz, .ref (sz + 1011), .int 0, .ref (sz + 1012), .null, .null, .null, .null, .null, .int 0, .long 0, .long 0]) 3 rfl wd_51 rfl (ty := tyX0 3) (by decide +kernel) rfl rfl rfl rfl dX0_init_32 ?_
  refine cz_aload h dX0_init_35 rfl 0 rfl ?_
  refine cz_sipush h (v := (924 : Int32)) dX0_init_36 (by decide) ?_
  refine cz_newa h (ty := .long) (t := 1) (N := 924) (a0 := (924, .inr (.inl (fun _ => 0)))) rfl wd_50 rfl (fun _ => rfl) (by decide) (by decide) (fun _ w => w) (Nat.ble_eq.mpr (Nat.le_of_ble_eq_true rfl)) (by simp only [List.length_append, List.length_cons, List.length_nil, List.length_replicate, es_X3_len] <;> omega) rfl rfl dX0_init_39 ?_
  refine cz_putF h zC0 (fs' := [.ref sz, .ref (sz + 1011), .int 0, .ref (sz + 1012), .ref (sz + 1016), .null, .null, .null, .null, .int 0, .long 0, .long 0]) 4 rfl wd_52 rfl (ty := tyX0 4) (by decide +kernel) rfl rfl rfl rfl dX0_init_41 ?_
  refine cz_aload h dX0_init_44 rfl 0 rfl ?_
  refine cz_new h zC1 (fs := blk1) tyX1 tyX1_ok (by decide +kernel) wd_53 wd_24 wd_25 (by simp only [List.length_append, List.length_cons, List.length_nil, List.length_replicate, es_X3_len] <;> omega) rfl rfl dX0_init_45 ?_
  refine cz_dup h dX0_init_48 ?_
  refine cz_ctor h (mc := 0) (ms := 0) (cells' := 1018) (slots' := 31719) (n' := (sz + 1018)) (c_X1_init l G) (by simp only [List.length_append, List.length_cons, List.length_nil, List.length_replicate, es_X1_len, es_X3_len] <;> omega) (by simp only [List.length_append, List.length_cons, List.length_nil, List.length_replicate, es_X1_len, es_X3_len] <;> omega) wd_78 wd_79 wd_25 wd_80 rfl (by decide +kernel) ⟨rfl, rfl⟩ rfl rfl rfl rfl rfl rfl (by simp only [es_X1_len]) dX0_init_49 ?_
  refine cz_putF h zC0 (fs' := [.ref sz, .ref (sz + 1011), .int 0, .ref (sz + 1012), .ref (sz + 1016), .ref (sz + 1017), .null, .null, .null, .int 0, .long 0, .long 0]) 5 rfl wd_54 rfl (ty := tyX0 5) (by decide +kernel) rfl rfl rfl rfl dX0_init_52 ?_
  refine cz_aload h dX0_init_55 rfl 0 rfl ?_
  refine cz_new h zC1 (fs := blk1) tyX1 tyX1_ok (by decide +kernel) wd_53 wd_24 wd_25 (by simp only [List.length_append, List.length_cons, List.length_nil, List.length_replicate, es_X1_len, es_X3_len] <;> omega) rfl rfl dX0_init_56 ?_
  refine cz_dup h dX0_init_59 ?_
  refine cz_ctor h (mc := 0) (ms := 0) (cells' := 1019) (slots' := 31721) (n' := (sz + 1019)) (c_X1_init l G) (by simp only [List.length_append, List.length_cons, List.length_nil, List.length_replicate, es_X1_len, es_X3_len] <;> omega) (by simp only [List.length_append, List.length_cons, List.length_nil, List.length_replicate, es_X1_len, es_X3_len] <;> omega) wd_78 wd_79 wd_25 wd_80 rfl (by decide +kernel) ⟨rfl, rfl⟩ rfl rfl rfl rfl rfl rfl (by simp only [es_X1_len]) dX0_init_60 ?_
  refine cz_putF h zC0 (fs' := [.ref sz, .ref (sz + 1011), .int 0, .ref (sz + 1012), .ref (sz + 1016), .ref (sz + 1017), .ref (sz + 1018), .null, .null, .int 0, .long 0, .long 0]) 6 rfl wd_55 rfl (ty := tyX0 6) (by decide +kernel) rfl rfl rfl rfl dX0_init_63 ?_
  refine cz_aload h dX0_init_66 rfl 0 rfl ?_
  refine cz_new h zC1 (fs := blk1) tyX1 tyX1_ok (by decide +kernel) wd_53 wd_24 wd_25 (by simp only [List.length_append, List.length_cons, List.length_nil, List.length_replicate, es_X1_len, es_X3_len] <;> omega) rfl rfl dX0_init_67 ?_
  refine cz_dup h dX0_init_70 ?_
  refine cz_ctor h (mc := 0) (ms := 0) (cells' := 1020) (slots' := 31723) (n' := (sz + 1020)) (c_X1_init l G) (by simp only [List.length_append, List.length_cons, List.length_nil, List.length_replicate, es_X1_len, es_X3_len] <;> omega) (by simp only [List.length_append, List.length_cons, List.length_nil, List.length_replicate, es_X1_len, es_X3_len] <;> omega) wd_78 wd_79 wd_25 wd_80 rfl (by decide +kernel) ⟨rfl, rfl⟩ rfl rfl rfl rfl rfl rfl (by simp only [es_X1_len]) dX0_init_71 ?_
  refine cz_putF h zC0 (fs' := [.ref sz, .ref (sz + 1011), .int 0, .ref (sz + 1012), .ref (sz + 1016), .ref (sz + 1017), .ref (sz + 1018), .ref (sz + 1019), .null, .int 0, .long 0, .long 0]) 7 rfl wd_56 rfl (ty := tyX0 7) (by decide +kernel) rfl rfl rfl rfl dX0_init_74 ?_
  refine cz_aload h dX0_init_77 rfl 0 rfl ?_
  refine cz_new h zC1 (fs := blk1) tyX1 tyX1_ok (by decide +kernel) wd_53 wd_24 wd_25 (by simp only [List.length_append, List.length_cons, List.length_nil, List.length_replicate, es_X1_len, es_X3_len] <;> omega) rfl rfl dX0_init_78 ?_
  refine cz_dup h dX0_init_81 ?_
  refine cz_ctor h (mc := 0) (ms := 0) (cells' := 1021) (slots' := 31725) (n' := (sz + 1021)) (c_X1_init l G) (by simp only [List.length_append, List.length_cons, List.length_nil, List.length_replicate, es_X1_len, es_X3_len] <;> omega) (by simp only [List.length_append, List.length_cons, List.length_nil, List.length_replicate, es_X1_len, es_X3_len] <;> omega) wd_78 wd_79 wd_25 wd_80 rfl (by decide +kernel) ⟨rfl, rfl⟩ rfl rfl rfl rfl rfl rfl (by simp only [es_X1_len]) dX0_init_82 ?_
  refine cz_putF h zC0 (fs' := [.ref sz, .ref (sz + 1011), .int 0, .ref (sz + 1012), .ref (sz + 1016), .ref (sz + 1017), .ref (sz + 1018), .ref (sz + 1019), .ref (sz + 1020), .int 0, .long 0, .long 0]) 8 rfl wd_57 rfl (ty := tyX0 8) (by decide +kernel) rfl rfl rfl rfl dX0_init_85 ?_
  exact cz_ret h hq (by simp only [List.length_append, List.length_cons, List.length_nil, List.length_replicate, es_X1_len, es_X3_len] <;> omega) dX0_init_88
theorem dX5_init_0 : decode cX5_init 0 = .ok (.aload_n 0, 1) := by decide +kernel
theorem dX5_init_1 : decode cX5_init 1 = .ok (.invokespecial 3, 3) := by decide +kernel
theorem dX5_init_4 : decode cX5_init 4 = .ok (.aload_n 0, 1) := by decide +kernel
theorem dX5_init_5 : decode cX5_init 5 = .ok (.new 9, 3) := by decide +kernel
theorem dX5_init_8 : decode cX5_init 8 = .ok (.dup, 1) := by decide +kernel
theorem dX5_init_9 : decode cX5_init 9 = .ok (.invokespecial 11, 3) := by decide +kernel
theorem dX5_init_12 : decode cX5_init 12 = .ok (.putfield 12, 3) := by decide +kernel
theorem dX5_init_15 : decode cX5_init 15 = .ok (.aload_n 0, 1) := by decide +kernel
theorem dX5_init_16 : decode cX5_init 16 = .ok (.iconst 2, 1) := by decide +kernel
theorem dX5_init_17 : decode cX5_init 17 = .ok (.anewarray 9, 3) := by decide +kernel
theorem dX5_init_20 : decode cX5_init 20 = .ok (.putfield 16, 3) := by decide +kernel
theorem dX5_init_23 : decode cX5_init 23 = .ok (.iconst 0, 1) := by decide +kernel
theorem dX5_init_24 : decode cX5_init 24 = .ok (.istore_n 1, 1) := by decide +kernel
theorem dX5_init_25 : decode cX5_init 25 = .ok (.iload_n 1, 1) := by decide +kernel
theorem dX5_init_26 : decode cX5_init 26 = .ok (.iconst 2, 1) := by decide +kernel
theorem dX5_init_27 : decode cX5_init 27 = .ok (.if_icmp .ge 22, 3) := by decide +kernel
theorem dX5_init_30 : decode cX5_init 30 = .ok (.aload_n 0, 1) := by decide +kernel
theorem dX5_init_31 : decode cX5_init 31 = .ok (.getfield 16, 3) := by decide +kernel
theorem dX5_init_34 : decode cX5_init 34 = .ok (.iload_n 1, 1) := by decide +kernel
theorem dX5_init_35 : decode cX5_init 35 = .ok (.new 9, 3) := by decide +kernel
theorem dX5_init_38 : decode cX5_init 38 = .ok (.dup, 1) := by decide +kernel
theorem dX5_init_39 : decode cX5_init 39 = .ok (.invokespecial 11, 3) := by decide +kernel
theorem dX5_init_42 : decode cX5_init 42 = .ok (.aastore, 1) := by decide +kernel
theorem dX5_init_43 : decode cX5_init 43 = .ok (.iinc 1 1, 3) := by decide +kernel
theorem dX5_init_46 : decode cX5_init 46 = .ok (.goto (-21), 3) := by decide +kernel
theorem dX5_init_49 : decode cX5_init 49 = .ok (.aload_n 0, 1) := by decide +kernel
theorem dX5_init_50 : decode cX5_init 50 = .ok (.new 20, 3) := by decide +kernel
theorem dX5_init_53 : decode cX5_init 53 = .ok (.dup, 1) := by decide +kernel
theorem dX5_init_54 : decode cX5_init 54 = .ok (.invokespecial 22, 3) := by decide +kernel
theorem dX5_init_57 : decode cX5_init 57 = .ok (.putfield 23, 3) := by decide +kernel
theorem dX5_init_60 : decode cX5_init 60 = .ok (.aload_n 0, 1) := by decide +kernel
theorem dX5_init_61 : decode cX5_init 61 = .ok (.aload_n 0, 1) := by decide +kernel
theorem dX5_init_62 : decode cX5_init 62 = .ok (.getfield 23, 3) := by decide +kernel
theorem dX5_init_65 : decode cX5_init 65 = .ok (.getfield 27, 3) := by decide +kernel
theorem dX5_init_68 : decode cX5_init 68 = .ok (.putfield 31, 3) := by decide +kernel
theorem dX5_init_71 : decode cX5_init 71 = .ok (.aload_n 0, 1) := by decide +kernel
theorem dX5_init_72 : decode cX5_init 72 = .ok (.aload_n 0, 1) := by decide +kernel
theorem dX5_init_73 : decode cX5_init 73 = .ok (.getfield 31, 3) := by decide +kernel
theorem dX5_init_76 : decode cX5_init 76 = .ok (.getfield 32, 3) := by decide +kernel
theorem dX5_init_79 : decode cX5_init 79 = .ok (.putfield 38, 3) := by decide +kernel
theorem dX5_init_82 : decode cX5_init 82 = .ok (.aload_n 0, 1) := by decide +kernel
theorem dX5_init_83 : decode cX5_init 83 = .ok (.new 39, 3) := by decide +kernel
theorem dX5_init_86 : decode cX5_init 86 = .ok (.dup, 1) := by decide +kernel
theorem dX5_init_87 : decode cX5_init 87 = .ok (.invokespecial 41, 3) := by decide +kernel
theorem dX5_init_90 : decode cX5_init 90 = .ok (.putfield 42, 3) := by decide +kernel
theorem dX5_init_93 : decode cX5_init 93 = .ok (.return_, 1) := by decide +kernel
abbrev rm_X5_init : Room := { frames := 4, cells := 1066, slots := 32029, locals := 100 }
def fin_X5 (_ : ZG) (sz : Nat) : List Value := [.ref sz, .ref (sz + 14), .ref (sz + 45), .ref (sz + 44), .ref (sz + 43), .ref (sz + 1065), .int 0, .int 0, .int 0]
def es_X5 (G : ZG) (sz : Nat) : List va_E := ((((((([] : List va_E) ++ (.inr (2, fin_X2 G (sz + 1)) :: es_X2 G (sz + 1))) ++ [.inl (G.2.2 4, 2, .inr (.inr (.inr (.inr (va_up (va_up (fun _ => none) ((0 : Int32)).toNatClampNeg (some (sz + 15))) ((1 : Int32)).toNatClampNeg (some (sz + 29)))))))]) ++ (.inr (2, fin_X2 G (sz + 16)) :: es_X2 G (sz + 16))) ++ (.inr (2, fin_X2 G (sz + 30)) :: es_X2 G (sz + 30))) ++ (.inr (0, fin_X0 G (sz + 44)) :: es_X0 G (sz + 44))) ++ (.inr (1, fin_X1 G (sz + 1066)) :: es_X1 G (sz + 1066)))
theorem es_X5_len (G : ZG) (sz : Nat) : (es_X5 G sz).length = 1066 := by
  unfold es_X5
  simp only [List.length_append, List.length_cons, List.length_nil, List.length_replicate, es_X0_len, es_X1_len, es_X2_len] <;> omega
set_option maxHeartbeats 4000000 in
set_option maxRecDepth 100000 in
theorem c_X5_init (l : Launch) (G : ZG) : zCt l G yX5_init cX5_init 2 rm_X5_init 5 blk5 (fin_X5 G) (es_X5 G) 1066 32029 := by
  refine zc_met (by decide +kernel) rfl rfl (fun sz h0 Y h hq => ?_)
  have h : zcOk (l, rm_X5_init, 2, 0, 0) Y G cX5_init RX5 h0 sz := h
  have hq : zcRet (l, rm_X5_init, 2, 0, 0) Y G h0 sz (.inr (5, [.ref sz, .ref (sz + 14), .ref (sz + 45), .ref (sz + 44), .ref (sz + 43), .ref (sz + 1065), .int 0, .int 0, .int 0])) ((((((([] : List va_E) ++ (.inr (2, fin_X2 G (sz + 1)) :: es_X2 G (sz + 1))) ++ [.inl (G.2.2 4, 2, .inr (.inr (.inr (.inr (va_up (va_up (fun _ => none) ((0 : Int32)).toNatClampNeg (some (sz + 15))) ((1 : Int32)).toNatClampNeg (some (sz + 29)))))))]) ++ (.inr (2, fin_X2 G (sz + 16)) :: es_X2 G (sz + 16))) ++ (.inr (2, fin_X2 G (sz + 30)) :: es_X2 G (sz + 30))) ++ (.inr (0, fin_X0 G (sz + 44)) :: es_X0 G (sz + 44))) ++ (.inr (1, fin_X1 G (sz + 1066)) :: es_X1 G (sz + 1066))) 1066 32029 := hq
  refine cz_aload h dX5_init_0 rfl 0 rfl ?_
  refine cz_obj h wd_9 wd_10 wd_11 rfl rfl dX5_init_1 ?_
  refine cz_aload h dX5_init_4 rfl 0 rfl ?_
  refine cz_new h zC2 (fs := blk2) tyX2 tyX2_ok (by decide +kernel) wd_12 wd_13 wd_14 (by simp only [List.length_append, List.length_cons, List.length_nil, List.length_replicate] <;> omega) rfl rfl dX5_init_5 ?_
  refine cz_dup h dX5_init_8 ?_
  refine cz_ctor h (mc := 13) (ms := 87) (cells' := 14) (slots' := 96) (n' := (sz + 14)) (c_X2_init l G) (by simp only [List.length_append, List.length_cons, List.length_nil, List.length_replicate, es_X2_len] <;> omega) (by simp only [List.length_append, List.length_cons, List.length_nil, List.length_replicate, es_X2_len] <;> omega) wd_27 wd_28 wd_14 wd_29 rfl (by decide +kernel) ⟨rfl, rfl⟩ rfl rfl rfl rfl rfl rfl (by simp only [es_X2_len]) dX5_init_9 ?_
  refine cz_putF h zC5 (fs' := [.ref sz, .null, .null, .null, .null, .null, .int 0, .int 0, .int 0]) 0 rfl wd_15 rfl (ty := tyX5 0) (by decide +kernel) rfl rfl rfl rfl dX5_init_12 ?_
  refine cz_aload h dX5_init_15 rfl 0 rfl ?_
  refine cz_iconst h (v := (2 : Int32)) dX5_init_16 (by decide) ?_
  refine cz_newq h (N := 2) wd_12 (by decide) (by decide) rfl (by simp only [List.length_append, List.length_cons, List.length_nil, List.length_replicate, es_X2_len] <;> omega) rfl rfl dX5_init_17 ?_
  refine cz_putF h zC5 (fs' := [.ref sz, .ref (sz + 14), .null, .null, .null, .null, .int 0, .int 0, .int 0]) 1 rfl wd_16 rfl (ty := tyX5 1) (by decide +kernel) rfl rfl rfl rfl dX5_init_20 ?_
  refine cz_iconst h (v := (0 : Int32)) dX5_init_23 (by decide) ?_
  refine cz_istore h (lv' := [(1, .int (0 : Int32)), (0, .ref h0)]) dX5_init_24 rfl (by decide) rfl ?_
  refine cz_iload h dX5_init_25 rfl 0 rfl ?_
  refine cz_iconst h (v := (2 : Int32)) dX5_init_26 (by decide) ?_
  refine cz_icmp_ge_f h (tgt := 49) dX5_init_27 (by decide) (by decide) ?_
  refine cz_aload h dX5_init_30 rfl 1 rfl ?_
  refine cz_get h zC5 1 rfl wd_16 rfl dX5_init_31 ?_
  refine cz_iload h dX5_init_34 rfl 0 rfl ?_
  refine cz_new h zC2 (fs := blk2) tyX2 tyX2_ok (by decide +kernel) wd_12 wd_13 wd_14 (by simp only [List.length_append, List.length_cons, List.length_nil, List.length_replicate, es_X2_len] <;> omega) rfl rfl dX5_init_35 ?_
  refine cz_dup h dX5_init_38 ?_
  refine cz_ctor h (mc := 13) (ms := 87) (cells' := 29) (slots' := 194) (n' := (sz + 29)) (c_X2_init l G) (by simp only [List.length_append, List.length_cons, List.length_nil, List.length_replicate, es_X2_len] <;> omega) (by simp only [List.length_append, List.length_cons, List.length_nil, List.length_replicate, es_X2_len] <;> omega) wd_27 wd_28 wd_14 wd_29 rfl (by decide +kernel) ⟨rfl, rfl⟩ rfl rfl rfl rfl rfl rfl (by simp only [es_X2_len]) dX5_init_39 ?_
  refine cz_ast h (i0 := 14) (i1 := 15) (N := 2) (es' := (((([] : List va_E) ++ (.inr (2, fin_X2 G (sz + 1)) :: es_X2 G (sz + 1))) ++ [.inl (G.2.2 4, 2, .inr (.inr (.inr (.inr (va_up (fun _ => none) ((0 : Int32)).toNatClampNeg (some (sz + 15)))))))]) ++ (.inr (2, fin_X2 G (sz + 16)) :: es_X2 G (sz + 16)))) rfl rfl rfl rfl (inb_vp (by decide)) rfl dX5_init_42 ?_
  refine cz_iinc h (v := (1 : Int32)) (lv' := [(1, .int (1 : Int32)), (0, .ref h0)]) dX5_init_43 0 rfl (by decide) (by decide) rfl ?_
  refine cz_goto h (tgt := 25) dX5_init_46 (by decide) ?_
  refine cz_iload h dX5_init_25 rfl 0 rfl ?_
  refine cz_iconst h (v := (2 : Int32)) dX5_init_26 (by decide) ?_
  refine cz_icmp_ge_f h (tgt := 49) dX5_init_27 (by decide) (by decide) ?_
  refine cz_aload h dX5_init_30 rfl 1 rfl ?_
  refine cz_get h zC5 1 rfl wd_16 rfl dX5_init_31 ?_
  refine cz_iload h dX5_init_34 rfl 0 rfl ?_
  refine cz_new h zC2 (fs := blk2) tyX2 tyX2_ok (by decide +kernel) wd_12 wd_13 wd_14 (by simp only [List.length_append, List.length_cons, List.length_nil, List.length_replicate, es_X2_len] <;> omega) rfl rfl dX5_init_35 ?_
  refine cz_dup h dX5_init_38 ?_
  refine cz_ctor h (mc := 13) (ms := 87) (cells' := 43) (slots' := 290) (n' := (sz + 43)) (c_X2_init l G) (by simp only [List.length_append, List.length_cons, List.length_nil, List.length_replicate, es_X2_len] <;> omega) (by simp only [List.length_append, List.length_cons, List.length_nil, List.length_replicate, es_X2_len] <;> omega) wd_27 wd_28 wd_14 wd_29 rfl (by decide +kernel) ⟨rfl, rfl⟩ rfl rfl rfl rfl rfl rfl (by simp only [es_X2_len]) dX5_init_39 ?_
  refine cz_ast h (i0 := 14) (i1 := 29) (N := 2) (es' := ((((([] : List va_E) ++ (.inr (2, fin_X2 G (sz + 1)) :: es_X2 G (sz + 1))) ++ [.inl (G.2.2 4, 2, .inr (.inr (.inr (.inr (va_up (va_up (fun _ => none) ((0 : Int32)).toNatClampNeg (some (sz + 15))) ((1 : Int32)).toNatClampNeg (some (sz + 29)))))))]) ++ (.inr (2, fin_X2 G (sz + 16)) :: es_X2 G (sz + 16))) ++ (.inr (2, fin_X2 G (sz + 30)) :: es_X2 G (sz + 30)))) rfl rfl rfl rfl (inb_vp (by decide)) rfl dX5_init_42 ?_
  refine cz_iinc h (v := (2 : Int32)) (lv' := [(1, .int (2 : Int32)), (0, .ref h0)]) dX5_init_43 0 rfl (by decide) (by decide) rfl ?_
  refine cz_goto h (tgt := 25) dX5_init_46 (by decide) ?_
  refine cz_iload h dX5_init_25 rfl 0 rfl ?_
  refine cz_iconst h (v := (2 : Int32)) dX5_init_26 (by decide) ?_
  refine cz_icmp_ge_t h (tgt := 49) dX5_init_27 (by decide) (by decide) ?_
  refine cz_aload h dX5_init_49 rfl 1 rfl ?_
  refine cz_new h zC0 (fs := blk0) tyX0 tyX0_ok (by decide +kernel) wd_17 wd_18 wd_19 (by simp only [List.length_append, List.length_cons, List.length_nil, List.length_replicate, es_X2_len] <;> omega) rfl rfl dX5_init_50 ?_
  refine cz_dup h dX5_init_53 ?_
  refine cz_ctor h (mc := 1021) (ms := 31725) (cells' := 1065) (slots' := 32027) (n' := (sz + 1065)) (c_X0_init l G) (by simp only [List.length_append, List.length_cons, List.length_nil, List.length_replicate, es_X0_len, es_X2_len] <;> omega) (by simp only [List.length_append, List.length_cons, List.length_nil, List.length_replicate, es_X0_len, es_X2_len] <;> omega) wd_40 wd_41 wd_19 wd_42 rfl (by decide +kernel) ⟨rfl, rfl⟩ rfl rfl rfl rfl rfl rfl (by simp only [es_X0_len]) dX5_init_54 ?_
  refine cz_putF h zC5 (fs' := [.ref sz, .ref (sz + 14), .null, .null, .ref (sz + 43), .null, .int 0, .int 0, .int 0]) 4 rfl wd_20 rfl (ty := tyX5 4) (by decide +kernel) rfl rfl rfl rfl dX5_init_57 ?_
  refine cz_aload h dX5_init_60 rfl 1 rfl ?_
  refine cz_aload h dX5_init_61 rfl 1 rfl ?_
  refine cz_get h zC5 4 rfl wd_20 rfl dX5_init_62 ?_
  refine cz_getN h zC0 (fs := fin_X0 G (sz + 44)) (i := 43) rfl rfl 0 rfl (by decide +kernel) (v := .ref (sz + 44)) rfl dX5_init_65 ?_
  refine cz_putF h zC5 (fs' := [.ref sz, .ref (sz + 14), .null, .ref (sz + 44), .ref (sz + 43), .null, .int 0, .int 0, .int 0]) 3 rfl wd_21 rfl (ty := tyX5 3) (by decide +kernel) rfl rfl rfl rfl dX5_init_68 ?_
  refine cz_aload h dX5_init_71 rfl 1 rfl ?_
  refine cz_aload h dX5_init_72 rfl 1 rfl ?_
  refine cz_get h zC5 3 rfl wd_21 rfl dX5_init_73 ?_
  refine cz_getN h zC3 (fs := fin_X3 G (sz + 45)) (i := 44) rfl rfl 0 rfl (by decide +kernel) (v := .ref (sz + 45)) rfl dX5_init_76 ?_
  refine cz_putF h zC5 (fs' := [.ref sz, .ref (sz + 14), .ref (sz + 45), .ref (sz + 44), .ref (sz + 43), .null, .int 0, .int 0, .int 0]) 2 rfl wd_22 rfl (ty := tyX5 2) (by decide +kernel) rfl rfl rfl rfl dX5_init_79 ?_
  refine cz_aload h dX5_init_82 rfl 1 rfl ?_
  refine cz_new h zC1 (fs := blk1) tyX1 tyX1_ok (by decide +kernel) wd_23 wd_24 wd_25 (by simp only [List.length_append, List.length_cons, List.length_nil, List.length_replicate, es_X0_len, es_X2_len] <;> omega) rfl rfl dX5_init_83 ?_
  refine cz_dup h dX5_init_86 ?_
  refine cz_ctor h (mc := 0) (ms := 0) (cells' := 1066) (slots' := 32029) (n' := (sz + 1066)) (c_X1_init l G) (by simp only [List.length_append, List.length_cons, List.length_nil, List.length_replicate, es_X0_len, es_X1_len, es_X2_len] <;> omega) (by simp only [List.length_append, List.length_cons, List.length_nil, List.length_replicate, es_X0_len, es_X1_len, es_X2_len] <;> omega) wd_83 wd_79 wd_25 wd_80 rfl (by decide +kernel) ⟨rfl, rfl⟩ rfl rfl rfl rfl rfl rfl (by simp only [es_X1_len]) dX5_init_87 ?_
  refine cz_putF h zC5 (fs' := [.ref sz, .ref (sz + 14), .ref (sz + 45), .ref (sz + 44), .ref (sz + 43), .ref (sz + 1065), .int 0, .int 0, .int 0]) 5 rfl wd_26 rfl (ty := tyX5 5) (by decide +kernel) rfl rfl rfl rfl dX5_init_90 ?_
  exact cz_ret h hq (by simp only [List.length_append, List.length_cons, List.length_nil, List.length_replicate, es_X0_len, es_X1_len, es_X2_len] <;> omega) dX5_init_93
theorem dX6_init_0 : decode cX6_init 0 = .ok (.aload_n 0, 1) := by decide +kernel
theorem dX6_init_1 : decode cX6_init 1 = .ok (.invokespecial 1, 3) := by decide +kernel
theorem dX6_init_4 : decode cX6_init 4 = .ok (.aload_n 0, 1) := by decide +kernel
theorem dX6_init_5 : decode cX6_init 5 = .ok (.bipush 7, 2) := by decide +kernel
theorem dX6_init_7 : decode cX6_init 7 = .ok (.newarray .int, 2) := by decide +kernel
theorem dX6_init_9 : decode cX6_init 9 = .ok (.putfield 7, 3) := by decide +kernel
theorem dX6_init_12 : decode cX6_init 12 = .ok (.aload_n 0, 1) := by decide +kernel
theorem dX6_init_13 : decode cX6_init 13 = .ok (.bipush 7, 2) := by decide +kernel
theorem dX6_init_15 : decode cX6_init 15 = .ok (.newarray .int, 2) := by decide +kernel
theorem dX6_init_17 : decode cX6_init 17 = .ok (.putfield 13, 3) := by decide +kernel
theorem dX6_init_20 : decode cX6_init 20 = .ok (.aload_n 0, 1) := by decide +kernel
theorem dX6_init_21 : decode cX6_init 21 = .ok (.bipush 7, 2) := by decide +kernel
theorem dX6_init_23 : decode cX6_init 23 = .ok (.newarray .int, 2) := by decide +kernel
theorem dX6_init_25 : decode cX6_init 25 = .ok (.putfield 16, 3) := by decide +kernel
theorem dX6_init_28 : decode cX6_init 28 = .ok (.aload_n 0, 1) := by decide +kernel
theorem dX6_init_29 : decode cX6_init 29 = .ok (.bipush 6, 2) := by decide +kernel
theorem dX6_init_31 : decode cX6_init 31 = .ok (.newarray .int, 2) := by decide +kernel
theorem dX6_init_33 : decode cX6_init 33 = .ok (.putfield 19, 3) := by decide +kernel
theorem dX6_init_36 : decode cX6_init 36 = .ok (.aload_n 0, 1) := by decide +kernel
theorem dX6_init_37 : decode cX6_init 37 = .ok (.bipush 6, 2) := by decide +kernel
theorem dX6_init_39 : decode cX6_init 39 = .ok (.newarray .int, 2) := by decide +kernel
theorem dX6_init_41 : decode cX6_init 41 = .ok (.putfield 22, 3) := by decide +kernel
theorem dX6_init_44 : decode cX6_init 44 = .ok (.aload_n 0, 1) := by decide +kernel
theorem dX6_init_45 : decode cX6_init 45 = .ok (.bipush 6, 2) := by decide +kernel
theorem dX6_init_47 : decode cX6_init 47 = .ok (.newarray .int, 2) := by decide +kernel
theorem dX6_init_49 : decode cX6_init 49 = .ok (.putfield 25, 3) := by decide +kernel
theorem dX6_init_52 : decode cX6_init 52 = .ok (.aload_n 0, 1) := by decide +kernel
theorem dX6_init_53 : decode cX6_init 53 = .ok (.bipush 42, 2) := by decide +kernel
theorem dX6_init_55 : decode cX6_init 55 = .ok (.newarray .int, 2) := by decide +kernel
theorem dX6_init_57 : decode cX6_init 57 = .ok (.putfield 28, 3) := by decide +kernel
theorem dX6_init_60 : decode cX6_init 60 = .ok (.aload_n 0, 1) := by decide +kernel
theorem dX6_init_61 : decode cX6_init 61 = .ok (.iconst 1, 1) := by decide +kernel
theorem dX6_init_62 : decode cX6_init 62 = .ok (.putfield 31, 3) := by decide +kernel
theorem dX6_init_65 : decode cX6_init 65 = .ok (.aload_n 0, 1) := by decide +kernel
theorem dX6_init_66 : decode cX6_init 66 = .ok (.bipush 14, 2) := by decide +kernel
theorem dX6_init_68 : decode cX6_init 68 = .ok (.newarray .int, 2) := by decide +kernel
theorem dX6_init_70 : decode cX6_init 70 = .ok (.putfield 35, 3) := by decide +kernel
theorem dX6_init_73 : decode cX6_init 73 = .ok (.aload_n 0, 1) := by decide +kernel
theorem dX6_init_74 : decode cX6_init 74 = .ok (.bipush 21, 2) := by decide +kernel
theorem dX6_init_76 : decode cX6_init 76 = .ok (.newarray .int, 2) := by decide +kernel
theorem dX6_init_78 : decode cX6_init 78 = .ok (.putfield 38, 3) := by decide +kernel
theorem dX6_init_81 : decode cX6_init 81 = .ok (.aload_n 0, 1) := by decide +kernel
theorem dX6_init_82 : decode cX6_init 82 = .ok (.sipush 252, 3) := by decide +kernel
theorem dX6_init_85 : decode cX6_init 85 = .ok (.newarray .long, 2) := by decide +kernel
theorem dX6_init_87 : decode cX6_init 87 = .ok (.putfield 41, 3) := by decide +kernel
theorem dX6_init_90 : decode cX6_init 90 = .ok (.aload_n 0, 1) := by decide +kernel
theorem dX6_init_91 : decode cX6_init 91 = .ok (.sipush 252, 3) := by decide +kernel
theorem dX6_init_94 : decode cX6_init 94 = .ok (.newarray .long, 2) := by decide +kernel
theorem dX6_init_96 : decode cX6_init 96 = .ok (.putfield 45, 3) := by decide +kernel
theorem dX6_init_99 : decode cX6_init 99 = .ok (.aload_n 0, 1) := by decide +kernel
theorem dX6_init_100 : decode cX6_init 100 = .ok (.bipush 12, 2) := by decide +kernel
theorem dX6_init_102 : decode cX6_init 102 = .ok (.newarray .int, 2) := by decide +kernel
theorem dX6_init_104 : decode cX6_init 104 = .ok (.putfield 48, 3) := by decide +kernel
theorem dX6_init_107 : decode cX6_init 107 = .ok (.aload_n 0, 1) := by decide +kernel
theorem dX6_init_108 : decode cX6_init 108 = .ok (.sipush 924, 3) := by decide +kernel
theorem dX6_init_111 : decode cX6_init 111 = .ok (.newarray .int, 2) := by decide +kernel
theorem dX6_init_113 : decode cX6_init 113 = .ok (.putfield 51, 3) := by decide +kernel
theorem dX6_init_116 : decode cX6_init 116 = .ok (.aload_n 0, 1) := by decide +kernel
theorem dX6_init_117 : decode cX6_init 117 = .ok (.sipush 11088, 3) := by decide +kernel
theorem dX6_init_120 : decode cX6_init 120 = .ok (.newarray .long, 2) := by decide +kernel
theorem dX6_init_122 : decode cX6_init 122 = .ok (.putfield 54, 3) := by decide +kernel
theorem dX6_init_125 : decode cX6_init 125 = .ok (.aload_n 0, 1) := by decide +kernel
theorem dX6_init_126 : decode cX6_init 126 = .ok (.sipush 4096, 3) := by decide +kernel
theorem dX6_init_129 : decode cX6_init 129 = .ok (.newarray .boolean, 2) := by decide +kernel
theorem dX6_init_131 : decode cX6_init 131 = .ok (.putfield 57, 3) := by decide +kernel
theorem dX6_init_134 : decode cX6_init 134 = .ok (.aload_n 0, 1) := by decide +kernel
theorem dX6_init_135 : decode cX6_init 135 = .ok (.bipush 13, 2) := by decide +kernel
theorem dX6_init_137 : decode cX6_init 137 = .ok (.newarray .int, 2) := by decide +kernel
theorem dX6_init_139 : decode cX6_init 139 = .ok (.putfield 61, 3) := by decide +kernel
theorem dX6_init_142 : decode cX6_init 142 = .ok (.aload_n 0, 1) := by decide +kernel
theorem dX6_init_143 : decode cX6_init 143 = .ok (.bipush 21, 2) := by decide +kernel
theorem dX6_init_145 : decode cX6_init 145 = .ok (.newarray .long, 2) := by decide +kernel
theorem dX6_init_147 : decode cX6_init 147 = .ok (.putfield 64, 3) := by decide +kernel
theorem dX6_init_150 : decode cX6_init 150 = .ok (.aload_n 0, 1) := by decide +kernel
theorem dX6_init_151 : decode cX6_init 151 = .ok (.bipush 12, 2) := by decide +kernel
theorem dX6_init_153 : decode cX6_init 153 = .ok (.newarray .long, 2) := by decide +kernel
theorem dX6_init_155 : decode cX6_init 155 = .ok (.putfield 67, 3) := by decide +kernel
theorem dX6_init_158 : decode cX6_init 158 = .ok (.aload_n 0, 1) := by decide +kernel
theorem dX6_init_159 : decode cX6_init 159 = .ok (.iconst 3, 1) := by decide +kernel
theorem dX6_init_160 : decode cX6_init 160 = .ok (.newarray .long, 2) := by decide +kernel
theorem dX6_init_162 : decode cX6_init 162 = .ok (.putfield 70, 3) := by decide +kernel
theorem dX6_init_165 : decode cX6_init 165 = .ok (.aload_n 0, 1) := by decide +kernel
theorem dX6_init_166 : decode cX6_init 166 = .ok (.sipush 180, 3) := by decide +kernel
theorem dX6_init_169 : decode cX6_init 169 = .ok (.newarray .long, 2) := by decide +kernel
theorem dX6_init_171 : decode cX6_init 171 = .ok (.putfield 73, 3) := by decide +kernel
theorem dX6_init_174 : decode cX6_init 174 = .ok (.aload_n 0, 1) := by decide +kernel
theorem dX6_init_175 : decode cX6_init 175 = .ok (.sipush 180, 3) := by decide +kernel
theorem dX6_init_178 : decode cX6_init 178 = .ok (.newarray .long, 2) := by decide +kernel
theorem dX6_init_180 : decode cX6_init 180 = .ok (.putfield 76, 3) := by decide +kernel
theorem dX6_init_183 : decode cX6_init 183 = .ok (.aload_n 0, 1) := by decide +kernel
theorem dX6_init_184 : decode cX6_init 184 = .ok (.bipush 15, 2) := by decide +kernel
theorem dX6_init_186 : decode cX6_init 186 = .ok (.newarray .int, 2) := by decide +kernel
theorem dX6_init_188 : decode cX6_init 188 = .ok (.putfield 79, 3) := by decide +kernel
theorem dX6_init_191 : decode cX6_init 191 = .ok (.aload_n 0, 1) := by decide +kernel
theorem dX6_init_192 : decode cX6_init 192 = .ok (.iconst (-1), 1) := by decide +kernel
theorem dX6_init_193 : decode cX6_init 193 = .ok (.putfield 82, 3) := by decide +kernel
theorem dX6_init_196 : decode cX6_init 196 = .ok (.aload_n 0, 1) := by decide +kernel
theorem dX6_init_197 : decode cX6_init 197 = .ok (.iconst 3, 1) := by decide +kernel
theorem dX6_init_198 : decode cX6_init 198 = .ok (.newarray .long, 2) := by decide +kernel
theorem dX6_init_200 : decode cX6_init 200 = .ok (.putfield 86, 3) := by decide +kernel
theorem dX6_init_203 : decode cX6_init 203 = .ok (.aload_n 0, 1) := by decide +kernel
theorem dX6_init_204 : decode cX6_init 204 = .ok (.bipush 12, 2) := by decide +kernel
theorem dX6_init_206 : decode cX6_init 206 = .ok (.newarray .int, 2) := by decide +kernel
theorem dX6_init_208 : decode cX6_init 208 = .ok (.putfield 89, 3) := by decide +kernel
theorem dX6_init_211 : decode cX6_init 211 = .ok (.aload_n 0, 1) := by decide +kernel
theorem dX6_init_212 : decode cX6_init 212 = .ok (.sipush 180, 3) := by decide +kernel
theorem dX6_init_215 : decode cX6_init 215 = .ok (.newarray .long, 2) := by decide +kernel
theorem dX6_init_217 : decode cX6_init 217 = .ok (.putfield 92, 3) := by decide +kernel
theorem dX6_init_220 : decode cX6_init 220 = .ok (.aload_n 0, 1) := by decide +kernel
theorem dX6_init_221 : decode cX6_init 221 = .ok (.bipush 15, 2) := by decide +kernel
theorem dX6_init_223 : decode cX6_init 223 = .ok (.newarray .long, 2) := by decide +kernel
theorem dX6_init_225 : decode cX6_init 225 = .ok (.putfield 95, 3) := by decide +kernel
theorem dX6_init_228 : decode cX6_init 228 = .ok (.aload_n 0, 1) := by decide +kernel
theorem dX6_init_229 : decode cX6_init 229 = .ok (.iconst 2, 1) := by decide +kernel
theorem dX6_init_230 : decode cX6_init 230 = .ok (.newarray .long, 2) := by decide +kernel
theorem dX6_init_232 : decode cX6_init 232 = .ok (.putfield 98, 3) := by decide +kernel
theorem dX6_init_235 : decode cX6_init 235 = .ok (.aload_n 0, 1) := by decide +kernel
theorem dX6_init_236 : decode cX6_init 236 = .ok (.iconst 2, 1) := by decide +kernel
theorem dX6_init_237 : decode cX6_init 237 = .ok (.newarray .long, 2) := by decide +kernel
theorem dX6_init_239 : decode cX6_init 239 = .ok (.putfield 101, 3) := by decide +kernel
theorem dX6_init_242 : decode cX6_init 242 = .ok (.aload_n 0, 1) := by decide +kernel
theorem dX6_init_243 : decode cX6_init 243 = .ok (.iconst 3, 1) := by decide +kernel
theorem dX6_init_244 : decode cX6_init 244 = .ok (.newarray .boolean, 2) := by decide +kernel
theorem dX6_init_246 : decode cX6_init 246 = .ok (.putfield 104, 3) := by decide +kernel
theorem dX6_init_249 : decode cX6_init 249 = .ok (.aload_n 0, 1) := by decide +kernel
theorem dX6_init_250 : decode cX6_init 250 = .ok (.iconst 3, 1) := by decide +kernel
theorem dX6_init_251 : decode cX6_init 251 = .ok (.newarray .int, 2) := by decide +kernel
theorem dX6_init_253 : decode cX6_init 253 = .ok (.putfield 107, 3) := by decide +kernel
theorem dX6_init_256 : decode cX6_init 256 = .ok (.aload_n 0, 1) := by decide +kernel
theorem dX6_init_257 : decode cX6_init 257 = .ok (.bipush 6, 2) := by decide +kernel
theorem dX6_init_259 : decode cX6_init 259 = .ok (.newarray .long, 2) := by decide +kernel
theorem dX6_init_261 : decode cX6_init 261 = .ok (.putfield 110, 3) := by decide +kernel
theorem dX6_init_264 : decode cX6_init 264 = .ok (.aload_n 0, 1) := by decide +kernel
theorem dX6_init_265 : decode cX6_init 265 = .ok (.bipush 6, 2) := by decide +kernel
theorem dX6_init_267 : decode cX6_init 267 = .ok (.newarray .long, 2) := by decide +kernel
theorem dX6_init_269 : decode cX6_init 269 = .ok (.putfield 113, 3) := by decide +kernel
theorem dX6_init_272 : decode cX6_init 272 = .ok (.aload_n 0, 1) := by decide +kernel
theorem dX6_init_273 : decode cX6_init 273 = .ok (.bipush 12, 2) := by decide +kernel
theorem dX6_init_275 : decode cX6_init 275 = .ok (.newarray .long, 2) := by decide +kernel
theorem dX6_init_277 : decode cX6_init 277 = .ok (.putfield 116, 3) := by decide +kernel
theorem dX6_init_280 : decode cX6_init 280 = .ok (.aload_n 0, 1) := by decide +kernel
theorem dX6_init_281 : decode cX6_init 281 = .ok (.bipush 12, 2) := by decide +kernel
theorem dX6_init_283 : decode cX6_init 283 = .ok (.newarray .long, 2) := by decide +kernel
theorem dX6_init_285 : decode cX6_init 285 = .ok (.putfield 119, 3) := by decide +kernel
theorem dX6_init_288 : decode cX6_init 288 = .ok (.aload_n 0, 1) := by decide +kernel
theorem dX6_init_289 : decode cX6_init 289 = .ok (.bipush 12, 2) := by decide +kernel
theorem dX6_init_291 : decode cX6_init 291 = .ok (.newarray .long, 2) := by decide +kernel
theorem dX6_init_293 : decode cX6_init 293 = .ok (.putfield 122, 3) := by decide +kernel
theorem dX6_init_296 : decode cX6_init 296 = .ok (.aload_n 0, 1) := by decide +kernel
theorem dX6_init_297 : decode cX6_init 297 = .ok (.bipush 12, 2) := by decide +kernel
theorem dX6_init_299 : decode cX6_init 299 = .ok (.newarray .long, 2) := by decide +kernel
theorem dX6_init_301 : decode cX6_init 301 = .ok (.putfield 125, 3) := by decide +kernel
theorem dX6_init_304 : decode cX6_init 304 = .ok (.aload_n 0, 1) := by decide +kernel
theorem dX6_init_305 : decode cX6_init 305 = .ok (.sipush 166, 3) := by decide +kernel
theorem dX6_init_308 : decode cX6_init 308 = .ok (.newarray .int, 2) := by decide +kernel
theorem dX6_init_310 : decode cX6_init 310 = .ok (.putfield 128, 3) := by decide +kernel
theorem dX6_init_313 : decode cX6_init 313 = .ok (.aload_n 0, 1) := by decide +kernel
theorem dX6_init_314 : decode cX6_init 314 = .ok (.iconst 2, 1) := by decide +kernel
theorem dX6_init_315 : decode cX6_init 315 = .ok (.newarray .boolean, 2) := by decide +kernel
theorem dX6_init_317 : decode cX6_init 317 = .ok (.putfield 131, 3) := by decide +kernel
theorem dX6_init_320 : decode cX6_init 320 = .ok (.return_, 1) := by decide +kernel
abbrev rm_X6_init : Room := { frames := 1, cells := 38, slots := 17612, locals := 40 }
def fin_X6 (_ : ZG) (sz : Nat) : List Value := [.int 0, .ref sz, .ref (sz + 1), .ref (sz + 2), .int 0, .ref (sz + 3), .ref (sz + 4), .ref (sz + 5), .ref (sz + 6), .int (1 : Int32), .int 0, .int 0, .ref (sz + 7), .ref (sz + 8), .ref (sz + 9), .ref (sz + 10), .ref (sz + 11), .int 0, .ref (sz + 12), .ref (sz + 13), .ref (sz + 14), .ref (sz + 15), .ref (sz + 16), .ref (sz + 17), .ref (sz + 18), .long 0, .ref (sz + 19), .ref (sz + 20), .ref (sz + 21), .long 0, .int (-1 : Int32), .int 0, .ref (sz + 22), .long 0, .int 0, .ref (sz + 23), .int 0, .ref (sz + 24), .ref (sz + 25), .int 0, .int 0, .ref (sz + 26), .ref (sz + 27), .ref (sz + 28), .ref (sz + 29), .ref (sz + 30), .ref (sz + 31), .ref (sz + 32), .ref (sz + 33), .ref (sz + 34), .ref (sz + 35), .ref (sz + 36), .ref (sz + 37)]
def es_X6 (G : ZG) (sz : Nat) : List va_E := ((((((((((((((((((((((((((((((((((((((([] : List va_E) ++ [.inl (G.2.2 1, (7, .inl (fun _ => 0)))]) ++ [.inl (G.2.2 1, (7, .inl (fun _ => 0)))]) ++ [.inl (G.2.2 1, (7, .inl (fun _ => 0)))]) ++ [.inl (G.2.2 1, (6, .inl (fun _ => 0)))]) ++ [.inl (G.2.2 1, (6, .inl (fun _ => 0)))]) ++ [.inl (G.2.2 1, (6, .inl (fun _ => 0)))]) ++ [.inl (G.2.2 1, (42, .inl (fun _ => 0)))]) ++ [.inl (G.2.2 1, (14, .inl (fun _ => 0)))]) ++ [.inl (G.2.2 1, (21, .inl (fun _ => 0)))]) ++ [.inl (G.2.2 2, (252, .inr (.inl (fun _ => 0))))]) ++ [.inl (G.2.2 2, (252, .inr (.inl (fun _ => 0))))]) ++ [.inl (G.2.2 1, (12, .inl (fun _ => 0)))]) ++ [.inl (G.2.2 1, (924, .inl (fun _ => 0)))]) ++ [.inl (G.2.2 2, (11088, .inr (.inl (fun _ => 0))))]) ++ [.inl (G.2.2 3, (4096, .inl (fun _ => 0)))]) ++ [.inl (G.2.2 1, (13, .inl (fun _ => 0)))]) ++ [.inl (G.2.2 2, (21, .inr (.inl (fun _ => 0))))]) ++ [.inl (G.2.2 2, (12, .inr (.inl (fun _ => 0))))]) ++ [.inl (G.2.2 2, (3, .inr (.inl (fun _ => 0))))]) ++ [.inl (G.2.2 2, (180, .inr (.inl (fun _ => 0))))]) ++ [.inl (G.2.2 2, (180, .inr (.inl (fun _ => 0))))]) ++ [.inl (G.2.2 1, (15, .inl (fun _ => 0)))]) ++ [.inl (G.2.2 2, (3, .inr (.inl (fun _ => 0))))]) ++ [.inl (G.2.2 1, (12, .inl (fun _ => 0)))]) ++ [.inl (G.2.2 2, (180, .inr (.inl (fun _ => 0))))]) ++ [.inl (G.2.2 2, (15, .inr (.inl (fun _ => 0))))]) ++ [.inl (G.2.2 2, (2, .inr (.inl (fun _ => 0))))]) ++ [.inl (G.2.2 2, (2, .inr (.inl (fun _ => 0))))]) ++ [.inl (G.2.2 3, (3, .inl (fun _ => 0)))]) ++ [.inl (G.2.2 1, (3, .inl (fun _ => 0)))]) ++ [.inl (G.2.2 2, (6, .inr (.inl (fun _ => 0))))]) ++ [.inl (G.2.2 2, (6, .inr (.inl (fun _ => 0))))]) ++ [.inl (G.2.2 2, (12, .inr (.inl (fun _ => 0))))]) ++ [.inl (G.2.2 2, (12, .inr (.inl (fun _ => 0))))]) ++ [.inl (G.2.2 2, (12, .inr (.inl (fun _ => 0))))]) ++ [.inl (G.2.2 2, (12, .inr (.inl (fun _ => 0))))]) ++ [.inl (G.2.2 1, (166, .inl (fun _ => 0)))]) ++ [.inl (G.2.2 3, (2, .inl (fun _ => 0)))])
theorem es_X6_len (G : ZG) (sz : Nat) : (es_X6 G sz).length = 38 := by
  unfold es_X6
  simp only [List.length_append, List.length_cons, List.length_nil, List.length_replicate] <;> omega
set_option maxHeartbeats 4000000 in
set_option maxRecDepth 100000 in
theorem c_X6_init (l : Launch) (G : ZG) : zCt l G yX6_init cX6_init 1 rm_X6_init 6 blk6 (fin_X6 G) (es_X6 G) 38 17612 := by
  refine zc_met (by decide +kernel) rfl rfl (fun sz h0 Y h hq => ?_)
  have h : zcOk (l, rm_X6_init, 1, 0, 0) Y G cX6_init RX6 h0 sz := h
  have hq : zcRet (l, rm_X6_init, 1, 0, 0) Y G h0 sz (.inr (6, [.int 0, .ref sz, .ref (sz + 1), .ref (sz + 2), .int 0, .ref (sz + 3), .ref (sz + 4), .ref (sz + 5), .ref (sz + 6), .int (1 : Int32), .int 0, .int 0, .ref (sz + 7), .ref (sz + 8), .ref (sz + 9), .ref (sz + 10), .ref (sz + 11), .int 0, .ref (sz + 12), .ref (sz + 13), .ref (sz + 14), .ref (sz + 15), .ref (sz + 16), .ref (sz + 17), .ref (sz + 18), .long 0, .ref (sz + 19), .ref (sz + 20), .ref (sz + 21), .long 0, .int (-1 : Int32), .int 0, .ref (sz + 22), .long 0, .int 0, .ref (sz + 23), .int 0, .ref (sz + 24), .ref (sz + 25), .int 0, .int 0, .ref (sz + 26), .ref (sz + 27), .ref (sz + 28), .ref (sz + 29), .ref (sz + 30), .ref (sz + 31), .ref (sz + 32), .ref (sz + 33), .ref (sz + 34), .ref (sz + 35), .ref (sz + 36), .ref (sz + 37)])) ((((((((((((((((((((((((((((((((((((((([] : List va_E) ++ [.inl (G.2.2 1, (7, .inl (fun _ => 0)))]) ++ [.inl (G.2.2 1, (7, .inl (fun _ => 0)))]) ++ [.inl (G.2.2 1, (7, .inl (fun _ => 0)))]) ++ [.inl (G.2.2 1, (6, .inl (fun _ => 0)))]) ++ [.inl (G.2.2 1, (6, .inl (fun _ => 0)))]) ++ [.inl (G.2.2 1, (6, .inl (fun _ => 0)))]) ++ [.inl (G.2.2 1, (42, .inl (fun _ => 0)))]) ++ [.inl (G.2.2 1, (14, .inl (fun _ => 0)))]) ++ [.inl (G.2.2 1, (21, .inl (fun _ => 0)))]) ++ [.inl (G.2.2 2, (252, .inr (.inl (fun _ => 0))))]) ++ [.inl (G.2.2 2, (252, .inr (.inl (fun _ => 0))))]) ++ [.inl (G.2.2 1, (12, .inl (fun _ => 0)))]) ++ [.inl (G.2.2 1, (924, .inl (fun _ => 0)))]) ++ [.inl (G.2.2 2, (11088, .inr (.inl (fun _ => 0))))]) ++ [.inl (G.2.2 3, (4096, .inl (fun _ => 0)))]) ++ [.inl (G.2.2 1, (13, .inl (fun _ => 0)))]) ++ [.inl (G.2.2 2, (21, .inr (.inl (fun _ => 0))))]) ++ [.inl (G.2.2 2, (12, .inr (.inl (fun _ => 0))))]) ++ [.inl (G.2.2 2, (3, .inr (.inl (fun _ => 0))))]) ++ [.inl (G.2.2 2, (180, .inr (.inl (fun _ => 0))))]) ++ [.inl (G.2.2 2, (180, .inr (.inl (fun _ => 0))))]) ++ [.inl (G.2.2 1, (15, .inl (fun _ => 0)))]) ++ [.inl (G.2.2 2, (3, .inr (.inl (fun _ => 0))))]) ++ [.inl (G.2.2 1, (12, .inl (fun _ => 0)))]) ++ [.inl (G.2.2 2, (180, .inr (.inl (fun _ => 0))))]) ++ [.inl (G.2.2 2, (15, .inr (.inl (fun _ => 0))))]) ++ [.inl (G.2.2 2, (2, .inr (.inl (fun _ => 0))))]) ++ [.inl (G.2.2 2, (2, .inr (.inl (fun _ => 0))))]) ++ [.inl (G.2.2 3, (3, .inl (fun _ => 0)))]) ++ [.inl (G.2.2 1, (3, .inl (fun _ => 0)))]) ++ [.inl (G.2.2 2, (6, .inr (.inl (fun _ => 0))))]) ++ [.inl (G.2.2 2, (6, .inr (.inl (fun _ => 0))))]) ++ [.inl (G.2.2 2, (12, .inr (.inl (fun _ => 0))))]) ++ [.inl (G.2.2 2, (12, .inr (.inl (fun _ => 0))))]) ++ [.inl (G.2.2 2, (12, .inr (.inl (fun _ => 0))))]) ++ [.inl (G.2.2 2, (12, .inr (.inl (fun _ => 0))))]) ++ [.inl (G.2.2 1, (166, .inl (fun _ => 0)))]) ++ [.inl (G.2.2 3, (2, .inl (fun _ => 0)))]) 38 17612 := hq
  refine cz_aload h dX6_init_0 rfl 0 rfl ?_
  refine cz_obj h wd_87 wd_10 wd_11 rfl rfl dX6_init_1 ?_
  refine cz_aload h dX6_init_4 rfl 0 rfl ?_
  refine cz_bipush h (v := (7 : Int32)) dX6_init_5 (by decide) ?_
  refine cz_newa h (ty := .int) (t := 0) (N := 7) (a0 := (7, .inl (fun _ => 0))) rfl wd_31 rfl (fun _ => rfl) (by decide) (by decide) (fun _ w => w) (Nat.ble_eq.mpr (Nat.le_of_ble_eq_true rfl)) (by simp only [List.length_append, List.length_cons, List.length_nil, List.length_replicate] <;> omega) rfl rfl dX6_init_7 ?_
  refine cz_putF h zC6 (fs' := [.int 0, .ref sz, .null, .null, .int 0, .null, .null, .null, .null, .int 0, .int 0, .int 0, .null, .null, .null, .null, .null, .int 0, .null, .null, .null, .null, .null, .null, .null, .long 0, .null, .null, .null, .long 0, .int 0, .int 0, .null, .long 0, .int 0, .null, .int 0, .null, .null, .int 0, .int 0, .null, .null, .null, .null, .null, .null, .null, .null, .null, .null, .null, .null]) 1 rfl wd_88 rfl (ty := tyX6 1) (by decide +kernel) rfl rfl rfl rfl dX6_init_9 ?_
  refine cz_aload h dX6_init_12 rfl 0 rfl ?_
  refine cz_bipush h (v := (7 : Int32)) dX6_init_13 (by decide) ?_
  refine cz_newa h (ty := .int) (t := 0) (N := 7) (a0 := (7, .inl (fun _ => 0))) rfl wd_31 rfl (fun _ => rfl) (by decide) (by decide) (fun _ w => w) (Nat.ble_eq.mpr (Nat.le_of_ble_eq_true rfl)) (by simp only [List.length_append, List.length_cons, List.length_nil, List.length_replicate] <;> omega) rfl rfl dX6_init_15 ?_
  refine cz_putF h zC6 (fs' := [.int 0, .ref sz, .ref (sz + 1), .null, .int 0, .null, .null, .null, .null, .int 0, .int 0, .int 0, .null, .null, .null, .null, .null, .int 0, .null, .null, .null, .null, .null, .null, .null, .long 0, .null, .null, .null, .long 0, .int 0, .int 0, .null, .long 0, .int 0, .null, .int 0, .null, .null, .int 0, .int 0, .null, .null, .null, .null, .null, .null, .null, .null, .null, .null, .null, .null]) 2 rfl wd_89 rfl (ty := tyX6 2) (by decide +kernel) rfl rfl rfl rfl dX6_init_17 ?_
  refine cz_aload h dX6_init_20 rfl 0 rfl ?_
  refine cz_bipush h (v := (7 : Int32)) dX6_init_21 (by decide) ?_
  refine cz_newa h (ty := .int) (t := 0) (N := 7) (a0 := (7, .inl (fun _ => 0))) rfl wd_31 rfl (fun _ => rfl) (by decide) (by decide) (fun _ w => w) (Nat.ble_eq.mpr (Nat.le_of_ble_eq_true rfl)) (by simp only [List.length_append, List.length_cons, List.length_nil, List.length_replicate] <;> omega) rfl rfl dX6_init_23 ?_
  refine cz_putF h zC6 (fs' := [.int 0, .ref sz, .ref (sz + 1), .ref (sz + 2), .int 0, .null, .null, .null, .null, .int 0, .int 0, .int 0, .null, .null, .null, .null, .null, .int 0, .null, .null, .null, .null, .null, .null, .null, .long 0, .null, .null, .null, .long 0, .int 0, .int 0, .null, .long 0, .int 0, .null, .int 0, .null, .null, .int 0, .int 0, .null, .null, .null, .null, .null, .null, .null, .null, .null, .null, .null, .null]) 3 rfl wd_90 rfl (ty := tyX6 3) (by decide +kernel) rfl rfl rfl rfl dX6_init_25 ?_
  refine cz_aload h dX6_init_28 rfl 0 rfl ?_
  refine cz_bipush h (v := (6 : Int32)) dX6_init_29 (by decide) ?_
  refine cz_newa h (ty := .int) (t := 0) (N := 6) (a0 := (6, .inl (fun _ => 0))) rfl wd_31 rfl (fun _ => rfl) (by decide) (by decide) (fun _ w => w) (Nat.ble_eq.mpr (Nat.le_of_ble_eq_true rfl)) (by simp only [List.length_append, List.length_cons, List.length_nil, List.length_replicate] <;> omega) rfl rfl dX6_init_31 ?_
  refine cz_putF h zC6 (fs' := [.int 0, .ref sz, .ref (sz + 1), .ref (sz + 2), .int 0, .ref (sz + 3), .null, .null, .null, .int 0, .int 0, .int 0, .null, .null, .null, .null, .null, .int 0, .null, .null, .null, .null, .null, .null, .null, .long 0, .null, .null, .null, .long 0, .int 0, .int 0, .null, .long 0, .int 0, .null, .int 0, .null, .null, .int 0, .int 0, .null, .null, .null, .null, .null, .null, .null, .null, .null, .null, .null, .null]) 5 rfl wd_91 rfl (ty := tyX6 5) (by decide +kernel) rfl rfl rfl rfl dX6_init_33 ?_
  refine cz_aload h dX6_init_36 rfl 0 rfl ?_
  refine cz_bipush h (v := (6 : Int32)) dX6_init_37 (by decide) ?_
  refine cz_newa h (ty := .int) (t := 0) (N := 6) (a0 := (6, .inl (fun _ => 0))) rfl wd_31 rfl (fun _ => rfl) (by decide) (by decide) (fun _ w => w) (Nat.ble_eq.mpr (Nat.le_of_ble_eq_true rfl)) (by simp only [List.length_append, List.length_cons, List.length_nil, List.length_replicate] <;> omega) rfl rfl dX6_init_39 ?_
  refine cz_putF h zC6 (fs' := [.int 0, .ref sz, .ref (sz + 1), .ref (sz + 2), .int 0, .ref (sz + 3), .ref (sz + 4), .null, .null, .int 0, .int 0, .int 0, .null, .null, .null, .null, .null, .int 0, .null, .null, .null, .null, .null, .null, .null, .long 0, .null, .null, .null, .long 0, .int 0, .int 0, .null, .long 0, .int 0, .null, .int 0, .null, .null, .int 0, .int 0, .null, .null, .null, .null, .null, .null, .null, .null, .null, .null, .null, .null]) 6 rfl wd_92 rfl (ty := tyX6 6) (by decide +kernel) rfl rfl rfl rfl dX6_init_41 ?_
  refine cz_aload h dX6_init_44 rfl 0 rfl ?_
  refine cz_bipush h (v := (6 : Int32)) dX6_init_45 (by decide) ?_
  refine cz_newa h (ty := .int) (t := 0) (N := 6) (a0 := (6, .inl (fun _ => 0))) rfl wd_31 rfl (fun _ => rfl) (by decide) (by decide) (fun _ w => w) (Nat.ble_eq.mpr (Nat.le_of_ble_eq_true rfl)) (by simp only [List.length_append, List.length_cons, List.length_nil, List.length_replicate] <;> omega) rfl rfl dX6_init_47 ?_
  refine cz_putF h zC6 (fs' := [.int 0, .ref sz, .ref (sz + 1), .ref (sz + 2), .int 0, .ref (sz + 3), .ref (sz + 4), .ref (sz + 5), .null, .int 0, .int 0, .int 0, .null, .null, .null, .null, .null, .int 0, .null, .null, .null, .null, .null, .null, .null, .long 0, .null, .null, .null, .long 0, .int 0, .int 0, .null, .long 0, .int 0, .null, .int 0, .null, .null, .int 0, .int 0, .null, .null, .null, .null, .null, .null, .null, .null, .null, .null, .null, .null]) 7 rfl wd_93 rfl (ty := tyX6 7) (by decide +kernel) rfl rfl rfl rfl dX6_init_49 ?_
  refine cz_aload h dX6_init_52 rfl 0 rfl ?_
  refine cz_bipush h (v := (42 : Int32)) dX6_init_53 (by decide) ?_
  refine cz_newa h (ty := .int) (t := 0) (N := 42) (a0 := (42, .inl (fun _ => 0))) rfl wd_31 rfl (fun _ => rfl) (by decide) (by decide) (fun _ w => w) (Nat.ble_eq.mpr (Nat.le_of_ble_eq_true rfl)) (by simp only [List.length_append, List.length_cons, List.length_nil, List.length_replicate] <;> omega) rfl rfl dX6_init_55 ?_
  refine cz_putF h zC6 (fs' := [.int 0, .ref sz, .ref (sz + 1), .ref (sz + 2), .int 0, .ref (sz + 3), .ref (sz + 4), .ref (sz + 5), .ref (sz + 6), .int 0, .int 0, .int 0, .null, .null, .null, .null, .null, .int 0, .null, .null, .null, .null, .null, .null, .null, .long 0, .null, .null, .null, .long 0, .int 0, .int 0, .null, .long 0, .int 0, .null, .int 0, .null, .null, .int 0, .int 0, .null, .null, .null, .null, .null, .null, .null, .null, .null, .null, .null, .null]) 8 rfl wd_94 rfl (ty := tyX6 8) (by decide +kernel) rfl rfl rfl rfl dX6_init_57 ?_
  refine cz_aload h dX6_init_60 rfl 0 rfl ?_
  refine cz_iconst h (v := (1 : Int32)) dX6_init_61 (by decide) ?_
  refine cz_put h zC6 (fs' := [.int 0, .ref sz, .ref (sz + 1), .ref (sz + 2), .int 0, .ref (sz + 3), .ref (sz + 4), .ref (sz + 5), .ref (sz + 6), .int (1 : Int32), .int 0, .int 0, .null, .null, .null, .null, .null, .int 0, .null, .null, .null, .null, .null, .null, .null, .long 0, .null, .null, .null, .long 0, .int 0, .int 0, .null, .long 0, .int 0, .null, .int 0, .null, .null, .int 0, .int 0, .null, .null, .null, .null, .null, .null, .null, .null, .null, .null, .null, .null]) 9 rfl wd_95 rfl (ty := tyX6 9) (by decide +kernel) rfl rfl rfl rfl dX6_init_62 ?_
  refine cz_aload h dX6_init_65 rfl 0 rfl ?_
  refine cz_bipush h (v := (14 : Int32)) dX6_init_66 (by decide) ?_
  refine cz_newa h (ty := .int) (t := 0) (N := 14) (a0 := (14, .inl (fun _ => 0))) rfl wd_31 rfl (fun _ => rfl) (by decide) (by decide) (fun _ w => w) (Nat.ble_eq.mpr (Nat.le_of_ble_eq_true rfl)) (by simp only [List.length_append, List.length_cons, List.length_nil, List.length_replicate] <;> omega) rfl rfl dX6_init_68 ?_
  refine cz_putF h zC6 (fs' := [.int 0, .ref sz, .ref (sz + 1), .ref (sz + 2), .int 0, .ref (sz + 3), .ref (sz + 4), .ref (sz + 5), .ref (sz + 6), .int (1 : Int32), .int 0, .int 0, .ref (sz + 7), .null, .null, .null, .null, .int 0, .null, .null, .null, .null, .null, .null, .null, .long 0, .null, .null, .null, .long 0, .int 0, .int 0, .null, .long 0, .int 0, .null, .int 0, .null, .null, .int 0, .int 0, .null, .null, .null, .null, .null, .null, .null, .null, .null, .null, .null, .null]) 12 rfl wd_96 rfl (ty := tyX6 12) (by decide +kernel) rfl rfl rfl rfl dX6_init_70 ?_
  refine cz_aload h dX6_init_73 rfl 0 rfl ?_
  refine cz_bipush h (v := (21 : Int32)) dX6_init_74 (by decide) ?_
  refine cz_newa h (ty := .int) (t := 0) (N := 21) (a0 := (21, .inl (fun _ => 0))) rfl wd_31 rfl (fun _ => rfl) (by decide) (by decide) (fun _ w => w) (Nat.ble_eq.mpr (Nat.le_of_ble_eq_true rfl)) (by simp only [List.length_append, List.length_cons, List.length_nil, List.length_replicate] <;> omega) rfl rfl dX6_init_76 ?_
  refine cz_putF h zC6 (fs' := [.int 0, .ref sz, .ref (sz + 1), .ref (sz + 2), .int 0, .ref (sz + 3), .ref (sz + 4), .ref (sz + 5), .ref (sz + 6), .int (1 : Int32), .int 0, .int 0, .ref (sz + 7), .ref (sz + 8), .null, .null, .null, .int 0, .null, .null, .null, .null, .null, .null, .null, .long 0, .null, .null, .null, .long 0, .int 0, .int 0, .null, .long 0, .int 0, .null, .int 0, .null, .null, .int 0, .int 0, .null, .null, .null, .null, .null, .null, .null, .null, .null, .null, .null, .null]) 13 rfl wd_97 rfl (ty := tyX6 13) (by decide +kernel) rfl rfl rfl rfl dX6_init_78 ?_
  refine cz_aload h dX6_init_81 rfl 0 rfl ?_
  refine cz_sipush h (v := (252 : Int32)) dX6_init_82 (by decide) ?_
  refine cz_newa h (ty := .long) (t := 1) (N := 252) (a0 := (252, .inr (.inl (fun _ => 0)))) rfl wd_50 rfl (fun _ => rfl) (by decide) (by decide) (fun _ w => w) (Nat.ble_eq.mpr (Nat.le_of_ble_eq_true rfl)) (by simp only [List.length_append, List.length_cons, List.length_nil, List.length_replicate] <;> omega) rfl rfl dX6_init_85 ?_
  refine cz_putF h zC6 (fs' := [.int 0, .ref sz, .ref (sz + 1), .ref (sz + 2), .int 0, .ref (sz + 3), .ref (sz + 4), .ref (sz + 5), .ref (sz + 6), .int (1 : Int32), .int 0, .int 0, .ref (sz + 7), .ref (sz + 8), .ref (sz + 9), .null, .null, .int 0, .null, .null, .null, .null, .null, .null, .null, .long 0, .null, .null, .null, .long 0, .int 0, .int 0, .null, .long 0, .int 0, .null, .int 0, .null, .null, .int 0, .int 0, .null, .null, .null, .null, .null, .null, .null, .null, .null, .null, .null, .null]) 14 rfl wd_98 rfl (ty := tyX6 14) (by decide +kernel) rfl rfl rfl rfl dX6_init_87 ?_
  refine cz_aload h dX6_init_90 rfl 0 rfl ?_
  refine cz_sipush h (v := (252 : Int32)) dX6_init_91 (by decide) ?_
  refine cz_newa h (ty := .long) (t := 1) (N := 252) (a0 := (252, .inr (.inl (fun _ => 0)))) rfl wd_50 rfl (fun _ => rfl) (by decide) (by decide) (fun _ w => w) (Nat.ble_eq.mpr (Nat.le_of_ble_eq_true rfl)) (by simp only [List.length_append, List.length_cons, List.length_nil, List.length_replicate] <;> omega) rfl rfl dX6_init_94 ?_
  refine cz_putF h zC6 (fs' := [.int 0, .ref sz, .ref (sz + 1), .ref (sz + 2), .int 0, .ref (sz + 3), .ref (sz + 4), .ref (sz + 5), .ref (sz + 6), .int (1 : Int32), .int 0, .int 0, .ref (sz + 7), .ref (sz + 8), .ref (sz + 9), .ref (sz + 10), .null, .int 0, .null, .null, .null, .null, .null, .null, .null, .long 0, .null, .null, .null, .long 0, .int 0, .int 0, .null, .long 0, .int 0, .null, .int 0, .null, .null, .int 0, .int 0, .null, .null, .null, .null, .null, .null, .null, .null, .null, .null, .null, .null]) 15 rfl wd_99 rfl (ty := tyX6 15) (by decide +kernel) rfl rfl rfl rfl dX6_init_96 ?_
  refine cz_aload h dX6_init_99 rfl 0 rfl ?_
  refine cz_bipush h (v := (12 : Int32)) dX6_init_100 (by decide) ?_
  refine cz_newa h (ty := .int) (t := 0) (N := 12) (a0 := (12, .inl (fun _ => 0))) rfl wd_31 rfl (fun _ => rfl) (by decide) (by decide) (fun _ w => w) (Nat.ble_eq.mpr (Nat.le_of_ble_eq_true rfl)) (by simp only [List.length_append, List.length_cons, List.length_nil, List.length_replicate] <;> omega) rfl rfl dX6_init_102 ?_
  refine cz_putF h zC6 (fs' := [.int 0, .ref sz, .ref (sz + 1), .ref (sz + 2), .int 0, .ref (sz + 3), .ref (sz + 4), .ref (sz + 5), .ref (sz + 6), .int (1 : Int32), .int 0, .int 0, .ref (sz + 7), .ref (sz + 8), .ref (sz + 9), .ref (sz + 10), .ref (sz + 11), .int 0, .null, .null, .null, .null, .null, .null, .null, .long 0, .null, .null, .null, .long 0, .int 0, .int 0, .null, .long 0, .int 0, .null, .int 0, .null, .null, .int 0, .int 0, .null, .null, .null, .null, .null, .null, .null, .null, .null, .null, .null, .null]) 16 rfl wd_100 rfl (ty := tyX6 16) (by decide +kernel) rfl rfl rfl rfl dX6_init_104 ?_
  refine cz_aload h dX6_init_107 rfl 0 rfl ?_
  refine cz_sipush h (v := (924 : Int32)) dX6_init_108 (by decide) ?_
  refine cz_newa h (ty := .int) (t := 0) (N := 924) (a0 := (924, .inl (fun _ => 0))) rfl wd_31 rfl (fun _ => rfl) (by decide) (by decide) (fun _ w => w) (Nat.ble_eq.mpr (Nat.le_of_ble_eq_true rfl)) (by simp only [List.length_append, List.length_cons, List.length_nil, List.length_replicate] <;> omega) rfl rfl dX6_init_111 ?_
  refine cz_putF h zC6 (fs' := [.int 0, .ref sz, .ref (sz + 1), .ref (sz + 2), .int 0, .ref (sz + 3), .ref (sz + 4), .ref (sz + 5), .ref (sz + 6), .int (1 : Int32), .int 0, .int 0, .ref (sz + 7), .ref (sz + 8), .ref (sz + 9), .ref (sz + 10), .ref (sz + 11), .int 0, .ref (sz + 12), .null, .null, .null, .null, .null, .null, .long 0, .null, .null, .null, .long 0, .int 0, .int 0, .null, .long 0, .int 0, .null, .int 0, .null, .null, .int 0, .int 0, .null, .null, .null, .null, .null, .null, .null, .null, .null, .null, .null, .null]) 18 rfl wd_101 rfl (ty := tyX6 18) (by decide +kernel) rfl rfl rfl rfl dX6_init_113 ?_
  refine cz_aload h dX6_init_116 rfl 0 rfl ?_
  refine cz_sipush h (v := (11088 : Int32)) dX6_init_117 (by decide) ?_
  refine cz_newa h (ty := .long) (t := 1) (N := 11088) (a0 := (11088, .inr (.inl (fun _ => 0)))) rfl wd_50 rfl (fun _ => rfl) (by decide) (by decide) (fun _ w => w) (Nat.ble_eq.mpr (Nat.le_of_ble_eq_true rfl)) (by simp only [List.length_append, List.length_cons, List.length_nil, List.length_replicate] <;> omega) rfl rfl dX6_init_120 ?_
  refine cz_putF h zC6 (fs' := [.int 0, .ref sz, .ref (sz + 1), .ref (sz + 2), .int 0, .ref (sz + 3), .ref (sz + 4), .ref (sz + 5), .ref (sz + 6), .int (1 : Int32), .int 0, .int 0, .ref (sz + 7), .ref (sz + 8), .ref (sz + 9), .ref (sz + 10), .ref (sz + 11), .int 0, .ref (sz + 12), .ref (sz + 13), .null, .null, .null, .null, .null, .long 0, .null, .null, .null, .long 0, .int 0, .int 0, .null, .long 0, .int 0, .null, .int 0, .null, .null, .int 0, .int 0, .null, .null, .null, .null, .null, .null, .null, .null, .null, .null, .null, .null]) 19 rfl wd_102 rfl (ty := tyX6 19) (by decide +kernel) rfl rfl rfl rfl dX6_init_122 ?_
  refine cz_aload h dX6_init_125 rfl 0 rfl ?_
  refine cz_sipush h (v := (4096 : Int32)) dX6_init_126 (by decide) ?_
  refine cz_newa h (ty := .boolean) (t := 2) (N := 4096) (a0 := (4096, .inl (fun _ => 0))) rfl wd_103 rfl (fun _ => rfl) (by decide) (by decide) (fun _ w => w) (Nat.ble_eq.mpr (Nat.le_of_ble_eq_true rfl)) (by simp only [List.length_append, List.length_cons, List.length_nil, List.length_replicate] <;> omega) rfl rfl dX6_init_129 ?_
  refine cz_putF h zC6 (fs' := [.int 0, .ref sz, .ref (sz + 1), .ref (sz + 2), .int 0, .ref (sz + 3), .ref (sz + 4), .ref (sz + 5), .ref (sz + 6), .int (1 : Int32), .int 0, .int 0, .ref (sz + 7), .ref (sz + 8), .ref (sz + 9), .ref (sz + 10), .ref (sz + 11), .int 0, .ref (sz + 12), .ref (sz + 13), .ref (sz + 14), .null, .null, .null, .null, .long 0, .null, .null, .null, .long 0, .int 0, .int 0, .null, .long 0, .int 0, .null, .int 0, .null, .null, .int 0, .int 0, .null, .null, .null, .null, .null, .null, .null, .null, .null, .null, .null, .null]) 20 rfl wd_104 rfl (ty := tyX6 20) (by decide +kernel) rfl rfl rfl rfl dX6_init_131 ?_
  refine cz_aload h dX6_init_134 rfl 0 rfl ?_
  refine cz_bipush h (v := (13 : Int32)) dX6_init_135 (by decide) ?_
  refine cz_newa h (ty := .int) (t := 0) (N := 13) (a0 := (13, .inl (fun _ => 0))) rfl wd_31 rfl (fun _ => rfl) (by decide) (by decide) (fun _ w => w) (Nat.ble_eq.mpr (Nat.le_of_ble_eq_true rfl)) (by simp only [List.length_append, List.length_cons, List.length_nil, List.length_replicate] <;> omega) rfl rfl dX6_init_137 ?_
  refine cz_putF h zC6 (fs' := [.int 0, .ref sz, .ref (sz + 1), .ref (sz + 2), .int 0, .ref (sz + 3), .ref (sz + 4), .ref (sz + 5), .ref (sz + 6), .int (1 : Int32), .int 0, .int 0, .ref (sz + 7), .ref (sz + 8), .ref (sz + 9), .ref (sz + 10), .ref (sz + 11), .int 0, .ref (sz + 12), .ref (sz + 13), .ref (sz + 14), .ref (sz + 15), .null, .null, .null, .long 0, .null, .null, .null, .long 0, .int 0, .int 0, .null, .long 0, .int 0, .null, .int 0, .null, .null, .int 0, .int 0, .null, .null, .null, .null, .null, .null, .null, .null, .null, .null, .null, .null]) 21 rfl wd_105 rfl (ty := tyX6 21) (by decide +kernel) rfl rfl rfl rfl dX6_init_139 ?_
  refine cz_aload h dX6_init_142 rfl 0 rfl ?_
  refine cz_bipush h (v := (21 : Int32)) dX6_init_143 (by decide) ?_
  refine cz_newa h (ty := .long) (t := 1) (N := 21) (a0 := (21, .inr (.inl (fun _ => 0)))) rfl wd_50 rfl (fun _ => rfl) (by decide) (by decide) (fun _ w => w) (Nat.ble_eq.mpr (Nat.le_of_ble_eq_true rfl)) (by simp only [List.length_append, List.length_cons, List.length_nil, List.length_replicate] <;> omega) rfl rfl dX6_init_145 ?_
  refine cz_putF h zC6 (fs' := [.int 0, .ref sz, .ref (sz + 1), .ref (sz + 2), .int 0, .ref (sz + 3), .ref (sz + 4), .ref (sz + 5), .ref (sz + 6), .int (1 : Int32), .int 0, .int 0, .ref (sz + 7), .ref (sz + 8), .ref (sz + 9), .ref (sz + 10), .ref (sz + 11), .int 0, .ref (sz + 12), .ref (sz + 13), .ref (sz + 14), .ref (sz + 15), .ref (sz + 16), .null, .null, .long 0, .null, .null, .null, .long 0, .int 0, .int 0, .null, .long 0, .int 0, .null, .int 0, .null, .null, .int 0, .int 0, .null, .null, .null, .null, .null, .null, .null, .null, .null, .null, .null, .null]) 22 rfl wd_106 rfl (ty := tyX6 22) (by decide +kernel) rfl rfl rfl rfl dX6_init_147 ?_
  refine cz_aload h dX6_init_150 rfl 0 rfl ?_
  refine cz_bipush h (v := (12 : Int32)) dX6_init_151 (by decide) ?_
  refine cz_newa h (ty := .long) (t := 1) (N := 12) (a0 := (12, .inr (.inl (fun _ => 0)))) rfl wd_50 rfl (fun _ => rfl) (by decide) (by decide) (fun _ w => w) (Nat.ble_eq.mpr (Nat.le_of_ble_eq_true rfl)) (by simp only [List.length_append, List.length_cons, List.length_nil, List.length_replicate] <;> omega) rfl rfl dX6_init_153 ?_
  refine cz_putF h zC6 (fs' := [.int 0, .ref sz, .ref (sz + 1), .ref (sz + 2), .int 0, .ref (sz + 3), .ref (sz + 4), .ref (sz + 5), .ref (sz + 6), .int (1 : Int32), .int 0, .int 0, .ref (sz + 7), .ref (sz + 8), .ref (sz + 9), .ref (sz + 10), .ref (sz + 11), .int 0, .ref (sz + 12), .ref (sz + 13), .ref (sz + 14), .ref (sz + 15), .ref (sz + 16), .ref (sz + 17), .null, .long 0, .null, .null, .null, .long 0, .int 0, .int 0, .null, .long 0, .int 0, .null, .int 0, .null, .null, .int 0, .int 0, .null, .null, .null, .null, .null, .null, .null, .null, .null, .null, .null, .null]) 23 rfl wd_107 rfl (ty := tyX6 23) (by decide +kernel) rfl rfl rfl rfl dX6_init_155 ?_
  refine cz_aload h dX6_init_158 rfl 0 rfl ?_
  refine cz_iconst h (v := (3 : Int32)) dX6_init_159 (by decide) ?_
  refine cz_newa h (ty := .long) (t := 1) (N := 3) (a0 := (3, .inr (.inl (fun _ => 0)))) rfl wd_50 rfl (fun _ => rfl) (by decide) (by decide) (fun _ w => w) (Nat.ble_eq.mpr (Nat.le_of_ble_eq_true rfl)) (by simp only [List.length_append, List.length_cons, List.length_nil, List.length_replicate] <;> omega) rfl rfl dX6_init_160 ?_
  refine cz_putF h zC6 (fs' := [.int 0, .ref sz, .ref (sz + 1), .ref (sz + 2), .int 0, .ref (sz + 3), .ref (sz + 4), .ref (sz + 5), .ref (sz + 6), .int (1 : Int32), .int 0, .int 0, .ref (sz + 7), .ref (sz + 8), .ref (sz + 9), .ref (sz + 10), .ref (sz + 11), .int 0, .ref (sz + 12), .ref (sz + 13), .ref (sz + 14), .ref (sz + 15), .ref (sz + 16), .ref (sz + 17), .ref (sz + 18), .long 0, .null, .null, .null, .long 0, .int 0, .int 0, .null, .long 0, .int 0, .null, .int 0, .null, .null, .int 0, .int 0, .null, .null, .null, .null, .null, .null, .null, .null, .null, .null, .null, .null]) 24 rfl wd_108 rfl (ty := tyX6 24) (by decide +kernel) rfl rfl rfl rfl dX6_init_162 ?_
  refine cz_aload h dX6_init_165 rfl 0 rfl ?_
  refine cz_sipush h (v := (180 : Int32)) dX6_init_166 (by decide) ?_
  refine cz_newa h (ty := .long) (t := 1) (N := 180) (a0 := (180, .inr (.inl (fun _ => 0)))) rfl wd_50 rfl (fun _ => rfl) (by decide) (by decide) (fun _ w => w) (Nat.ble_eq.mpr (Nat.le_of_ble_eq_true rfl)) (by simp only [List.length_append, List.length_cons, List.length_nil, List.length_replicate] <;> omega) rfl rfl dX6_init_169 ?_
  refine cz_putF h zC6 (fs' := [.int 0, .ref sz, .ref (sz + 1), .ref (sz + 2), .int 0, .ref (sz + 3), .ref (sz + 4), .ref (sz + 5), .ref (sz + 6), .int (1 : Int32), .int 0, .int 0, .ref (sz + 7), .ref (sz + 8), .ref (sz + 9), .ref (sz + 10), .ref (sz + 11), .int 0, .ref (sz + 12), .ref (sz + 13), .ref (sz + 14), .ref (sz + 15), .ref (sz + 16), .ref (sz + 17), .ref (sz + 18), .long 0, .ref (sz + 19), .null, .null, .long 0, .int 0, .int 0, .null, .long 0, .int 0, .null, .int 0, .null, .null, .int 0, .int 0, .null, .null, .null, .null, .null, .null, .null, .null, .null, .null, .null, .null]) 26 rfl wd_109 rfl (ty := tyX6 26) (by decide +kernel) rfl rfl rfl rfl dX6_init_171 ?_
  refine cz_aload h dX6_init_174 rfl 0 rfl ?_
  refine cz_sipush h (v := (180 : Int32)) dX6_init_175 (by decide) ?_
  refine cz_newa h (ty := .long) (t := 1) (N := 180) (a0 := (180, .inr (.inl (fun _ => 0)))) rfl wd_50 rfl (fun _ => rfl) (by decide) (by decide) (fun _ w => w) (Nat.ble_eq.mpr (Nat.le_of_ble_eq_true rfl)) (by simp only [List.length_append, List.length_cons, List.length_nil, List.length_replicate] <;> omega) rfl rfl dX6_init_178 ?_
  refine cz_putF h zC6 (fs' := [.int 0, .ref sz, .ref (sz + 1), .ref (sz + 2), .int 0, .ref (sz + 3), .ref (sz + 4), .ref (sz + 5), .ref (sz + 6), .int (1 : Int32), .int 0, .int 0, .ref (sz + 7), .ref (sz + 8), .ref (sz + 9), .ref (sz + 10), .ref (sz + 11), .int 0, .ref (sz + 12), .ref (sz + 13), .ref (sz + 14), .ref (sz + 15), .ref (sz + 16), .ref (sz + 17), .ref (sz + 18), .long 0, .ref (sz + 19), .ref (sz + 20), .null, .long 0, .int 0, .int 0, .null, .long 0, .int 0, .null, .int 0, .null, .null, .int 0, .int 0, .null, .null, .null, .null, .null, .null, .null, .null, .null, .null, .null, .null]) 27 rfl wd_110 rfl (ty := tyX6 27) (by decide +kernel) rfl rfl rfl rfl dX6_init_180 ?_
  refine cz_aload h dX6_init_183 rfl 0 rfl ?_
  refine cz_bipush h (v := (15 : Int32)) dX6_init_184 (by decide) ?_
  refine cz_newa h (ty := .int) (t := 0) (N := 15) (a0 := (15, .inl (fun _ => 0))) rfl wd_31 rfl (fun _ => rfl) (by decide) (by decide) (fun _ w => w) (Nat.ble_eq.mpr (Nat.le_of_ble_eq_true rfl)) (by simp only [List.length_append, List.length_cons, List.length_nil, List.length_replicate] <;> omega) rfl rfl dX6_init_186 ?_
  refine cz_putF h zC6 (fs' := [.int 0, .ref sz, .ref (sz + 1), .ref (sz + 2), .int 0, .ref (sz + 3), .ref (sz + 4), .ref (sz + 5), .ref (sz + 6), .int (1 : Int32), .int 0, .int 0, .ref (sz + 7), .ref (sz + 8), .ref (sz + 9), .ref (sz + 10), .ref (sz + 11), .int 0, .ref (sz + 12), .ref (sz + 13), .ref (sz + 14), .ref (sz + 15), .ref (sz + 16), .ref (sz + 17), .ref (sz + 18), .long 0, .ref (sz + 19), .ref (sz + 20), .ref (sz + 21), .long 0, .int 0, .int 0, .null, .long 0, .int 0, .null, .int 0, .null, .null, .int 0, .int 0, .null, .null, .null, .null, .null, .null, .null, .null, .null, .null, .null, .null]) 28 rfl wd_111 rfl (ty := tyX6 28) (by decide +kernel) rfl rfl rfl rfl dX6_init_188 ?_
  refine cz_aload h dX6_init_191 rfl 0 rfl ?_
  refine cz_iconst h (v := (-1 : Int32)) dX6_init_192 (by decide) ?_
  refine cz_put h zC6 (fs' := [.int 0, .ref sz, .ref (sz + 1), .ref (sz + 2), .int 0, .ref (sz + 3), .ref (sz + 4), .ref (sz + 5), .ref (sz + 6), .int (1 : Int32), .int 0, .int 0, .ref (sz + 7), .ref (sz + 8), .ref (sz + 9), .ref (sz + 10), .ref (sz + 11), .int 0, .ref (sz + 12), .ref (sz + 13), .ref (sz + 14), .ref (sz + 15), .ref (sz + 16), .ref (sz + 17), .ref (sz + 18), .long 0, .ref (sz + 19), .ref (sz + 20), .ref (sz + 21), .long 0, .int (-1 : Int32), .int 0, .null, .long 0, .int 0, .null, .int 0, .null, .null, .int 0, .int 0, .null, .null, .null, .null, .null, .null, .null, .null, .null, .null, .null, .null]) 30 rfl wd_112 rfl (ty := tyX6 30) (by decide +kernel) rfl rfl rfl rfl dX6_init_193 ?_
  refine cz_aload h dX6_init_196 rfl 0 rfl ?_
  refine cz_iconst h (v := (3 : Int32)) dX6_init_197 (by decide) ?_
  refine cz_newa h (ty := .long) (t := 1) (N := 3) (a0 := (3, .inr (.inl (fun _ => 0)))) rfl wd_50 rfl (fun _ => rfl) (by decide) (by decide) (fun _ w => w) (Nat.ble_eq.mpr (Nat.le_of_ble_eq_true rfl)) (by simp only [List.length_append, List.length_cons, List.length_nil, List.length_replicate] <;> omega) rfl rfl dX6_init_198 ?_
  refine cz_putF h zC6 (fs' := [.int 0, .ref sz, .ref (sz + 1), .ref (sz + 2), .int 0, .ref (sz + 3), .ref (sz + 4), .ref (sz + 5), .ref (sz + 6), .int (1 : Int32), .int 0, .int 0, .ref (sz + 7), .ref (sz + 8), .ref (sz + 9), .ref (sz + 10), .ref (sz + 11), .int 0, .ref (sz + 12), .ref (sz + 13), .ref (sz + 14), .ref (sz + 15), .ref (sz + 16), .ref (sz + 17), .ref (sz + 18), .long 0, .ref (sz + 19), .ref (sz + 20), .ref (sz + 21), .long 0, .int (-1 : Int32), .int 0, .ref (sz + 22), .long 0, .int 0, .null, .int 0, .null, .null, .int 0, .int 0, .null, .null, .null, .null, .null, .null, .null, .null, .null, .null, .null, .null]) 32 rfl wd_113 rfl (ty := tyX6 32) (by decide +kernel) rfl rfl rfl rfl dX6_init_200 ?_
  refine cz_aload h dX6_init_203 rfl 0 rfl ?_
  refine cz_bipush h (v := (12 : Int32)) dX6_init_204 (by decide) ?_
  refine cz_newa h (ty := .int) (t := 0) (N := 12) (a0 := (12, .inl (fun _ => 0))) rfl wd_31 rfl (fun _ => rfl) (by decide) (by decide) (fun _ w => w) (Nat.ble_eq.mpr (Nat.le_of_ble_eq_true rfl)) (by simp only [List.length_append, List.length_cons, List.length_nil, List.length_replicate] <;> omega) rfl rfl dX6_init_206 ?_
  refine cz_putF h zC6 (fs' := [.int 0, .ref sz, .ref (sz + 1), .ref (sz + 2), .int 0, .ref (sz + 3), .ref (sz + 4), .ref (sz + 5), .ref (sz + 6), .int (1 : Int32), .int 0, .int 0, .ref (sz + 7), .ref (sz + 8), .ref (sz + 9), .ref (sz + 10), .ref (sz + 11), .int 0, .ref (sz + 12), .ref (sz + 13), .ref (sz + 14), .ref (sz + 15), .ref (sz + 16), .ref (sz + 17), .ref (sz + 18), .long 0, .ref (sz + 19), .ref (sz + 20), .ref (sz + 21), .long 0, .int (-1 : Int32), .int 0, .ref (sz + 22), .long 0, .int 0, .ref (sz + 23), .int 0, .null, .null, .int 0, .int 0, .null, .null, .null, .null, .null, .null, .null, .null, .null, .null, .null, .null]) 35 rfl wd_114 rfl (ty := tyX6 35) (by decide +kernel) rfl rfl rfl rfl dX6_init_208 ?_
  refine cz_aload h dX6_init_211 rfl 0 rfl ?_
  refine cz_sipush h (v := (180 : Int32)) dX6_init_212 (by decide) ?_
  refine cz_newa h (ty := .long) (t := 1) (N := 180) (a0 := (180, .inr (.inl (fun _ => 0)))) rfl wd_50 rfl (fun _ => rfl) (by decide) (by decide) (fun _ w => w) (Nat.ble_eq.mpr (Nat.le_of_ble_eq_true rfl)) (by simp only [List.length_append, List.length_cons, List.length_nil, List.length_replicate] <;> omega) rfl rfl dX6_init_215 ?_
  refine cz_putF h zC6 (fs' := [.int 0, .ref sz, .ref (sz + 1), .ref (sz + 2), .int 0, .ref (sz + 3), .ref (sz + 4), .ref (sz + 5), .ref (sz + 6), .int (1 : Int32), .int 0, .int 0, .ref (sz + 7), .ref (sz + 8), .ref (sz + 9), .ref (sz + 10), .ref (sz + 11), .int 0, .ref (sz + 12), .ref (sz + 13), .ref (sz + 14), .ref (sz + 15), .ref (sz + 16), .ref (sz + 17), .ref (sz + 18), .long 0, .ref (sz + 19), .ref (sz + 20), .ref (sz + 21), .long 0, .int (-1 : Int32), .int 0, .ref (sz + 22), .long 0, .int 0, .ref (sz + 23), .int 0, .ref (sz + 24), .null, .int 0, .int 0, .null, .null, .null, .null, .null, .null, .null, .null, .null, .null, .null, .null]) 37 rfl wd_115 rfl (ty := tyX6 37) (by decide +kernel) rfl rfl rfl rfl dX6_init_217 ?_
  refine cz_aload h dX6_init_220 rfl 0 rfl ?_
  refine cz_bipush h (v := (15 : Int32)) dX6_init_221 (by decide) ?_
  refine cz_newa h (ty := .long) (t := 1) (N := 15) (a0 := (15, .inr (.inl (fun _ => 0)))) rfl wd_50 rfl (fun _ => rfl) (by decide) (by decide) (fun _ w => w) (Nat.ble_eq.mpr (Nat.le_of_ble_eq_true rfl)) (by simp only [List.length_append, List.length_cons, List.length_nil, List.length_replicate] <;> omega) rfl rfl dX6_init_223 ?_
  refine cz_putF h zC6 (fs' := [.int 0, .ref sz, .ref (sz + 1), .ref (sz + 2), .int 0, .ref (sz + 3), .ref (sz + 4), .ref (sz + 5), .ref (sz + 6), .int (1 : Int32), .int 0, .int 0, .ref (sz + 7), .ref (sz + 8), .ref (sz + 9), .ref (sz + 10), .ref (sz + 11), .int 0, .ref (sz + 12), .ref (sz + 13), .ref (sz + 14), .ref (sz + 15), .ref (sz + 16), .ref (sz + 17), .ref (sz + 18), .long 0, .ref (sz + 19), .ref (sz + 20), .ref (sz + 21), .long 0, .int (-1 : Int32), .int 0, .ref (sz + 22), .long 0, .int 0, .ref (sz + 23), .int 0, .ref (sz + 24), .ref (sz + 25), .int 0, .int 0, .null, .null, .null, .null, .null, .null, .null, .null, .null, .null, .null, .null]) 38 rfl wd_116 rfl (ty := tyX6 38) (by decide +kernel) rfl rfl rfl rfl dX6_init_225 ?_
  refine cz_aload h dX6_init_228 rfl 0 rfl ?_
  refine cz_iconst h (v := (2 : Int32)) dX6_init_229 (by decide) ?_
  refine cz_newa h (ty := .long) (t := 1) (N := 2) (a0 := (2, .inr (.inl (fun _ => 0)))) rfl wd_50 rfl (fun _ => rfl) (by decide) (by decide) (fun _ w => w) (Nat.ble_eq.mpr (Nat.le_of_ble_eq_true rfl)) (by simp only [List.length_append, List.length_cons, List.length_nil, List.length_replicate] <;> omega) rfl rfl dX6_init_230 ?_
  refine cz_putF h zC6 (fs' := [.int 0, .ref sz, .ref (sz + 1), .ref (sz + 2), .int 0, .ref (sz + 3), .ref (sz + 4), .ref (sz + 5), .ref (sz + 6), .int (1 : Int32), .int 0, .int 0, .ref (sz + 7), .ref (sz + 8), .ref (sz + 9), .ref (sz + 10), .ref (sz + 11), .int 0, .ref (sz + 12), .ref (sz + 13), .ref (sz + 14), .ref (sz + 15), .ref (sz + 16), .ref (sz + 17), .ref (sz + 18), .long 0, .ref (sz + 19), .ref (sz + 20), .ref (sz + 21), .long 0, .int (-1 : Int32), .int 0, .ref (sz + 22), .long 0, .int 0, .ref (sz + 23), .int 0, .ref (sz + 24), .ref (sz + 25), .int 0, .int 0, .ref (sz + 26), .null, .null, .null, .null, .null, .null, .null, .null, .null, .null, .null]) 41 rfl wd_117 rfl (ty := tyX6 41) (by decide +kernel) rfl rfl rfl rfl dX6_init_232 ?_
  refine cz_aload h dX6_init_235 rfl 0 rfl ?_
  refine cz_iconst h (v := (2 : Int32)) dX6_init_236 (by decide) ?_
  refine cz_newa h (ty := .long) (t := 1) (N := 2) (a0 := (2, .inr (.inl (fun _ => 0)))) rfl wd_50 rfl (fun _ => rfl) (by decide) (by decide) (fun _ w => w) (Nat.ble_eq.mpr (Nat.le_of_ble_eq_true rfl)) (by simp only [List.length_append, List.length_cons, List.length_nil, List.length_replicate] <;> omega) rfl rfl dX6_init_237 ?_
  refine cz_putF h zC6 (fs' := [.int 0, .ref sz, .ref (sz + 1), .ref (sz + 2), .int 0, .ref (sz + 3), .ref (sz + 4), .ref (sz + 5), .ref (sz + 6), .int (1 : Int32), .int 0, .int 0, .ref (sz + 7), .ref (sz + 8), .ref (sz + 9), .ref (sz + 10), .ref (sz + 11), .int 0, .ref (sz + 12), .ref (sz + 13), .ref (sz + 14), .ref (sz + 15), .ref (sz + 16), .ref (sz + 17), .ref (sz + 18), .long 0, .ref (sz + 19), .ref (sz + 20), .ref (sz + 21), .long 0, .int (-1 : Int32), .int 0, .ref (sz + 22), .long 0, .int 0, .ref (sz + 23), .int 0, .ref (sz + 24), .ref (sz + 25), .int 0, .int 0, .ref (sz + 26), .ref (sz + 27), .null, .null, .null, .null, .null, .null, .null, .null, .null, .null]) 42 rfl wd_118 rfl (ty := tyX6 42) (by decide +kernel) rfl rfl rfl rfl dX6_init_239 ?_
  refine cz_aload h dX6_init_242 rfl 0 rfl ?_
  refine cz_iconst h (v := (3 : Int32)) dX6_init_243 (by decide) ?_
  refine cz_newa h (ty := .boolean) (t := 2) (N := 3) (a0 := (3, .inl (fun _ => 0))) rfl wd_103 rfl (fun _ => rfl) (by decide) (by decide) (fun _ w => w) (Nat.ble_eq.mpr (Nat.le_of_ble_eq_true rfl)) (by simp only [List.length_append, List.length_cons, List.length_nil, List.length_replicate] <;> omega) rfl rfl dX6_init_244 ?_
  refine cz_putF h zC6 (fs' := [.int 0, .ref sz, .ref (sz + 1), .ref (sz + 2), .int 0, .ref (sz + 3), .ref (sz + 4), .ref (sz + 5), .ref (sz + 6), .int (1 : Int32), .int 0, .int 0, .ref (sz + 7), .ref (sz + 8), .ref (sz + 9), .ref (sz + 10), .ref (sz + 11), .int 0, .ref (sz + 12), .ref (sz + 13), .ref (sz + 14), .ref (sz + 15), .ref (sz + 16), .ref (sz + 17), .ref (sz + 18), .long 0, .ref (sz + 19), .ref (sz + 20), .ref (sz + 21), .long 0, .int (-1 : Int32), .int 0, .ref (sz + 22), .long 0, .int 0, .ref (sz + 23), .int 0, .ref (sz + 24), .ref (sz + 25), .int 0, .int 0, .ref (sz + 26), .ref (sz + 27), .ref (sz + 28), .null, .null, .null, .null, .null, .null, .null, .null, .null]) 43 rfl wd_119 rfl (ty := tyX6 43) (by decide +kernel) rfl rfl rfl rfl dX6_init_246 ?_
  refine cz_aload h dX6_init_249 rfl 0 rfl ?_
  refine cz_iconst h (v := (3 : Int32)) dX6_init_250 (by decide) ?_
  refine cz_newa h (ty := .int) (t := 0) (N := 3) (a0 := (3, .inl (fun _ => 0))) rfl wd_31 rfl (fun _ => rfl) (by decide) (by decide) (fun _ w => w) (Nat.ble_eq.mpr (Nat.le_of_ble_eq_true rfl)) (by simp only [List.length_append, List.length_cons, List.length_nil, List.length_replicate] <;> omega) rfl rfl dX6_init_251 ?_
  refine cz_putF h zC6 (fs' := [.int 0, .ref sz, .ref (sz + 1), .ref (sz + 2), .int 0, .ref (sz + 3), .ref (sz + 4), .ref (sz + 5), .ref (sz + 6), .int (1 : Int32), .int 0, .int 0, .ref (sz + 7), .ref (sz + 8), .ref (sz + 9), .ref (sz + 10), .ref (sz + 11), .int 0, .ref (sz + 12), .ref (sz + 13), .ref (sz + 14), .ref (sz + 15), .ref (sz + 16), .ref (sz + 17), .ref (sz + 18), .long 0, .ref (sz + 19), .ref (sz + 20), .ref (sz + 21), .long 0, .int (-1 : Int32), .int 0, .ref (sz + 22), .long 0, .int 0, .ref (sz + 23), .int 0, .ref (sz + 24), .ref (sz + 25), .int 0, .int 0, .ref (sz + 26), .ref (sz + 27), .ref (sz + 28), .ref (sz + 29), .null, .null, .null, .null, .null, .null, .null, .null]) 44 rfl wd_120 rfl (ty := tyX6 44) (by decide +kernel) rfl rfl rfl rfl dX6_init_253 ?_
  refine cz_aload h dX6_init_256 rfl 0 rfl ?_
  refine cz_bipush h (v := (6 : Int32)) dX6_init_257 (by decide) ?_
  refine cz_newa h (ty := .long) (t := 1) (N := 6) (a0 := (6, .inr (.inl (fun _ => 0)))) rfl wd_50 rfl (fun _ => rfl) (by decide) (by decide) (fun _ w => w) (Nat.ble_eq.mpr (Nat.le_of_ble_eq_true rfl)) (by simp only [List.length_append, List.length_cons, List.length_nil, List.length_replicate] <;> omega) rfl rfl dX6_init_259 ?_
  refine cz_putF h zC6 (fs' := [.int 0, .ref sz, .ref (sz + 1), .ref (sz + 2), .int 0, .ref (sz + 3), .ref (sz + 4), .ref (sz + 5), .ref (sz + 6), .int (1 : Int32), .int 0, .int 0, .ref (sz + 7), .ref (sz + 8), .ref (sz + 9), .ref (sz + 10), .ref (sz + 11), .int 0, .ref (sz + 12), .ref (sz + 13), .ref (sz + 14), .ref (sz + 15), .ref (sz + 16), .ref (sz + 17), .ref (sz + 18), .long 0, .ref (sz + 19), .ref (sz + 20), .ref (sz + 21), .long 0, .int (-1 : Int32), .int 0, .ref (sz + 22), .long 0, .int 0, .ref (sz + 23), .int 0, .ref (sz + 24), .ref (sz + 25), .int 0, .int 0, .ref (sz + 26), .ref (sz + 27), .ref (sz + 28), .ref (sz + 29), .ref (sz + 30), .null, .null, .null, .null, .null, .null, .null]) 45 rfl wd_121 rfl (ty := tyX6 45) (by decide +kernel) rfl rfl rfl rfl dX6_init_261 ?_
  refine cz_aload h dX6_init_264 rfl 0 rfl ?_
  refine cz_bipush h (v := (6 : Int32)) dX6_init_265 (by decide) ?_
  refine cz_newa h (ty := .long) (t := 1) (N := 6) (a0 := (6, .inr (.inl (fun _ => 0)))) rfl wd_50 rfl (fun _ => rfl) (by decide) (by decide) (fun _ w => w) (Nat.ble_eq.mpr (Nat.le_of_ble_eq_true rfl)) (by simp only [List.length_append, List.length_cons, List.length_nil, List.length_replicate] <;> omega) rfl rfl dX6_init_267 ?_
  refine cz_putF h zC6 (fs' := [.int 0, .ref sz, .ref (sz + 1), .ref (sz + 2), .int 0, .ref (sz + 3), .ref (sz + 4), .ref (sz + 5), .ref (sz + 6), .int (1 : Int32), .int 0, .int 0, .ref (sz + 7), .ref (sz + 8), .ref (sz + 9), .ref (sz + 10), .ref (sz + 11), .int 0, .ref (sz + 12), .ref (sz + 13), .ref (sz + 14), .ref (sz + 15), .ref (sz + 16), .ref (sz + 17), .ref (sz + 18), .long 0, .ref (sz + 19), .ref (sz + 20), .ref (sz + 21), .long 0, .int (-1 : Int32), .int 0, .ref (sz + 22), .long 0, .int 0, .ref (sz + 23), .int 0, .ref (sz + 24), .ref (sz + 25), .int 0, .int 0, .ref (sz + 26), .ref (sz + 27), .ref (sz + 28), .ref (sz + 29), .ref (sz + 30), .ref (sz + 31), .null, .null, .null, .null, .null, .null]) 46 rfl wd_122 rfl (ty := tyX6 46) (by decide +kernel) rfl rfl rfl rfl dX6_init_269 ?_
  refine cz_aload h dX6_init_272 rfl 0 rfl ?_
  refine cz_bipush h (v := (12 : Int32)) dX6_init_273 (by decide) ?_
  refine cz_newa h (ty := .long) (t := 1) (N := 12) (a0 := (12, .inr (.inl (fun _ => 0)))) rfl wd_50 rfl (fun _ => rfl) (by decide) (by decide) (fun _ w => w) (Nat.ble_eq.mpr (Nat.le_of_ble_eq_true rfl)) (by simp only [List.length_append, List.length_cons, List.length_nil, List.length_replicate] <;> omega) rfl rfl dX6_init_275 ?_
  refine cz_putF h zC6 (fs' := [.int 0, .ref sz, .ref (sz + 1), .ref (sz + 2), .int 0, .ref (sz + 3), .ref (sz + 4), .ref (sz + 5), .ref (sz + 6), .int (1 : Int32), .int 0, .int 0, .ref (sz + 7), .ref (sz + 8), .ref (sz + 9), .ref (sz + 10), .ref (sz + 11), .int 0, .ref (sz + 12), .ref (sz + 13), .ref (sz + 14), .ref (sz + 15), .ref (sz + 16), .ref (sz + 17), .ref (sz + 18), .long 0, .ref (sz + 19), .ref (sz + 20), .ref (sz + 21), .long 0, .int (-1 : Int32), .int 0, .ref (sz + 22), .long 0, .int 0, .ref (sz + 23), .int 0, .ref (sz + 24), .ref (sz + 25), .int 0, .int 0, .ref (sz + 26), .ref (sz + 27), .ref (sz + 28), .ref (sz + 29), .ref (sz + 30), .ref (sz + 31), .ref (sz + 32), .null, .null, .null, .null, .null]) 47 rfl wd_123 rfl (ty := tyX6 47) (by decide +kernel) rfl rfl rfl rfl dX6_init_277 ?_
  refine cz_aload h dX6_init_280 rfl 0 rfl ?_
  refine cz_bipush h (v := (12 : Int32)) dX6_init_281 (by decide) ?_
  refine cz_newa h (ty := .long) (t := 1) (N := 12) (a0 := (12, .inr (.inl (fun _ => 0)))) rfl wd_50 rfl (fun _ => rfl) (by decide) (by decide) (fun _ w => w) (Nat.ble_eq.mpr (Nat.le_of_ble_eq_true rfl)) (by simp only [List.length_append, List.length_cons, List.length_nil, List.length_replicate] <;> omega) rfl rfl dX6_init_283 ?_
  refine cz_putF h zC6 (fs' := [.int 0, .ref sz, .ref (sz + 1), .ref (sz + 2), .int 0, .ref (sz + 3), .ref (sz + 4), .ref (sz + 5), .ref (sz + 6), .int (1 : Int32), .int 0, .int 0, .ref (sz + 7), .ref (sz + 8), .ref (sz + 9), .ref (sz + 10), .ref (sz + 11), .int 0, .ref (sz + 12), .ref (sz + 13), .ref (sz + 14), .ref (sz + 15), .ref (sz + 16), .ref (sz + 17), .ref (sz + 18), .long 0, .ref (sz + 19), .ref (sz + 20), .ref (sz + 21), .long 0, .int (-1 : Int32), .int 0, .ref (sz + 22), .long 0, .int 0, .ref (sz + 23), .int 0, .ref (sz + 24), .ref (sz + 25), .int 0, .int 0, .ref (sz + 26), .ref (sz + 27), .ref (sz + 28), .ref (sz + 29), .ref (sz + 30), .ref (sz + 31), .ref (sz + 32), .ref (sz + 33), .null, .null, .null, .null]) 48 rfl wd_124 rfl (ty := tyX6 48) (by decide +kernel) rfl rfl rfl rfl dX6_init_285 ?_
  refine cz_aload h dX6_init_288 rfl 0 rfl ?_
  refine cz_bipush h (v := (12 : Int32)) dX6_init_289 (by decide) ?_
  refine cz_newa h (ty := .long) (t := 1) (N := 12) (a0 := (12, .inr (.inl (fun _ => 0)))) rfl wd_50 rfl (fun _ => rfl) (by decide) (by decide) (fun _ w => w) (Nat.ble_eq.mpr (Nat.le_of_ble_eq_true rfl)) (by simp only [List.length_append, List.length_cons, List.length_nil, List.length_replicate] <;> omega) rfl rfl dX6_init_291 ?_
  refine cz_putF h zC6 (fs' := [.int 0, .ref sz, .ref (sz + 1), .ref (sz + 2), .int 0, .ref (sz + 3), .ref (sz + 4), .ref (sz + 5), .ref (sz + 6), .int (1 : Int32), .int 0, .int 0, .ref (sz + 7), .ref (sz + 8), .ref (sz + 9), .ref (sz + 10), .ref (sz + 11), .int 0, .ref (sz + 12), .ref (sz + 13), .ref (sz + 14), .ref (sz + 15), .ref (sz + 16), .ref (sz + 17), .ref (sz + 18), .long 0, .ref (sz + 19), .ref (sz + 20), .ref (sz + 21), .long 0, .int (-1 : Int32), .int 0, .ref (sz + 22), .long 0, .int 0, .ref (sz + 23), .int 0, .ref (sz + 24), .ref (sz + 25), .int 0, .int 0, .ref (sz + 26), .ref (sz + 27), .ref (sz + 28), .ref (sz + 29), .ref (sz + 30), .ref (sz + 31), .ref (sz + 32), .ref (sz + 33), .ref (sz + 34), .null, .null, .null]) 49 rfl wd_125 rfl (ty := tyX6 49) (by decide +kernel) rfl rfl rfl rfl dX6_init_293 ?_
  refine cz_aload h dX6_init_296 rfl 0 rfl ?_
  refine cz_bipush h (v := (12 : Int32)) dX6_init_297 (by decide) ?_
  refine cz_newa h (ty := .long) (t := 1) (N := 12) (a0 := (12, .inr (.inl (fun _ => 0)))) rfl wd_50 rfl (fun _ => rfl) (by decide) (by decide) (fun _ w => w) (Nat.ble_eq.mpr (Nat.le_of_ble_eq_true rfl)) (by simp only [List.length_append, List.length_cons, List.length_nil, List.length_replicate] <;> omega) rfl rfl dX6_init_299 ?_
  refine cz_putF h zC6 (fs' := [.int 0, .ref sz, .ref (sz + 1), .ref (sz + 2), .int 0, .ref (sz + 3), .ref (sz + 4), .ref (sz + 5), .ref (sz + 6), .int (1 : Int32), .int 0, .int 0, .ref (sz + 7), .ref (sz + 8), .ref (sz + 9), .ref (sz + 10), .ref (sz + 11), .int 0, .ref (sz + 12), .ref (sz + 13), .ref (sz + 14), .ref (sz + 15), .ref (sz + 16), .ref (sz + 17), .ref (sz + 18), .long 0, .ref (sz + 19), .ref (sz + 20), .ref (sz + 21), .long 0, .int (-1 : Int32), .int 0, .ref (sz + 22), .long 0, .int 0, .ref (sz + 23), .int 0, .ref (sz + 24), .ref (sz + 25), .int 0, .int 0, .ref (sz + 26), .ref (sz + 27), .ref (sz + 28), .ref (sz + 29), .ref (sz + 30), .ref (sz + 31), .ref (sz + 32), .ref (sz + 33), .ref (sz + 34), .ref (sz + 35), .null, .null]) 50 rfl wd_126 rfl (ty := tyX6 50) (by decide +kernel) rfl rfl rfl rfl dX6_init_301 ?_
  refine cz_aload h dX6_init_304 rfl 0 rfl ?_
  refine cz_sipush h (v := (166 : Int32)) dX6_init_305 (by decide) ?_
  refine cz_newa h (ty := .int) (t := 0) (N := 166) (a0 := (166, .inl (fun _ => 0))) rfl wd_31 rfl (fun _ => rfl) (by decide) (by decide) (fun _ w => w) (Nat.ble_eq.mpr (Nat.le_of_ble_eq_true rfl)) (by simp only [List.length_append, List.length_cons, List.length_nil, List.length_replicate] <;> omega) rfl rfl dX6_init_308 ?_
  refine cz_putF h zC6 (fs' := [.int 0, .ref sz, .ref (sz + 1), .ref (sz + 2), .int 0, .ref (sz + 3), .ref (sz + 4), .ref (sz + 5), .ref (sz + 6), .int (1 : Int32), .int 0, .int 0, .ref (sz + 7), .ref (sz + 8), .ref (sz + 9), .ref (sz + 10), .ref (sz + 11), .int 0, .ref (sz + 12), .ref (sz + 13), .ref (sz + 14), .ref (sz + 15), .ref (sz + 16), .ref (sz + 17), .ref (sz + 18), .long 0, .ref (sz + 19), .ref (sz + 20), .ref (sz + 21), .long 0, .int (-1 : Int32), .int 0, .ref (sz + 22), .long 0, .int 0, .ref (sz + 23), .int 0, .ref (sz + 24), .ref (sz + 25), .int 0, .int 0, .ref (sz + 26), .ref (sz + 27), .ref (sz + 28), .ref (sz + 29), .ref (sz + 30), .ref (sz + 31), .ref (sz + 32), .ref (sz + 33), .ref (sz + 34), .ref (sz + 35), .ref (sz + 36), .null]) 51 rfl wd_127 rfl (ty := tyX6 51) (by decide +kernel) rfl rfl rfl rfl dX6_init_310 ?_
  refine cz_aload h dX6_init_313 rfl 0 rfl ?_
  refine cz_iconst h (v := (2 : Int32)) dX6_init_314 (by decide) ?_
  refine cz_newa h (ty := .boolean) (t := 2) (N := 2) (a0 := (2, .inl (fun _ => 0))) rfl wd_103 rfl (fun _ => rfl) (by decide) (by decide) (fun _ w => w) (Nat.ble_eq.mpr (Nat.le_of_ble_eq_true rfl)) (by simp only [List.length_append, List.length_cons, List.length_nil, List.length_replicate] <;> omega) rfl rfl dX6_init_315 ?_
  refine cz_putF h zC6 (fs' := [.int 0, .ref sz, .ref (sz + 1), .ref (sz + 2), .int 0, .ref (sz + 3), .ref (sz + 4), .ref (sz + 5), .ref (sz + 6), .int (1 : Int32), .int 0, .int 0, .ref (sz + 7), .ref (sz + 8), .ref (sz + 9), .ref (sz + 10), .ref (sz + 11), .int 0, .ref (sz + 12), .ref (sz + 13), .ref (sz + 14), .ref (sz + 15), .ref (sz + 16), .ref (sz + 17), .ref (sz + 18), .long 0, .ref (sz + 19), .ref (sz + 20), .ref (sz + 21), .long 0, .int (-1 : Int32), .int 0, .ref (sz + 22), .long 0, .int 0, .ref (sz + 23), .int 0, .ref (sz + 24), .ref (sz + 25), .int 0, .int 0, .ref (sz + 26), .ref (sz + 27), .ref (sz + 28), .ref (sz + 29), .ref (sz + 30), .ref (sz + 31), .ref (sz + 32), .ref (sz + 33), .ref (sz + 34), .ref (sz + 35), .ref (sz + 36), .ref (sz + 37)]) 52 rfl wd_128 rfl (ty := tyX6 52) (by decide +kernel) rfl rfl rfl rfl dX6_init_317 ?_
  exact cz_ret h hq (by simp only [List.length_append, List.length_cons, List.length_nil, List.length_replicate] <;> omega) dX6_init_320
