theorem dABS_0 : decode Lib.MathLoose.abs_long.code 0 = .ok (.lload_n 0, 1) := by decide +kernel
theorem dABS_1 : decode Lib.MathLoose.abs_long.code 1 = .ok (.lconst 0, 1) := by decide +kernel
theorem dABS_2 : decode Lib.MathLoose.abs_long.code 2 = .ok (.lcmp, 1) := by decide +kernel
theorem dABS_3 : decode Lib.MathLoose.abs_long.code 3 = .ok (.ifCond .ge 8, 3) := by decide +kernel
theorem dABS_6 : decode Lib.MathLoose.abs_long.code 6 = .ok (.lload_n 0, 1) := by decide +kernel
theorem dABS_7 : decode Lib.MathLoose.abs_long.code 7 = .ok (.lneg, 1) := by decide +kernel
theorem dABS_8 : decode Lib.MathLoose.abs_long.code 8 = .ok (.goto 4, 3) := by decide +kernel
theorem dABS_11 : decode Lib.MathLoose.abs_long.code 11 = .ok (.lload_n 0, 1) := by decide +kernel
theorem dABS_12 : decode Lib.MathLoose.abs_long.code 12 = .ok (.lreturn, 1) := by decide +kernel
abbrev rm_ABS : Room := { frames := 0, cells := 0, slots := 0, locals := 0 }
noncomputable def f_ABS (N : Nat) (x0 : Int64) (σ : ZS) : Option (Int64 × ZS) := (if x0 < (0 : Int64) then some (-x0, σ) else some (x0, σ))
set_option maxHeartbeats 4000000 in
set_option maxRecDepth 100000 in
theorem c_ABS (l : Launch) (G : ZG) {N : Nat} {x0 : Int64} {σ σ' : ZS} {r : Int64} (hf : f_ABS N x0 σ = some (r, σ')) : zMet l G Lib.MathLoose.abs_long.x Lib.MathLoose.abs_long.code 2 (some .long) rm_ABS [.long x0] σ (some (.long r)) σ' := by
  refine z_met (by decide +kernel) rfl (fun Y h hq => ?_)
  have h : zOk (l, rm_ABS, 2, 0, 0) Y G Lib.MathLoose.abs_long.code "java/lang/Math" (some .long) := h
  rw [f_ABS] at hf
  refine z_sub (lv' := [(0, .long x0)]) [0] rfl ?_
  refine z_lload_n h dABS_0 rfl 0 rfl ?_
  refine z_lconst h (v := (0 : Int64)) dABS_1 lc_0 ?_
  refine z_lif_ge h (tgt := 11) dABS_2 dABS_3 (by decide) (fun g1 => ?_) (fun g1 => ?_)
  · have hf := it_neg g1 hf
    refine z_lload_n h dABS_11 rfl 0 rfl ?_
    exact z_lret h (rt_J hf hq) dABS_12
  · have hf := it_pos g1 hf
    refine z_lload_n h dABS_6 rfl 0 rfl ?_
    refine z_lneg h dABS_7 ?_
    refine z_goto h (tgt := 12) dABS_8 (by decide) ?_
    exact z_lret h (rt_J hf hq) dABS_12
theorem dJ9_floorDiv_f86c9_0 : decode cJ9_floorDiv_f86c9 0 = .ok (.lload_n 0, 1) := by decide +kernel
theorem dJ9_floorDiv_f86c9_1 : decode cJ9_floorDiv_f86c9 1 = .ok (.lload_n 2, 1) := by decide +kernel
theorem dJ9_floorDiv_f86c9_2 : decode cJ9_floorDiv_f86c9 2 = .ok (.ldiv, 1) := by decide +kernel
theorem dJ9_floorDiv_f86c9_3 : decode cJ9_floorDiv_f86c9 3 = .ok (.lstore 4, 2) := by decide +kernel
theorem dJ9_floorDiv_f86c9_5 : decode cJ9_floorDiv_f86c9 5 = .ok (.lload_n 0, 1) := by decide +kernel
theorem dJ9_floorDiv_f86c9_6 : decode cJ9_floorDiv_f86c9 6 = .ok (.lload_n 2, 1) := by decide +kernel
theorem dJ9_floorDiv_f86c9_7 : decode cJ9_floorDiv_f86c9 7 = .ok (.lxor, 1) := by decide +kernel
theorem dJ9_floorDiv_f86c9_8 : decode cJ9_floorDiv_f86c9 8 = .ok (.lconst 0, 1) := by decide +kernel
theorem dJ9_floorDiv_f86c9_9 : decode cJ9_floorDiv_f86c9 9 = .ok (.lcmp, 1) := by decide +kernel
theorem dJ9_floorDiv_f86c9_10 : decode cJ9_floorDiv_f86c9 10 = .ok (.ifCond .ge 17, 3) := by decide +kernel
theorem dJ9_floorDiv_f86c9_13 : decode cJ9_floorDiv_f86c9 13 = .ok (.lload 4, 2) := by decide +kernel
theorem dJ9_floorDiv_f86c9_15 : decode cJ9_floorDiv_f86c9 15 = .ok (.lload_n 2, 1) := by decide +kernel
theorem dJ9_floorDiv_f86c9_16 : decode cJ9_floorDiv_f86c9 16 = .ok (.lmul, 1) := by decide +kernel
theorem dJ9_floorDiv_f86c9_17 : decode cJ9_floorDiv_f86c9 17 = .ok (.lload_n 0, 1) := by decide +kernel
theorem dJ9_floorDiv_f86c9_18 : decode cJ9_floorDiv_f86c9 18 = .ok (.lcmp, 1) := by decide +kernel
theorem dJ9_floorDiv_f86c9_19 : decode cJ9_floorDiv_f86c9 19 = .ok (.ifCond .eq 8, 3) := by decide +kernel
theorem dJ9_floorDiv_f86c9_22 : decode cJ9_floorDiv_f86c9 22 = .ok (.lload 4, 2) := by decide +kernel
theorem dJ9_floorDiv_f86c9_24 : decode cJ9_floorDiv_f86c9 24 = .ok (.lconst 1, 1) := by decide +kernel
theorem dJ9_floorDiv_f86c9_25 : decode cJ9_floorDiv_f86c9 25 = .ok (.lsub, 1) := by decide +kernel
theorem dJ9_floorDiv_f86c9_26 : decode cJ9_floorDiv_f86c9 26 = .ok (.lreturn, 1) := by decide +kernel
theorem dJ9_floorDiv_f86c9_27 : decode cJ9_floorDiv_f86c9 27 = .ok (.lload 4, 2) := by decide +kernel
theorem dJ9_floorDiv_f86c9_29 : decode cJ9_floorDiv_f86c9 29 = .ok (.lreturn, 1) := by decide +kernel
abbrev rm_J9_floorDiv_f86c9 : Room := { frames := 0, cells := 0, slots := 0, locals := 0 }
noncomputable def f_J9_floorDiv_f86c9 (N : Nat) (x0 : Int64) (x2 : Int64) (σ : ZS) : Option (Int64 × ZS) := ck (!(x2 == 0)) (bd (x0 / x2) fun v2 => (if (x0 ^^^ x2) < (0 : Int64) then (if (v2 * x2) = x0 then some (v2, σ) else some (v2 - (1 : Int64), σ)) else some (v2, σ)))
set_option maxHeartbeats 4000000 in
set_option maxRecDepth 100000 in
theorem c_J9_floorDiv_f86c9 (l : Launch) (G : ZG) {N : Nat} {x0 : Int64} {x2 : Int64} {σ σ' : ZS} {r : Int64} (hf : f_J9_floorDiv_f86c9 N x0 x2 σ = some (r, σ')) : zMet l G yJ9_floorDiv_f86c9 cJ9_floorDiv_f86c9 6 (some .long) rm_J9_floorDiv_f86c9 [.long x0, .long x2] σ (some (.long r)) σ' := by
  refine z_met (by decide +kernel) rfl (fun Y h hq => ?_)
  have h : zOk (l, rm_J9_floorDiv_f86c9, 6, 0, 0) Y G cJ9_floorDiv_f86c9 RJ9 (some .long) := h
  rw [f_J9_floorDiv_f86c9] at hf
  refine z_sub (lv' := [(0, .long x0), (2, .long x2)]) [0, 1] rfl ?_
  refine z_lload_n h dJ9_floorDiv_f86c9_0 rfl 0 rfl ?_
  refine z_lload_n h dJ9_floorDiv_f86c9_1 rfl 1 rfl ?_
  obtain ⟨g1, hf⟩ := ck_out hf
  refine z_ldiv h dJ9_floorDiv_f86c9_2 (nz_of g1) ?_
  refine z_topJ (fun v2 ev2 => ?_)
  have hf := bd_to ev2 hf
  refine z_lstore h dJ9_floorDiv_f86c9_3 (lv' := [(4, .long v2), (0, .long x0), (2, .long x2)]) rfl rfl ?_
  refine z_lload_n h dJ9_floorDiv_f86c9_5 rfl 1 rfl ?_
  refine z_lload_n h dJ9_floorDiv_f86c9_6 rfl 2 rfl ?_
  refine z_lxor h dJ9_floorDiv_f86c9_7 ?_
  refine z_lconst h (v := (0 : Int64)) dJ9_floorDiv_f86c9_8 lc_0 ?_
  refine z_lif_ge h (tgt := 27) dJ9_floorDiv_f86c9_9 dJ9_floorDiv_f86c9_10 (by decide) (fun g3 => ?_) (fun g3 => ?_)
  · have hf := it_neg g3 hf
    refine z_lload h dJ9_floorDiv_f86c9_27 0 rfl ?_
    exact z_lret h (rt_J hf hq) dJ9_floorDiv_f86c9_29
  · have hf := it_pos g3 hf
    refine z_lload h dJ9_floorDiv_f86c9_13 0 rfl ?_
    refine z_lload_n h dJ9_floorDiv_f86c9_15 rfl 2 rfl ?_
    refine z_lmul h dJ9_floorDiv_f86c9_16 ?_
    refine z_lload_n h dJ9_floorDiv_f86c9_17 rfl 1 rfl ?_
    refine z_lif_eq h (tgt := 27) dJ9_floorDiv_f86c9_18 dJ9_floorDiv_f86c9_19 (by decide) (fun g4 => ?_) (fun g4 => ?_)
    · have hf := it_pos g4 hf
      refine z_lload h dJ9_floorDiv_f86c9_27 0 rfl ?_
      exact z_lret h (rt_J hf hq) dJ9_floorDiv_f86c9_29
    · have hf := it_neg g4 hf
      refine z_lload h dJ9_floorDiv_f86c9_22 0 rfl ?_
      refine z_lconst h (v := (1 : Int64)) dJ9_floorDiv_f86c9_24 lc_1 ?_
      refine z_lsub h dJ9_floorDiv_f86c9_25 ?_
      exact z_lret h (rt_J hf hq) dJ9_floorDiv_f86c9_26
theorem dJ6_numberOfTrailingZeros_0f7a4_0 : decode cJ6_numberOfTrailingZeros_0f7a4 0 = .ok (.iload_n 0, 1) := by decide +kernel
theorem dJ6_numberOfTrailingZeros_0f7a4_1 : decode cJ6_numberOfTrailingZeros_0f7a4 1 = .ok (.iconst (-1), 1) := by decide +kernel
theorem dJ6_numberOfTrailingZeros_0f7a4_2 : decode cJ6_numberOfTrailingZeros_0f7a4 2 = .ok (.ixor, 1) := by decide +kernel
theorem dJ6_numberOfTrailingZeros_0f7a4_3 : decode cJ6_numberOfTrailingZeros_0f7a4 3 = .ok (.iload_n 0, 1) := by decide +kernel
theorem dJ6_numberOfTrailingZeros_0f7a4_4 : decode cJ6_numberOfTrailingZeros_0f7a4 4 = .ok (.iconst 1, 1) := by decide +kernel
theorem dJ6_numberOfTrailingZeros_0f7a4_5 : decode cJ6_numberOfTrailingZeros_0f7a4 5 = .ok (.isub, 1) := by decide +kernel
theorem dJ6_numberOfTrailingZeros_0f7a4_6 : decode cJ6_numberOfTrailingZeros_0f7a4 6 = .ok (.iand, 1) := by decide +kernel
theorem dJ6_numberOfTrailingZeros_0f7a4_7 : decode cJ6_numberOfTrailingZeros_0f7a4 7 = .ok (.istore_n 0, 1) := by decide +kernel
theorem dJ6_numberOfTrailingZeros_0f7a4_8 : decode cJ6_numberOfTrailingZeros_0f7a4 8 = .ok (.iload_n 0, 1) := by decide +kernel
theorem dJ6_numberOfTrailingZeros_0f7a4_9 : decode cJ6_numberOfTrailingZeros_0f7a4 9 = .ok (.ifCond .gt 8, 3) := by decide +kernel
theorem dJ6_numberOfTrailingZeros_0f7a4_12 : decode cJ6_numberOfTrailingZeros_0f7a4 12 = .ok (.iload_n 0, 1) := by decide +kernel
theorem dJ6_numberOfTrailingZeros_0f7a4_13 : decode cJ6_numberOfTrailingZeros_0f7a4 13 = .ok (.bipush 32, 2) := by decide +kernel
theorem dJ6_numberOfTrailingZeros_0f7a4_15 : decode cJ6_numberOfTrailingZeros_0f7a4 15 = .ok (.iand, 1) := by decide +kernel
theorem dJ6_numberOfTrailingZeros_0f7a4_16 : decode cJ6_numberOfTrailingZeros_0f7a4 16 = .ok (.ireturn, 1) := by decide +kernel
theorem dJ6_numberOfTrailingZeros_0f7a4_17 : decode cJ6_numberOfTrailingZeros_0f7a4 17 = .ok (.iconst 1, 1) := by decide +kernel
theorem dJ6_numberOfTrailingZeros_0f7a4_18 : decode cJ6_numberOfTrailingZeros_0f7a4 18 = .ok (.istore_n 1, 1) := by decide +kernel
theorem dJ6_numberOfTrailingZeros_0f7a4_19 : decode cJ6_numberOfTrailingZeros_0f7a4 19 = .ok (.iload_n 0, 1) := by decide +kernel
theorem dJ6_numberOfTrailingZeros_0f7a4_20 : decode cJ6_numberOfTrailingZeros_0f7a4 20 = .ok (.ldc_w 264, 3) := by decide +kernel
theorem dJ6_numberOfTrailingZeros_0f7a4_23 : decode cJ6_numberOfTrailingZeros_0f7a4 23 = .ok (.if_icmp .le 11, 3) := by decide +kernel
theorem dJ6_numberOfTrailingZeros_0f7a4_26 : decode cJ6_numberOfTrailingZeros_0f7a4 26 = .ok (.iinc 1 16, 3) := by decide +kernel
theorem dJ6_numberOfTrailingZeros_0f7a4_29 : decode cJ6_numberOfTrailingZeros_0f7a4 29 = .ok (.iload_n 0, 1) := by decide +kernel
theorem dJ6_numberOfTrailingZeros_0f7a4_30 : decode cJ6_numberOfTrailingZeros_0f7a4 30 = .ok (.bipush 16, 2) := by decide +kernel
theorem dJ6_numberOfTrailingZeros_0f7a4_32 : decode cJ6_numberOfTrailingZeros_0f7a4 32 = .ok (.iushr, 1) := by decide +kernel
theorem dJ6_numberOfTrailingZeros_0f7a4_33 : decode cJ6_numberOfTrailingZeros_0f7a4 33 = .ok (.istore_n 0, 1) := by decide +kernel
theorem dJ6_numberOfTrailingZeros_0f7a4_34 : decode cJ6_numberOfTrailingZeros_0f7a4 34 = .ok (.iload_n 0, 1) := by decide +kernel
theorem dJ6_numberOfTrailingZeros_0f7a4_35 : decode cJ6_numberOfTrailingZeros_0f7a4 35 = .ok (.sipush 256, 3) := by decide +kernel
theorem dJ6_numberOfTrailingZeros_0f7a4_38 : decode cJ6_numberOfTrailingZeros_0f7a4 38 = .ok (.if_icmp .le 11, 3) := by decide +kernel
theorem dJ6_numberOfTrailingZeros_0f7a4_41 : decode cJ6_numberOfTrailingZeros_0f7a4 41 = .ok (.iinc 1 8, 3) := by decide +kernel
theorem dJ6_numberOfTrailingZeros_0f7a4_44 : decode cJ6_numberOfTrailingZeros_0f7a4 44 = .ok (.iload_n 0, 1) := by decide +kernel
theorem dJ6_numberOfTrailingZeros_0f7a4_45 : decode cJ6_numberOfTrailingZeros_0f7a4 45 = .ok (.bipush 8, 2) := by decide +kernel
theorem dJ6_numberOfTrailingZeros_0f7a4_47 : decode cJ6_numberOfTrailingZeros_0f7a4 47 = .ok (.iushr, 1) := by decide +kernel
theorem dJ6_numberOfTrailingZeros_0f7a4_48 : decode cJ6_numberOfTrailingZeros_0f7a4 48 = .ok (.istore_n 0, 1) := by decide +kernel
theorem dJ6_numberOfTrailingZeros_0f7a4_49 : decode cJ6_numberOfTrailingZeros_0f7a4 49 = .ok (.iload_n 0, 1) := by decide +kernel
theorem dJ6_numberOfTrailingZeros_0f7a4_50 : decode cJ6_numberOfTrailingZeros_0f7a4 50 = .ok (.bipush 16, 2) := by decide +kernel
theorem dJ6_numberOfTrailingZeros_0f7a4_52 : decode cJ6_numberOfTrailingZeros_0f7a4 52 = .ok (.if_icmp .le 10, 3) := by decide +kernel
theorem dJ6_numberOfTrailingZeros_0f7a4_55 : decode cJ6_numberOfTrailingZeros_0f7a4 55 = .ok (.iinc 1 4, 3) := by decide +kernel
theorem dJ6_numberOfTrailingZeros_0f7a4_58 : decode cJ6_numberOfTrailingZeros_0f7a4 58 = .ok (.iload_n 0, 1) := by decide +kernel
theorem dJ6_numberOfTrailingZeros_0f7a4_59 : decode cJ6_numberOfTrailingZeros_0f7a4 59 = .ok (.iconst 4, 1) := by decide +kernel
theorem dJ6_numberOfTrailingZeros_0f7a4_60 : decode cJ6_numberOfTrailingZeros_0f7a4 60 = .ok (.iushr, 1) := by decide +kernel
theorem dJ6_numberOfTrailingZeros_0f7a4_61 : decode cJ6_numberOfTrailingZeros_0f7a4 61 = .ok (.istore_n 0, 1) := by decide +kernel
theorem dJ6_numberOfTrailingZeros_0f7a4_62 : decode cJ6_numberOfTrailingZeros_0f7a4 62 = .ok (.iload_n 0, 1) := by decide +kernel
theorem dJ6_numberOfTrailingZeros_0f7a4_63 : decode cJ6_numberOfTrailingZeros_0f7a4 63 = .ok (.iconst 4, 1) := by decide +kernel
theorem dJ6_numberOfTrailingZeros_0f7a4_64 : decode cJ6_numberOfTrailingZeros_0f7a4 64 = .ok (.if_icmp .le 10, 3) := by decide +kernel
theorem dJ6_numberOfTrailingZeros_0f7a4_67 : decode cJ6_numberOfTrailingZeros_0f7a4 67 = .ok (.iinc 1 2, 3) := by decide +kernel
theorem dJ6_numberOfTrailingZeros_0f7a4_70 : decode cJ6_numberOfTrailingZeros_0f7a4 70 = .ok (.iload_n 0, 1) := by decide +kernel
theorem dJ6_numberOfTrailingZeros_0f7a4_71 : decode cJ6_numberOfTrailingZeros_0f7a4 71 = .ok (.iconst 2, 1) := by decide +kernel
theorem dJ6_numberOfTrailingZeros_0f7a4_72 : decode cJ6_numberOfTrailingZeros_0f7a4 72 = .ok (.iushr, 1) := by decide +kernel
theorem dJ6_numberOfTrailingZeros_0f7a4_73 : decode cJ6_numberOfTrailingZeros_0f7a4 73 = .ok (.istore_n 0, 1) := by decide +kernel
theorem dJ6_numberOfTrailingZeros_0f7a4_74 : decode cJ6_numberOfTrailingZeros_0f7a4 74 = .ok (.iload_n 1, 1) := by decide +kernel
theorem dJ6_numberOfTrailingZeros_0f7a4_75 : decode cJ6_numberOfTrailingZeros_0f7a4 75 = .ok (.iload_n 0, 1) := by decide +kernel
theorem dJ6_numberOfTrailingZeros_0f7a4_76 : decode cJ6_numberOfTrailingZeros_0f7a4 76 = .ok (.iconst 1, 1) := by decide +kernel
theorem dJ6_numberOfTrailingZeros_0f7a4_77 : decode cJ6_numberOfTrailingZeros_0f7a4 77 = .ok (.iushr, 1) := by decide +kernel
theorem dJ6_numberOfTrailingZeros_0f7a4_78 : decode cJ6_numberOfTrailingZeros_0f7a4 78 = .ok (.iadd, 1) := by decide +kernel
theorem dJ6_numberOfTrailingZeros_0f7a4_79 : decode cJ6_numberOfTrailingZeros_0f7a4 79 = .ok (.ireturn, 1) := by decide +kernel
abbrev rm_J6_numberOfTrailingZeros_0f7a4 : Room := { frames := 0, cells := 0, slots := 0, locals := 0 }
noncomputable def f_J6_numberOfTrailingZeros_0f7a4_b74 (N : Nat) (x0 : Int32) (x1 : Int32) (σ : ZS) : Option (Int32 × ZS) := some (x1 + ((x0.toUInt32 >>> ((1 : Int32).toUInt32 &&& Int32.toUInt32 31)).toInt32), σ)
noncomputable def f_J6_numberOfTrailingZeros_0f7a4_b62 (N : Nat) (x0 : Int32) (x1 : Int32) (σ : ZS) : Option (Int32 × ZS) := (if x0 ≤ (4 : Int32) then f_J6_numberOfTrailingZeros_0f7a4_b74 N x0 x1 σ else bd (x1 + (2 : Int32)) fun v7 => bd ((x0.toUInt32 >>> ((2 : Int32).toUInt32 &&& Int32.toUInt32 31)).toInt32) fun v8 => f_J6_numberOfTrailingZeros_0f7a4_b74 N v8 v7 σ)
noncomputable def f_J6_numberOfTrailingZeros_0f7a4_b49 (N : Nat) (x0 : Int32) (x1 : Int32) (σ : ZS) : Option (Int32 × ZS) := (if x0 ≤ (16 : Int32) then f_J6_numberOfTrailingZeros_0f7a4_b62 N x0 x1 σ else bd (x1 + (4 : Int32)) fun v9 => bd ((x0.toUInt32 >>> ((4 : Int32).toUInt32 &&& Int32.toUInt32 31)).toInt32) fun v10 => f_J6_numberOfTrailingZeros_0f7a4_b62 N v10 v9 σ)
noncomputable def f_J6_numberOfTrailingZeros_0f7a4_b34 (N : Nat) (x0 : Int32) (x1 : Int32) (σ : ZS) : Option (Int32 × ZS) := (if x0 ≤ (256 : Int32) then f_J6_numberOfTrailingZeros_0f7a4_b49 N x0 x1 σ else bd (x1 + (8 : Int32)) fun v11 => bd ((x0.toUInt32 >>> ((8 : Int32).toUInt32 &&& Int32.toUInt32 31)).toInt32) fun v12 => f_J6_numberOfTrailingZeros_0f7a4_b49 N v12 v11 σ)
noncomputable def f_J6_numberOfTrailingZeros_0f7a4 (N : Nat) (x0 : Int32) (σ : ZS) : Option (Int32 × ZS) := bd ((x0 ^^^ (-1 : Int32)) &&& (x0 - (1 : Int32))) fun v1 => (if 0 < v1 then (if v1 ≤ (65536 : Int32) then f_J6_numberOfTrailingZeros_0f7a4_b34 N v1 (1 : Int32) σ else bd ((1 : Int32) + (16 : Int32)) fun v13 => bd ((v1.toUInt32 >>> ((16 : Int32).toUInt32 &&& Int32.toUInt32 31)).toInt32) fun v14 => f_J6_numberOfTrailingZeros_0f7a4_b34 N v14 v13 σ) else some (v1 &&& (32 : Int32), σ))
set_option maxHeartbeats 4000000 in
set_option maxRecDepth 100000 in
theorem k_J6_numberOfTrailingZeros_0f7a4_b74 {l : Launch} {Y : ZY} {G : ZG} {r : Int32} {σ' : ZS} (h : zOk (l, rm_J6_numberOfTrailingZeros_0f7a4, 2, 0, 0) Y G cJ6_numberOfTrailingZeros_0f7a4 RJ6 (some .int)) (hq : zRet (l, rm_J6_numberOfTrailingZeros_0f7a4, 2, 0, 0) Y G (some (.int r)) σ') (N : Nat) (x0 : Int32) (x1 : Int32) (σ : ZS) (hf : f_J6_numberOfTrailingZeros_0f7a4_b74 N x0 x1 σ = some (r, σ')) : Z (l, rm_J6_numberOfTrailingZeros_0f7a4, 2, 0, 0) Y G σ [(0, .int x0), (1, .int x1)] [] 74 := by
  rw [f_J6_numberOfTrailingZeros_0f7a4_b74] at hf
  refine z_iload_n h dJ6_numberOfTrailingZeros_0f7a4_74 rfl 1 rfl ?_
  refine z_iload_n h dJ6_numberOfTrailingZeros_0f7a4_75 rfl 0 rfl ?_
  refine z_iconst h (v := (1 : Int32)) dJ6_numberOfTrailingZeros_0f7a4_76 ic_1 ?_
  refine z_iushr h dJ6_numberOfTrailingZeros_0f7a4_77 ?_
  refine z_iadd h dJ6_numberOfTrailingZeros_0f7a4_78 ?_
  exact z_iret h (rt_I hf hq) dJ6_numberOfTrailingZeros_0f7a4_79
set_option maxHeartbeats 4000000 in
set_option maxRecDepth 100000 in
theorem k_J6_numberOfTrailingZeros_0f7a4_b62 {l : Launch} {Y : ZY} {G : ZG} {r : Int32} {σ' : ZS} (h : zOk (l, rm_J6_numberOfTrailingZeros_0f7a4, 2, 0, 0) Y G cJ6_numberOfTrailingZeros_0f7a4 RJ6 (some .int)) (hq : zRet (l, rm_J6_numberOfTrailingZeros_0f7a4, 2, 0, 0) Y G (some (.int r)) σ') (N : Nat) (x0 : Int32) (x1 : Int32) (σ : ZS) (hf : f_J6_numberOfTrailingZeros_0f7a4_b62 N x0 x1 σ = some (r, σ')) : Z (l, rm_J6_numberOfTrailingZeros_0f7a4, 2, 0, 0) Y G σ [(0, .int x0), (1, .int x1)] [] 62 := by
  rw [f_J6_numberOfTrailingZeros_0f7a4_b62] at hf
  refine z_iload_n h dJ6_numberOfTrailingZeros_0f7a4_62 rfl 0 rfl ?_
  refine z_iconst h (v := (4 : Int32)) dJ6_numberOfTrailingZeros_0f7a4_63 ic_4 ?_
  refine z_icmp_le h (tgt := 74) dJ6_numberOfTrailingZeros_0f7a4_64 (by decide) (fun g6 => ?_) (fun g6 => ?_)
  · have hf := it_pos g6 hf
    exact z_sub [0, 1] rfl (k_J6_numberOfTrailingZeros_0f7a4_b74 h hq N x0 x1 _ hf)
  · have hf := it_neg g6 hf
    obtain ⟨v7, ev7, hf⟩ := bd_ex hf
    refine z_iinc h (v := v7) (lv' := [(1, .int v7), (0, .int x0)]) dJ6_numberOfTrailingZeros_0f7a4_67 1 rfl (by rw [ev7]; rfl) rfl rfl ?_
    refine z_iload_n h dJ6_numberOfTrailingZeros_0f7a4_70 rfl 1 rfl ?_
    refine z_iconst h (v := (2 : Int32)) dJ6_numberOfTrailingZeros_0f7a4_71 ic_2 ?_
    refine z_iushr h dJ6_numberOfTrailingZeros_0f7a4_72 ?_
    refine z_topI (fun v8 ev8 => ?_)
    have hf := bd_to ev8 hf
    refine z_istore_n h dJ6_numberOfTrailingZeros_0f7a4_73 rfl (lv' := [(0, .int v8), (1, .int v7)]) rfl rfl ?_
    exact z_sub [0, 1] rfl (k_J6_numberOfTrailingZeros_0f7a4_b74 h hq N v8 v7 _ hf)
set_option maxHeartbeats 4000000 in
set_option maxRecDepth 100000 in
theorem k_J6_numberOfTrailingZeros_0f7a4_b49 {l : Launch} {Y : ZY} {G : ZG} {r : Int32} {σ' : ZS} (h : zOk (l, rm_J6_numberOfTrailingZeros_0f7a4, 2, 0, 0) Y G cJ6_numberOfTrailingZeros_0f7a4 RJ6 (some .int)) (hq : zRet (l, rm_J6_numberOfTrailingZeros_0f7a4, 2, 0, 0) Y G (some (.int r)) σ') (N : Nat) (x0 : Int32) (x1 : Int32) (σ : ZS) (hf : f_J6_numberOfTrailingZeros_0f7a4_b49 N x0 x1 σ = some (r, σ')) : Z (l, rm_J6_numberOfTrailingZeros_0f7a4, 2, 0, 0) Y G σ [(0, .int x0), (1, .int x1)] [] 49 := by
  rw [f_J6_numberOfTrailingZeros_0f7a4_b49] at hf
  refine z_iload_n h dJ6_numberOfTrailingZeros_0f7a4_49 rfl 0 rfl ?_
  refine z_bipush h (v := (16 : Int32)) dJ6_numberOfTrailingZeros_0f7a4_50 bp_16 ?_
  refine z_icmp_le h (tgt := 62) dJ6_numberOfTrailingZeros_0f7a4_52 (by decide) (fun g5 => ?_) (fun g5 => ?_)
  · have hf := it_pos g5 hf
    exact z_sub [0, 1] rfl (k_J6_numberOfTrailingZeros_0f7a4_b62 h hq N x0 x1 _ hf)
  · have hf := it_neg g5 hf
    obtain ⟨v9, ev9, hf⟩ := bd_ex hf
    refine z_iinc h (v := v9) (lv' := [(1, .int v9), (0, .int x0)]) dJ6_numberOfTrailingZeros_0f7a4_55 1 rfl (by rw [ev9]; rfl) rfl rfl ?_
    refine z_iload_n h dJ6_numberOfTrailingZeros_0f7a4_58 rfl 1 rfl ?_
    refine z_iconst h (v := (4 : Int32)) dJ6_numberOfTrailingZeros_0f7a4_59 ic_4 ?_
    refine z_iushr h dJ6_numberOfTrailingZeros_0f7a4_60 ?_
    refine z_topI (fun v10 ev10 => ?_)
    have hf := bd_to ev10 hf
    refine z_istore_n h dJ6_numberOfTrailingZeros_0f7a4_61 rfl (lv' := [(0, .int v10), (1, .int v9)]) rfl rfl ?_
    exact z_sub [0, 1] rfl (k_J6_numberOfTrailingZeros_0f7a4_b62 h hq N v10 v9 _ hf)
set_option maxHeartbeats 4000000 in
set_option maxRecDepth 100000 in
theorem k_J6_numberOfTrailingZeros_0f7a4_b34 {l : Launch} {Y : ZY} {G : ZG} {r : Int32} {σ' : ZS} (h : zOk (l, rm_J6_numberOfTrailingZeros_0f7a4, 2, 0, 0) Y G cJ6_numberOfTrailingZeros_0f7a4 RJ6 (some .int)) (hq : zRet (l, rm_J6_numberOfTrailingZeros_0f7a4, 2, 0, 0) Y G (some (.int r)) σ') (N : Nat) (x0 : Int32) (x1 : Int32) (σ : ZS) (hf : f_J6_numberOfTrailingZeros_0f7a4_b34 N x0 x1 σ = some (r, σ')) : Z (l, rm_J6_numberOfTrailingZeros_0f7a4, 2, 0, 0) Y G σ [(0, .int x0), (1, .int x1)] [] 34 := by
  rw [f_J6_numberOfTrailingZeros_0f7a4_b34] at hf
  refine z_iload_n h dJ6_numberOfTrailingZeros_0f7a4_34 rfl 0 rfl ?_
  refine z_sipush h (v := (256 : Int32)) dJ6_numberOfTrailingZeros_0f7a4_35 sp_256 ?_
  refine z_icmp_le h (tgt := 49) dJ6_numberOfTrailingZeros_0f7a4_38 (by decide) (fun g4 => ?_) (fun g4 => ?_)
  · have hf := it_pos g4 hf
    exact z_sub [0, 1] rfl (k_J6_numberOfTrailingZeros_0f7a4_b49 h hq N x0 x1 _ hf)
  · have hf := it_neg g4 hf
    obtain ⟨v11, ev11, hf⟩ := bd_ex hf
    refine z_iinc h (v := v11) (lv' := [(1, .int v11), (0, .int x0)]) dJ6_numberOfTrailingZeros_0f7a4_41 1 rfl (by rw [ev11]; rfl) rfl rfl ?_
    refine z_iload_n h dJ6_numberOfTrailingZeros_0f7a4_44 rfl 1 rfl ?_
    refine z_bipush h (v := (8 : Int32)) dJ6_numberOfTrailingZeros_0f7a4_45 bp_8 ?_
    refine z_iushr h dJ6_numberOfTrailingZeros_0f7a4_47 ?_
    refine z_topI (fun v12 ev12 => ?_)
    have hf := bd_to ev12 hf
    refine z_istore_n h dJ6_numberOfTrailingZeros_0f7a4_48 rfl (lv' := [(0, .int v12), (1, .int v11)]) rfl rfl ?_
    exact z_sub [0, 1] rfl (k_J6_numberOfTrailingZeros_0f7a4_b49 h hq N v12 v11 _ hf)
set_option maxHeartbeats 4000000 in
set_option maxRecDepth 100000 in
theorem c_J6_numberOfTrailingZeros_0f7a4 (l : Launch) (G : ZG) {N : Nat} {x0 : Int32} {σ σ' : ZS} {r : Int32} (hf : f_J6_numberOfTrailingZeros_0f7a4 N x0 σ = some (r, σ')) : zMet l G yJ6_numberOfTrailingZeros_0f7a4 cJ6_numberOfTrailingZeros_0f7a4 2 (some .int) rm_J6_numberOfTrailingZeros_0f7a4 [.int x0] σ (some (.int r)) σ' := by
  refine z_met (by decide +kernel) rfl (fun Y h hq => ?_)
  have h : zOk (l, rm_J6_numberOfTrailingZeros_0f7a4, 2, 0, 0) Y G cJ6_numberOfTrailingZeros_0f7a4 RJ6 (some .int) := h
  rw [f_J6_numberOfTrailingZeros_0f7a4] at hf
  refine z_sub (lv' := [(0, .int x0)]) [0] rfl ?_
  refine z_iload_n h dJ6_numberOfTrailingZeros_0f7a4_0 rfl 0 rfl ?_
  refine z_iconst h (v := (-1 : Int32)) dJ6_numberOfTrailingZeros_0f7a4_1 ic_m1 ?_
  refine z_ixor h dJ6_numberOfTrailingZeros_0f7a4_2 ?_
  refine z_iload_n h dJ6_numberOfTrailingZeros_0f7a4_3 rfl 0 rfl ?_
  refine z_iconst h (v := (1 : Int32)) dJ6_numberOfTrailingZeros_0f7a4_4 ic_1 ?_
  refine z_isub h dJ6_numberOfTrailingZeros_0f7a4_5 ?_
  refine z_iand h dJ6_numberOfTrailingZeros_0f7a4_6 ?_
  refine z_topI (fun v1 ev1 => ?_)
  have hf := bd_to ev1 hf
  refine z_istore_n h dJ6_numberOfTrailingZeros_0f7a4_7 rfl (lv' := [(0, .int v1)]) rfl rfl ?_
  refine z_iload_n h dJ6_numberOfTrailingZeros_0f7a4_8 rfl 0 rfl ?_
  refine z_if_gt h (tgt := 17) dJ6_numberOfTrailingZeros_0f7a4_9 (by decide) (fun g2 => ?_) (fun g2 => ?_)
  · have hf := it_pos g2 hf
    refine z_iconst h (v := (1 : Int32)) dJ6_numberOfTrailingZeros_0f7a4_17 ic_1 ?_
    refine z_istore_n h dJ6_numberOfTrailingZeros_0f7a4_18 rfl (lv' := [(1, .int (1 : Int32)), (0, .int v1)]) rfl rfl ?_
    refine z_iload_n h dJ6_numberOfTrailingZeros_0f7a4_19 rfl 1 rfl ?_
    refine z_ldcw h (v := (65536 : Int32)) wd_379 dJ6_numberOfTrailingZeros_0f7a4_20 ?_
    refine z_icmp_le h (tgt := 34) dJ6_numberOfTrailingZeros_0f7a4_23 (by decide) (fun g3 => ?_) (fun g3 => ?_)
    · have hf := it_pos g3 hf
      exact z_sub [1, 0] rfl (k_J6_numberOfTrailingZeros_0f7a4_b34 h hq N v1 (1 : Int32) _ hf)
    · have hf := it_neg g3 hf
      obtain ⟨v13, ev13, hf⟩ := bd_ex hf
      refine z_iinc h (v := v13) (lv' := [(1, .int v13), (0, .int v1)]) dJ6_numberOfTrailingZeros_0f7a4_26 0 rfl (by rw [ev13]; rfl) rfl rfl ?_
      refine z_iload_n h dJ6_numberOfTrailingZeros_0f7a4_29 rfl 1 rfl ?_
      refine z_bipush h (v := (16 : Int32)) dJ6_numberOfTrailingZeros_0f7a4_30 bp_16 ?_
      refine z_iushr h dJ6_numberOfTrailingZeros_0f7a4_32 ?_
      refine z_topI (fun v14 ev14 => ?_)
      have hf := bd_to ev14 hf
      refine z_istore_n h dJ6_numberOfTrailingZeros_0f7a4_33 rfl (lv' := [(0, .int v14), (1, .int v13)]) rfl rfl ?_
      exact z_sub [0, 1] rfl (k_J6_numberOfTrailingZeros_0f7a4_b34 h hq N v14 v13 _ hf)
  · have hf := it_neg g2 hf
    refine z_iload_n h dJ6_numberOfTrailingZeros_0f7a4_12 rfl 0 rfl ?_
    refine z_bipush h (v := (32 : Int32)) dJ6_numberOfTrailingZeros_0f7a4_13 bp_32 ?_
    refine z_iand h dJ6_numberOfTrailingZeros_0f7a4_15 ?_
    exact z_iret h (rt_I hf hq) dJ6_numberOfTrailingZeros_0f7a4_16
theorem dJ7_fill_53178_0 : decode cJ7_fill_53178 0 = .ok (.iconst 0, 1) := by decide +kernel
theorem dJ7_fill_53178_1 : decode cJ7_fill_53178 1 = .ok (.istore_n 2, 1) := by decide +kernel
theorem dJ7_fill_53178_2 : decode cJ7_fill_53178 2 = .ok (.aload_n 0, 1) := by decide +kernel
theorem dJ7_fill_53178_3 : decode cJ7_fill_53178 3 = .ok (.arraylength, 1) := by decide +kernel
theorem dJ7_fill_53178_4 : decode cJ7_fill_53178 4 = .ok (.istore_n 3, 1) := by decide +kernel
theorem dJ7_fill_53178_5 : decode cJ7_fill_53178 5 = .ok (.iload_n 2, 1) := by decide +kernel
theorem dJ7_fill_53178_6 : decode cJ7_fill_53178 6 = .ok (.iload_n 3, 1) := by decide +kernel
theorem dJ7_fill_53178_7 : decode cJ7_fill_53178 7 = .ok (.if_icmp .ge 13, 3) := by decide +kernel
theorem dJ7_fill_53178_10 : decode cJ7_fill_53178 10 = .ok (.aload_n 0, 1) := by decide +kernel
theorem dJ7_fill_53178_11 : decode cJ7_fill_53178 11 = .ok (.iload_n 2, 1) := by decide +kernel
theorem dJ7_fill_53178_12 : decode cJ7_fill_53178 12 = .ok (.iload_n 1, 1) := by decide +kernel
theorem dJ7_fill_53178_13 : decode cJ7_fill_53178 13 = .ok (.iastore, 1) := by decide +kernel
theorem dJ7_fill_53178_14 : decode cJ7_fill_53178 14 = .ok (.iinc 2 1, 3) := by decide +kernel
theorem dJ7_fill_53178_17 : decode cJ7_fill_53178 17 = .ok (.goto (-12), 3) := by decide +kernel
theorem dJ7_fill_53178_20 : decode cJ7_fill_53178 20 = .ok (.return_, 1) := by decide +kernel
abbrev rm_J7_fill_53178 : Room := { frames := 0, cells := 0, slots := 0, locals := 0 }
noncomputable def f_J7_fill_53178_h5 (N : Nat) (a0 : Nat) (x1 : Int32) (x3 : Int32) : Nat → Int32 → ZS → Option (Unit × ZS)
  | 0, _, _ => none
  | n + 1, x2, σ => (if x3 ≤ x2 then some ((), σ) else ck (tg a0 == 1) (ck (inb x2 (ln a0)) (bd (sI σ a0 (x2.toNatClampNeg) x1) fun σ6 => bd (x2 + (1 : Int32)) fun v7 => f_J7_fill_53178_h5 N a0 x1 x3 n v7 σ6)))
noncomputable def f_J7_fill_53178 (N : Nat) (a0 : Nat) (x1 : Int32) (σ : ZS) : Option (Unit × ZS) := ck (isa a0) (bd (Int32.ofNat (ln a0)) fun v2 => f_J7_fill_53178_h5 N a0 x1 v2 N (0 : Int32) σ)
set_option maxHeartbeats 4000000 in
set_option maxRecDepth 100000 in
theorem k_J7_fill_53178_h5 {l : Launch} {Y : ZY} {G : ZG} {σ' : ZS} (h : zOk (l, rm_J7_fill_53178, 4, 0, 0) Y G cJ7_fill_53178 RJ7 none) (hq : zRet (l, rm_J7_fill_53178, 4, 0, 0) Y G none σ') (N : Nat) (a0 : Nat) (x1 : Int32) (x3 : Int32) : ∀ (n : Nat) (x2 : Int32) (σ : ZS), f_J7_fill_53178_h5 N a0 x1 x3 n x2 σ = some ((), σ') → Z (l, rm_J7_fill_53178, 4, 0, 0) Y G σ [(0, .ref (G.1 a0)), (1, .int x1), (2, .int x2), (3, .int x3)] [] 5 := by
  intro n
  induction n with
  | zero =>
    intro x2 σ hf
    rw [f_J7_fill_53178_h5] at hf
    cases hf
  | succ n ih =>
    intro x2 σ hf
    rw [f_J7_fill_53178_h5] at hf
    refine z_iload_n h dJ7_fill_53178_5 rfl 2 rfl ?_
    refine z_iload_n h dJ7_fill_53178_6 rfl 3 rfl ?_
    refine z_icmp_ge h (tgt := 20) dJ7_fill_53178_7 (by decide) (fun g3 => ?_) (fun g3 => ?_)
    · have hf := it_pos g3 hf
      exact z_vret h (rt_V hf hq) dJ7_fill_53178_20
    · have hf := it_neg g3 hf
      refine z_aload_n h dJ7_fill_53178_10 rfl 0 rfl ?_
      refine z_iload_n h dJ7_fill_53178_11 rfl 2 rfl ?_
      refine z_iload_n h dJ7_fill_53178_12 rfl 1 rfl ?_
      obtain ⟨g4, hf⟩ := ck_out hf
      obtain ⟨g5, hf⟩ := ck_out hf
      refine z_iast h (eq_of_beq g4) rfl g5 dJ7_fill_53178_13 ?_
      refine z_gen (fun σ6 eσ6 => ?_)
      have hf := bd_to eσ6 hf
      obtain ⟨v7, ev7, hf⟩ := bd_ex hf
      refine z_iinc h (v := v7) (lv' := [(2, .int v7), (0, .ref (G.1 a0)), (1, .int x1), (3, .int x3)]) dJ7_fill_53178_14 2 rfl (by rw [ev7]; rfl) rfl rfl ?_
      refine z_goto h (tgt := 5) dJ7_fill_53178_17 (by decide) ?_
      exact z_sub [1, 2, 0, 3] rfl (ih _ _ hf)
set_option maxHeartbeats 4000000 in
set_option maxRecDepth 100000 in
theorem c_J7_fill_53178 (l : Launch) (G : ZG) {N : Nat} {a0 : Nat} {x1 : Int32} {σ σ' : ZS} {r : Unit} (hf : f_J7_fill_53178 N a0 x1 σ = some (r, σ')) : zMet l G yJ7_fill_53178 cJ7_fill_53178 4 none rm_J7_fill_53178 [.ref (G.1 a0), .int x1] σ none σ' := by
  refine z_met (by decide +kernel) rfl (fun Y h hq => ?_)
  have h : zOk (l, rm_J7_fill_53178, 4, 0, 0) Y G cJ7_fill_53178 RJ7 none := h
  rw [f_J7_fill_53178] at hf
  refine z_sub (lv' := [(0, .ref (G.1 a0)), (1, .int x1)]) [0, 1] rfl ?_
  refine z_iconst h (v := (0 : Int32)) dJ7_fill_53178_0 ic_0 ?_
  refine z_istore_n h dJ7_fill_53178_1 rfl (lv' := [(2, .int (0 : Int32)), (0, .ref (G.1 a0)), (1, .int x1)]) rfl rfl ?_
  refine z_aload_n h dJ7_fill_53178_2 rfl 1 rfl ?_
  obtain ⟨g1, hf⟩ := ck_out hf
  refine z_alen h rfl (isa_of g1) rfl dJ7_fill_53178_3 ?_
  refine z_topI (fun v2 ev2 => ?_)
  have hf := bd_to ev2 hf
  refine z_istore_n h dJ7_fill_53178_4 rfl (lv' := [(3, .int v2), (2, .int (0 : Int32)), (0, .ref (G.1 a0)), (1, .int x1)]) rfl rfl ?_
  exact z_sub [2, 3, 1, 0] rfl (k_J7_fill_53178_h5 h hq N a0 x1 v2 _ _ _ hf)
theorem dJ7_fill_d0a16_0 : decode cJ7_fill_d0a16 0 = .ok (.iconst 0, 1) := by decide +kernel
theorem dJ7_fill_d0a16_1 : decode cJ7_fill_d0a16 1 = .ok (.istore_n 3, 1) := by decide +kernel
theorem dJ7_fill_d0a16_2 : decode cJ7_fill_d0a16 2 = .ok (.aload_n 0, 1) := by decide +kernel
theorem dJ7_fill_d0a16_3 : decode cJ7_fill_d0a16 3 = .ok (.arraylength, 1) := by decide +kernel
theorem dJ7_fill_d0a16_4 : decode cJ7_fill_d0a16 4 = .ok (.istore 4, 2) := by decide +kernel
theorem dJ7_fill_d0a16_6 : decode cJ7_fill_d0a16 6 = .ok (.iload_n 3, 1) := by decide +kernel
theorem dJ7_fill_d0a16_7 : decode cJ7_fill_d0a16 7 = .ok (.iload 4, 2) := by decide +kernel
theorem dJ7_fill_d0a16_9 : decode cJ7_fill_d0a16 9 = .ok (.if_icmp .ge 13, 3) := by decide +kernel
theorem dJ7_fill_d0a16_12 : decode cJ7_fill_d0a16 12 = .ok (.aload_n 0, 1) := by decide +kernel
theorem dJ7_fill_d0a16_13 : decode cJ7_fill_d0a16 13 = .ok (.iload_n 3, 1) := by decide +kernel
theorem dJ7_fill_d0a16_14 : decode cJ7_fill_d0a16 14 = .ok (.lload_n 1, 1) := by decide +kernel
theorem dJ7_fill_d0a16_15 : decode cJ7_fill_d0a16 15 = .ok (.lastore, 1) := by decide +kernel
theorem dJ7_fill_d0a16_16 : decode cJ7_fill_d0a16 16 = .ok (.iinc 3 1, 3) := by decide +kernel
theorem dJ7_fill_d0a16_19 : decode cJ7_fill_d0a16 19 = .ok (.goto (-13), 3) := by decide +kernel
theorem dJ7_fill_d0a16_22 : decode cJ7_fill_d0a16 22 = .ok (.return_, 1) := by decide +kernel
abbrev rm_J7_fill_d0a16 : Room := { frames := 0, cells := 0, slots := 0, locals := 0 }
noncomputable def f_J7_fill_d0a16_h6 (N : Nat) (a0 : Nat) (x1 : Int64) (x4 : Int32) : Nat → Int32 → ZS → Option (Unit × ZS)
  | 0, _, _ => none
  | n + 1, x3, σ => (if x4 ≤ x3 then some ((), σ) else ck (tg a0 == 2) (ck (inb x3 (ln a0)) (bd (sJ σ a0 (x3.toNatClampNeg) x1) fun σ6 => bd (x3 + (1 : Int32)) fun v7 => f_J7_fill_d0a16_h6 N a0 x1 x4 n v7 σ6)))
noncomputable def f_J7_fill_d0a16 (N : Nat) (a0 : Nat) (x1 : Int64) (σ : ZS) : Option (Unit × ZS) := ck (isa a0) (bd (Int32.ofNat (ln a0)) fun v2 => f_J7_fill_d0a16_h6 N a0 x1 v2 N (0 : Int32) σ)
set_option maxHeartbeats 4000000 in
set_option maxRecDepth 100000 in
theorem k_J7_fill_d0a16_h6 {l : Launch} {Y : ZY} {G : ZG} {σ' : ZS} (h : zOk (l, rm_J7_fill_d0a16, 5, 0, 0) Y G cJ7_fill_d0a16 RJ7 none) (hq : zRet (l, rm_J7_fill_d0a16, 5, 0, 0) Y G none σ') (N : Nat) (a0 : Nat) (x1 : Int64) (x4 : Int32) : ∀ (n : Nat) (x3 : Int32) (σ : ZS), f_J7_fill_d0a16_h6 N a0 x1 x4 n x3 σ = some ((), σ') → Z (l, rm_J7_fill_d0a16, 5, 0, 0) Y G σ [(0, .ref (G.1 a0)), (1, .long x1), (3, .int x3), (4, .int x4)] [] 6 := by
  intro n
  induction n with
  | zero =>
    intro x3 σ hf
    rw [f_J7_fill_d0a16_h6] at hf
    cases hf
  | succ n ih =>
    intro x3 σ hf
    rw [f_J7_fill_d0a16_h6] at hf
    refine z_iload_n h dJ7_fill_d0a16_6 rfl 2 rfl ?_
    refine z_iload h dJ7_fill_d0a16_7 3 rfl ?_
    refine z_icmp_ge h (tgt := 22) dJ7_fill_d0a16_9 (by decide) (fun g3 => ?_) (fun g3 => ?_)
    · have hf := it_pos g3 hf
      exact z_vret h (rt_V hf hq) dJ7_fill_d0a16_22
    · have hf := it_neg g3 hf
      refine z_aload_n h dJ7_fill_d0a16_12 rfl 0 rfl ?_
      refine z_iload_n h dJ7_fill_d0a16_13 rfl 2 rfl ?_
      refine z_lload_n h dJ7_fill_d0a16_14 rfl 1 rfl ?_
      obtain ⟨g4, hf⟩ := ck_out hf
      obtain ⟨g5, hf⟩ := ck_out hf
      refine z_last h (eq_of_beq g4) rfl g5 dJ7_fill_d0a16_15 ?_
      refine z_gen (fun σ6 eσ6 => ?_)
      have hf := bd_to eσ6 hf
      obtain ⟨v7, ev7, hf⟩ := bd_ex hf
      refine z_iinc h (v := v7) (lv' := [(3, .int v7), (0, .ref (G.1 a0)), (1, .long x1), (4, .int x4)]) dJ7_fill_d0a16_16 2 rfl (by rw [ev7]; rfl) rfl rfl ?_
      refine z_goto h (tgt := 6) dJ7_fill_d0a16_19 (by decide) ?_
      exact z_sub [1, 2, 0, 3] rfl (ih _ _ hf)
set_option maxHeartbeats 4000000 in
set_option maxRecDepth 100000 in
theorem c_J7_fill_d0a16 (l : Launch) (G : ZG) {N : Nat} {a0 : Nat} {x1 : Int64} {σ σ' : ZS} {r : Unit} (hf : f_J7_fill_d0a16 N a0 x1 σ = some (r, σ')) : zMet l G yJ7_fill_d0a16 cJ7_fill_d0a16 5 none rm_J7_fill_d0a16 [.ref (G.1 a0), .long x1] σ none σ' := by
  refine z_met (by decide +kernel) rfl (fun Y h hq => ?_)
  have h : zOk (l, rm_J7_fill_d0a16, 5, 0, 0) Y G cJ7_fill_d0a16 RJ7 none := h
  rw [f_J7_fill_d0a16] at hf
  refine z_sub (lv' := [(0, .ref (G.1 a0)), (1, .long x1)]) [0, 1] rfl ?_
  refine z_iconst h (v := (0 : Int32)) dJ7_fill_d0a16_0 ic_0 ?_
  refine z_istore_n h dJ7_fill_d0a16_1 rfl (lv' := [(3, .int (0 : Int32)), (0, .ref (G.1 a0)), (1, .long x1)]) rfl rfl ?_
  refine z_aload_n h dJ7_fill_d0a16_2 rfl 1 rfl ?_
  obtain ⟨g1, hf⟩ := ck_out hf
  refine z_alen h rfl (isa_of g1) rfl dJ7_fill_d0a16_3 ?_
  refine z_topI (fun v2 ev2 => ?_)
  have hf := bd_to ev2 hf
  refine z_istore h dJ7_fill_d0a16_4 (lv' := [(4, .int v2), (3, .int (0 : Int32)), (0, .ref (G.1 a0)), (1, .long x1)]) rfl rfl ?_
  exact z_sub [2, 3, 1, 0] rfl (k_J7_fill_d0a16_h6 h hq N a0 x1 v2 _ _ _ hf)
theorem dJxf58ca_isNaN_12338_0 : decode cJxf58ca_isNaN_12338 0 = .ok (.fload_n 0, 1) := by decide +kernel
theorem dJxf58ca_isNaN_12338_1 : decode cJxf58ca_isNaN_12338 1 = .ok (.fload_n 0, 1) := by decide +kernel
theorem dJxf58ca_isNaN_12338_2 : decode cJxf58ca_isNaN_12338 2 = .ok (.fcmp .l, 1) := by decide +kernel
theorem dJxf58ca_isNaN_12338_3 : decode cJxf58ca_isNaN_12338 3 = .ok (.ifCond .eq 7, 3) := by decide +kernel
theorem dJxf58ca_isNaN_12338_6 : decode cJxf58ca_isNaN_12338 6 = .ok (.iconst 1, 1) := by decide +kernel
theorem dJxf58ca_isNaN_12338_7 : decode cJxf58ca_isNaN_12338 7 = .ok (.goto 4, 3) := by decide +kernel
theorem dJxf58ca_isNaN_12338_10 : decode cJxf58ca_isNaN_12338 10 = .ok (.iconst 0, 1) := by decide +kernel
theorem dJxf58ca_isNaN_12338_11 : decode cJxf58ca_isNaN_12338 11 = .ok (.ireturn, 1) := by decide +kernel
abbrev rm_Jxf58ca_isNaN_12338 : Room := { frames := 0, cells := 0, slots := 0, locals := 0 }
noncomputable def f_Jxf58ca_isNaN_12338 (N : Nat) (x0 : UInt32) (σ : ZS) : Option (Int32 × ZS) := (if (Op.cmpValue (FP.fcmp x0 x0) .l) = 0 then some ((0 : Int32), σ) else some ((1 : Int32), σ))
set_option maxHeartbeats 4000000 in
set_option maxRecDepth 100000 in
theorem c_Jxf58ca_isNaN_12338 (l : Launch) (G : ZG) {N : Nat} {x0 : UInt32} {σ σ' : ZS} {r : Int32} (hf : f_Jxf58ca_isNaN_12338 N x0 σ = some (r, σ')) : zMet l G yJxf58ca_isNaN_12338 cJxf58ca_isNaN_12338 1 (some .boolean) rm_Jxf58ca_isNaN_12338 [.float x0] σ (some (.int r)) σ' := by
  refine z_met (by decide +kernel) rfl (fun Y h hq => ?_)
  have h : zOk (l, rm_Jxf58ca_isNaN_12338, 1, 0, 0) Y G cJxf58ca_isNaN_12338 RJxf58ca (some .boolean) := h
  rw [f_Jxf58ca_isNaN_12338] at hf
  refine z_sub (lv' := [(0, .float x0)]) [0] rfl ?_
  refine z_fload_n h dJxf58ca_isNaN_12338_0 rfl 0 rfl ?_
  refine z_fload_n h dJxf58ca_isNaN_12338_1 rfl 0 rfl ?_
  refine z_fcmp h dJxf58ca_isNaN_12338_2 ?_
  refine z_if_eq h (tgt := 10) dJxf58ca_isNaN_12338_3 (by decide) (fun g1 => ?_) (fun g1 => ?_)
  · have hf := it_pos g1 hf
    refine z_iconst h (v := (0 : Int32)) dJxf58ca_isNaN_12338_10 ic_0 ?_
    exact z_zret h rfl (rt_I hf hq) dJxf58ca_isNaN_12338_11
  · have hf := it_neg g1 hf
    refine z_iconst h (v := (1 : Int32)) dJxf58ca_isNaN_12338_6 ic_1 ?_
    refine z_goto h (tgt := 11) dJxf58ca_isNaN_12338_7 (by decide) ?_
    exact z_zret h rfl (rt_I hf hq) dJxf58ca_isNaN_12338_11
theorem dJxf58ca_floatToIntBits_5c35a_0 : decode cJxf58ca_floatToIntBits_5c35a 0 = .ok (.fload_n 0, 1) := by decide +kernel
theorem dJxf58ca_floatToIntBits_5c35a_1 : decode cJxf58ca_floatToIntBits_5c35a 1 = .ok (.invokestatic 59, 3) := by decide +kernel
theorem dJxf58ca_floatToIntBits_5c35a_4 : decode cJxf58ca_floatToIntBits_5c35a 4 = .ok (.ifCond .ne 8, 3) := by decide +kernel
theorem dJxf58ca_floatToIntBits_5c35a_7 : decode cJxf58ca_floatToIntBits_5c35a 7 = .ok (.fload_n 0, 1) := by decide +kernel
theorem dJxf58ca_floatToIntBits_5c35a_8 : decode cJxf58ca_floatToIntBits_5c35a 8 = .ok (.invokestatic 74, 3) := by decide +kernel
theorem dJxf58ca_floatToIntBits_5c35a_11 : decode cJxf58ca_floatToIntBits_5c35a 11 = .ok (.ireturn, 1) := by decide +kernel
theorem dJxf58ca_floatToIntBits_5c35a_12 : decode cJxf58ca_floatToIntBits_5c35a 12 = .ok (.ldc 77, 2) := by decide +kernel
theorem dJxf58ca_floatToIntBits_5c35a_14 : decode cJxf58ca_floatToIntBits_5c35a 14 = .ok (.ireturn, 1) := by decide +kernel
abbrev rm_Jxf58ca_floatToIntBits_5c35a : Room := { frames := 2, cells := 0, slots := 0, locals := 64 }
noncomputable def f_Jxf58ca_floatToIntBits_5c35a (N : Nat) (x0 : UInt32) (σ : ZS) : Option (Int32 × ZS) := obd (f_Jxf58ca_isNaN_12338 N x0 σ) fun v1 σ2 => (if v1 = 0 then some (x0.toInt32, σ2) else some ((2143289344 : Int32), σ2))
set_option maxHeartbeats 4000000 in
set_option maxRecDepth 100000 in
theorem c_Jxf58ca_floatToIntBits_5c35a (l : Launch) (G : ZG) {N : Nat} {x0 : UInt32} {σ σ' : ZS} {r : Int32} (hf : f_Jxf58ca_floatToIntBits_5c35a N x0 σ = some (r, σ')) : zMet l G yJxf58ca_floatToIntBits_5c35a cJxf58ca_floatToIntBits_5c35a 1 (some .int) rm_Jxf58ca_floatToIntBits_5c35a [.float x0] σ (some (.int r)) σ' := by
  refine z_met (by decide +kernel) rfl (fun Y h hq => ?_)
  have h : zOk (l, rm_Jxf58ca_floatToIntBits_5c35a, 1, 0, 0) Y G cJxf58ca_floatToIntBits_5c35a RJxf58ca (some .int) := h
  rw [f_Jxf58ca_floatToIntBits_5c35a] at hf
  refine z_sub (lv' := [(0, .float x0)]) [0] rfl ?_
  refine z_fload_n h dJxf58ca_floatToIntBits_5c35a_0 rfl 0 rfl ?_
  obtain ⟨v1, σ2, e2, hf⟩ := obd_out hf
  refine z_cSv h (n := 1) (c_Jxf58ca_isNaN_12338 l G e2) rfl wd_733 wd_734 wd_726 wd_735 (by decide +kernel) ⟨rfl, rfl⟩ rfl rfl rfl dJxf58ca_floatToIntBits_5c35a_1 ⟨Nat.zero_le _, Nat.zero_le _⟩ ?_
  refine z_if_ne h (tgt := 12) dJxf58ca_floatToIntBits_5c35a_4 (by decide) (fun g3 => ?_) (fun g3 => ?_)
  · have hf := it_neg g3 hf
    refine z_ldc h (v := (2143289344 : Int32)) wd_732 dJxf58ca_floatToIntBits_5c35a_12 ?_
    exact z_iret h (rt_I hf hq) dJxf58ca_floatToIntBits_5c35a_14
  · have hf := it_pos g3 hf
    refine z_fload_n h dJxf58ca_floatToIntBits_5c35a_7 rfl 0 rfl ?_
    refine z_f2raw h wd_728 wd_729 wd_730 wd_731 rfl rfl dJxf58ca_floatToIntBits_5c35a_8 ?_
    exact z_iret h (rt_I hf hq) dJxf58ca_floatToIntBits_5c35a_11
theorem dX5_gcd_0 : decode cX5_gcd 0 = .ok (.lload_n 0, 1) := by decide +kernel
theorem dX5_gcd_1 : decode cX5_gcd 1 = .ok (.invokestatic 258, 3) := by decide +kernel
theorem dX5_gcd_4 : decode cX5_gcd 4 = .ok (.lstore 4, 2) := by decide +kernel
theorem dX5_gcd_6 : decode cX5_gcd 6 = .ok (.lload_n 2, 1) := by decide +kernel
theorem dX5_gcd_7 : decode cX5_gcd 7 = .ok (.invokestatic 258, 3) := by decide +kernel
theorem dX5_gcd_10 : decode cX5_gcd 10 = .ok (.lstore 6, 2) := by decide +kernel
theorem dX5_gcd_12 : decode cX5_gcd 12 = .ok (.iconst 0, 1) := by decide +kernel
theorem dX5_gcd_13 : decode cX5_gcd 13 = .ok (.istore 8, 2) := by decide +kernel
theorem dX5_gcd_15 : decode cX5_gcd 15 = .ok (.iload 8, 2) := by decide +kernel
theorem dX5_gcd_17 : decode cX5_gcd 17 = .ok (.bipush 100, 2) := by decide +kernel
theorem dX5_gcd_19 : decode cX5_gcd 19 = .ok (.if_icmp .ge 31, 3) := by decide +kernel
theorem dX5_gcd_22 : decode cX5_gcd 22 = .ok (.lload 6, 2) := by decide +kernel
theorem dX5_gcd_24 : decode cX5_gcd 24 = .ok (.lconst 0, 1) := by decide +kernel
theorem dX5_gcd_25 : decode cX5_gcd 25 = .ok (.lcmp, 1) := by decide +kernel
theorem dX5_gcd_26 : decode cX5_gcd 26 = .ok (.ifCond .eq 24, 3) := by decide +kernel
theorem dX5_gcd_29 : decode cX5_gcd 29 = .ok (.lload 4, 2) := by decide +kernel
theorem dX5_gcd_31 : decode cX5_gcd 31 = .ok (.lload 6, 2) := by decide +kernel
theorem dX5_gcd_33 : decode cX5_gcd 33 = .ok (.lrem, 1) := by decide +kernel
theorem dX5_gcd_34 : decode cX5_gcd 34 = .ok (.lstore 9, 2) := by decide +kernel
theorem dX5_gcd_36 : decode cX5_gcd 36 = .ok (.lload 6, 2) := by decide +kernel
theorem dX5_gcd_38 : decode cX5_gcd 38 = .ok (.lstore 4, 2) := by decide +kernel
theorem dX5_gcd_40 : decode cX5_gcd 40 = .ok (.lload 9, 2) := by decide +kernel
theorem dX5_gcd_42 : decode cX5_gcd 42 = .ok (.lstore 6, 2) := by decide +kernel
theorem dX5_gcd_44 : decode cX5_gcd 44 = .ok (.iinc 8 1, 3) := by decide +kernel
theorem dX5_gcd_47 : decode cX5_gcd 47 = .ok (.goto (-32), 3) := by decide +kernel
theorem dX5_gcd_50 : decode cX5_gcd 50 = .ok (.lload 4, 2) := by decide +kernel
theorem dX5_gcd_52 : decode cX5_gcd 52 = .ok (.lreturn, 1) := by decide +kernel
abbrev rm_X5_gcd : Room := { frames := 1, cells := 0, slots := 0, locals := 29 }
noncomputable def f_X5_gcd_h15 (N : Nat) : Nat → Int64 → Int64 → Int32 → ZS → Option (Int64 × ZS)
  | 0, _, _, _, _ => none
  | n + 1, x4, x6, x8, σ => (if (100 : Int32) ≤ x8 then some (x4, σ) else (if x6 = (0 : Int64) then some (x4, σ) else ck (!(x6 == 0)) (bd (lrm x4 x6) fun v8 => bd (x8 + (1 : Int32)) fun v9 => f_X5_gcd_h15 N n x6 v8 v9 σ)))
noncomputable def f_X5_gcd (N : Nat) (x0 : Int64) (x2 : Int64) (σ : ZS) : Option (Int64 × ZS) := obd (f_ABS N x0 σ) fun v1 σ2 => obd (f_ABS N x2 σ2) fun v3 σ4 => f_X5_gcd_h15 N N v1 v3 (0 : Int32) σ4
set_option maxHeartbeats 4000000 in
set_option maxRecDepth 100000 in
theorem k_X5_gcd_h15 {l : Launch} {Y : ZY} {G : ZG} {r : Int64} {σ' : ZS} (h : zOk (l, rm_X5_gcd, 11, 0, 0) Y G cX5_gcd RX5 (some .long)) (hq : zRet (l, rm_X5_gcd, 11, 0, 0) Y G (some (.long r)) σ') (N : Nat) : ∀ (n : Nat) (x4 : Int64) (x6 : Int64) (x8 : Int32) (σ : ZS), f_X5_gcd_h15 N n x4 x6 x8 σ = some (r, σ') → Z (l, rm_X5_gcd, 11, 0, 0) Y G σ [(4, .long x4), (6, .long x6), (8, .int x8)] [] 15 := by
  intro n
  induction n with
  | zero =>
    intro x4 x6 x8 σ hf
    rw [f_X5_gcd_h15] at hf
    cases hf
  | succ n ih =>
    intro x4 x6 x8 σ hf
    rw [f_X5_gcd_h15] at hf
    refine z_iload h dX5_gcd_15 2 rfl ?_
    refine z_bipush h (v := (100 : Int32)) dX5_gcd_17 bp_100 ?_
    refine z_icmp_ge h (tgt := 50) dX5_gcd_19 (by decide) (fun g5 => ?_) (fun g5 => ?_)
    · have hf := it_pos g5 hf
      refine z_lload h dX5_gcd_50 0 rfl ?_
      exact z_lret h (rt_J hf hq) dX5_gcd_52
    · have hf := it_neg g5 hf
      refine z_lload h dX5_gcd_22 1 rfl ?_
      refine z_lconst h (v := (0 : Int64)) dX5_gcd_24 lc_0 ?_
      refine z_lif_eq h (tgt := 50) dX5_gcd_25 dX5_gcd_26 (by decide) (fun g6 => ?_) (fun g6 => ?_)
      · have hf := it_pos g6 hf
        refine z_lload h dX5_gcd_50 0 rfl ?_
        exact z_lret h (rt_J hf hq) dX5_gcd_52
      · have hf := it_neg g6 hf
        refine z_lload h dX5_gcd_29 0 rfl ?_
        refine z_lload h dX5_gcd_31 1 rfl ?_
        obtain ⟨g7, hf⟩ := ck_out hf
        refine z_lrem h dX5_gcd_33 (nz_of g7) ?_
        refine z_topJ (fun v8 ev8 => ?_)
        have hf := bd_to ev8 hf
        refine z_lstore h dX5_gcd_34 (lv' := [(9, .long v8), (4, .long x4), (6, .long x6), (8, .int x8)]) rfl rfl ?_
        refine z_lload h dX5_gcd_36 2 rfl ?_
        refine z_lstore h dX5_gcd_38 (lv' := [(4, .long x6), (9, .long v8), (6, .long x6), (8, .int x8)]) rfl rfl ?_
        refine z_lload h dX5_gcd_40 1 rfl ?_
        refine z_lstore h dX5_gcd_42 (lv' := [(6, .long v8), (4, .long x6), (9, .long v8), (8, .int x8)]) rfl rfl ?_
        obtain ⟨v9, ev9, hf⟩ := bd_ex hf
        refine z_iinc h (v := v9) (lv' := [(8, .int v9), (6, .long v8), (4, .long x6), (9, .long v8)]) dX5_gcd_44 3 rfl (by rw [ev9]; rfl) rfl rfl ?_
        refine z_goto h (tgt := 15) dX5_gcd_47 (by decide) ?_
        exact z_sub [2, 1, 0] rfl (ih _ _ _ _ hf)
set_option maxHeartbeats 4000000 in
set_option maxRecDepth 100000 in
theorem c_X5_gcd (l : Launch) (G : ZG) {N : Nat} {x0 : Int64} {x2 : Int64} {σ σ' : ZS} {r : Int64} (hf : f_X5_gcd N x0 x2 σ = some (r, σ')) : zMet l G yX5_gcd cX5_gcd 11 (some .long) rm_X5_gcd [.long x0, .long x2] σ (some (.long r)) σ' := by
  refine z_met (by decide +kernel) rfl (fun Y h hq => ?_)
  have h : zOk (l, rm_X5_gcd, 11, 0, 0) Y G cX5_gcd RX5 (some .long) := h
  rw [f_X5_gcd] at hf
  refine z_sub (lv' := [(0, .long x0), (2, .long x2)]) [0, 1] rfl ?_
  refine z_lload_n h dX5_gcd_0 rfl 0 rfl ?_
  obtain ⟨v1, σ2, e2, hf⟩ := obd_out hf
  refine z_cSv h (n := 1) (c_ABS l G e2) rfl wd_337 wd_338 wd_339 wd_340 (by decide +kernel) ⟨rfl, rfl⟩ rfl rfl rfl dX5_gcd_1 ⟨Nat.zero_le _, Nat.zero_le _⟩ ?_
  refine z_lstore h dX5_gcd_4 (lv' := [(4, .long v1), (0, .long x0), (2, .long x2)]) rfl rfl ?_
  refine z_lload_n h dX5_gcd_6 rfl 2 rfl ?_
  obtain ⟨v3, σ4, e4, hf⟩ := obd_out hf
  refine z_cSv h (n := 1) (c_ABS l G e4) rfl wd_337 wd_338 wd_339 wd_340 (by decide +kernel) ⟨rfl, rfl⟩ rfl rfl rfl dX5_gcd_7 ⟨Nat.zero_le _, Nat.zero_le _⟩ ?_
  refine z_lstore h dX5_gcd_10 (lv' := [(6, .long v3), (4, .long v1), (0, .long x0), (2, .long x2)]) rfl rfl ?_
  refine z_iconst h (v := (0 : Int32)) dX5_gcd_12 ic_0 ?_
  refine z_istore h dX5_gcd_13 (lv' := [(8, .int (0 : Int32)), (6, .long v3), (4, .long v1), (0, .long x0), (2, .long x2)]) rfl rfl ?_
  exact z_sub [2, 1, 0] rfl (k_X5_gcd_h15 h hq N _ _ _ _ _ hf)
theorem dX5_within_0 : decode cX5_within 0 = .ok (.iload_n 0, 1) := by decide +kernel
theorem dX5_within_1 : decode cX5_within 1 = .ok (.iload_n 1, 1) := by decide +kernel
theorem dX5_within_2 : decode cX5_within 2 = .ok (.if_icmp .lt 12, 3) := by decide +kernel
theorem dX5_within_5 : decode cX5_within 5 = .ok (.iload_n 0, 1) := by decide +kernel
theorem dX5_within_6 : decode cX5_within 6 = .ok (.iload_n 2, 1) := by decide +kernel
theorem dX5_within_7 : decode cX5_within 7 = .ok (.if_icmp .gt 7, 3) := by decide +kernel
theorem dX5_within_10 : decode cX5_within 10 = .ok (.iconst 1, 1) := by decide +kernel
theorem dX5_within_11 : decode cX5_within 11 = .ok (.goto 4, 3) := by decide +kernel
theorem dX5_within_14 : decode cX5_within 14 = .ok (.iconst 0, 1) := by decide +kernel
theorem dX5_within_15 : decode cX5_within 15 = .ok (.ireturn, 1) := by decide +kernel
abbrev rm_X5_within : Room := { frames := 0, cells := 0, slots := 0, locals := 0 }
noncomputable def f_X5_within (N : Nat) (x0 : Int32) (x1 : Int32) (x2 : Int32) (σ : ZS) : Option (Int32 × ZS) := (if x0 < x1 then some ((0 : Int32), σ) else (if x2 < x0 then some ((0 : Int32), σ) else some ((1 : Int32), σ)))
set_option maxHeartbeats 4000000 in
set_option maxRecDepth 100000 in
theorem c_X5_within (l : Launch) (G : ZG) {N : Nat} {x0 : Int32} {x1 : Int32} {x2 : Int32} {σ σ' : ZS} {r : Int32} (hf : f_X5_within N x0 x1 x2 σ = some (r, σ')) : zMet l G yX5_within cX5_within 3 (some .boolean) rm_X5_within [.int x0, .int x1, .int x2] σ (some (.int r)) σ' := by
  refine z_met (by decide +kernel) rfl (fun Y h hq => ?_)
  have h : zOk (l, rm_X5_within, 3, 0, 0) Y G cX5_within RX5 (some .boolean) := h
  rw [f_X5_within] at hf
  refine z_sub (lv' := [(0, .int x0), (1, .int x1), (2, .int x2)]) [0, 1, 2] rfl ?_
  refine z_iload_n h dX5_within_0 rfl 0 rfl ?_
  refine z_iload_n h dX5_within_1 rfl 1 rfl ?_
  refine z_icmp_lt h (tgt := 14) dX5_within_2 (by decide) (fun g1 => ?_) (fun g1 => ?_)
  · have hf := it_pos g1 hf
    refine z_iconst h (v := (0 : Int32)) dX5_within_14 ic_0 ?_
    exact z_zret h rfl (rt_I hf hq) dX5_within_15
  · have hf := it_neg g1 hf
    refine z_iload_n h dX5_within_5 rfl 0 rfl ?_
    refine z_iload_n h dX5_within_6 rfl 2 rfl ?_
    refine z_icmp_gt h (tgt := 14) dX5_within_7 (by decide) (fun g2 => ?_) (fun g2 => ?_)
    · have hf := it_pos g2 hf
      refine z_iconst h (v := (0 : Int32)) dX5_within_14 ic_0 ?_
      exact z_zret h rfl (rt_I hf hq) dX5_within_15
    · have hf := it_neg g2 hf
      refine z_iconst h (v := (1 : Int32)) dX5_within_10 ic_1 ?_
      refine z_goto h (tgt := 15) dX5_within_11 (by decide) ?_
      exact z_zret h rfl (rt_I hf hq) dX5_within_15
