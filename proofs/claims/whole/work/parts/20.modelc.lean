theorem dX6_goes_0 : decode cX6_goes 0 = .ok (.aload_n 0, 1) := by decide +kernel
theorem dX6_goes_1 : decode cX6_goes 1 = .ok (.getfield 38, 3) := by decide +kernel
theorem dX6_goes_4 : decode cX6_goes 4 = .ok (.bipush 7, 2) := by decide +kernel
theorem dX6_goes_6 : decode cX6_goes 6 = .ok (.iload_n 2, 1) := by decide +kernel
theorem dX6_goes_7 : decode cX6_goes 7 = .ok (.imul, 1) := by decide +kernel
theorem dX6_goes_8 : decode cX6_goes 8 = .ok (.iload_n 3, 1) := by decide +kernel
theorem dX6_goes_9 : decode cX6_goes 9 = .ok (.iadd, 1) := by decide +kernel
theorem dX6_goes_10 : decode cX6_goes 10 = .ok (.iaload, 1) := by decide +kernel
theorem dX6_goes_11 : decode cX6_goes 11 = .ok (.istore 4, 2) := by decide +kernel
theorem dX6_goes_13 : decode cX6_goes 13 = .ok (.iload 4, 2) := by decide +kernel
theorem dX6_goes_15 : decode cX6_goes 15 = .ok (.ifCond .ge 7, 3) := by decide +kernel
theorem dX6_goes_18 : decode cX6_goes 18 = .ok (.lconst 0, 1) := by decide +kernel
theorem dX6_goes_19 : decode cX6_goes 19 = .ok (.goto 15, 3) := by decide +kernel
theorem dX6_goes_22 : decode cX6_goes 22 = .ok (.aload_n 0, 1) := by decide +kernel
theorem dX6_goes_23 : decode cX6_goes 23 = .ok (.getfield 54, 3) := by decide +kernel
theorem dX6_goes_26 : decode cX6_goes 26 = .ok (.bipush 12, 2) := by decide +kernel
theorem dX6_goes_28 : decode cX6_goes 28 = .ok (.iload_n 1, 1) := by decide +kernel
theorem dX6_goes_29 : decode cX6_goes 29 = .ok (.imul, 1) := by decide +kernel
theorem dX6_goes_30 : decode cX6_goes 30 = .ok (.iload 4, 2) := by decide +kernel
theorem dX6_goes_32 : decode cX6_goes 32 = .ok (.iadd, 1) := by decide +kernel
theorem dX6_goes_33 : decode cX6_goes 33 = .ok (.laload, 1) := by decide +kernel
theorem dX6_goes_34 : decode cX6_goes 34 = .ok (.lreturn, 1) := by decide +kernel
abbrev rm_X6_goes : Room := { frames := 0, cells := 0, slots := 0, locals := 0 }
noncomputable def f_X6_goes (N : Nat) (x1 : Int32) (x2 : Int32) (x3 : Int32) (σ : ZS) : Option (Int64 × ZS) := ck (inb (((7 : Int32) * x2) + x3) 21) (bd (gI σ 1076 ((((7 : Int32) * x2) + x3).toNatClampNeg)) fun v2 => (if 0 ≤ v2 then ck (inb (((12 : Int32) * x1) + v2) 11088) (some (gJ σ 1081 ((((12 : Int32) * x1) + v2).toNatClampNeg), σ)) else some ((0 : Int64), σ)))
set_option maxHeartbeats 4000000 in
set_option maxRecDepth 100000 in
theorem c_X6_goes (l : Launch) (G : ZG) {N : Nat} {x1 : Int32} {x2 : Int32} {x3 : Int32} {σ σ' : ZS} {r : Int64} (hf : f_X6_goes N x1 x2 x3 σ = some (r, σ')) : zMet l G yX6_goes cX6_goes 5 (some .long) rm_X6_goes [.ref (G.1 1067), .int x1, .int x2, .int x3] σ (some (.long r)) σ' := by
  refine z_met (by decide +kernel) rfl (fun Y h hq => ?_)
  have h : zOk (l, rm_X6_goes, 5, 0, 0) Y G cX6_goes RX6 (some .long) := h
  rw [f_X6_goes] at hf
  refine z_sub (lv' := [(0, .ref (G.1 1067)), (1, .int x1), (2, .int x2), (3, .int x3)]) [0, 1, 2, 3] rfl ?_
  refine z_aload_n h dX6_goes_0 rfl 0 rfl ?_
  refine z_gfR h zC6 (d := 1076) (c := 1067) tg_1067 ln_1067 13 rfl ft_6_13 rf_1067_13 wd_97 dX6_goes_1 ?_
  refine z_bipush h (v := (7 : Int32)) dX6_goes_4 bp_7 ?_
  refine z_iload_n h dX6_goes_6 rfl 2 rfl ?_
  refine z_imul h dX6_goes_7 ?_
  refine z_iload_n h dX6_goes_8 rfl 3 rfl ?_
  refine z_iadd h dX6_goes_9 ?_
  obtain ⟨g1, hf⟩ := ck_out hf
  refine z_iald h (c := 1076) tg_1076 ln_1076 g1 dX6_goes_10 ?_
  refine z_topI (fun v2 ev2 => ?_)
  have hf := bd_to ev2 hf
  refine z_istore h dX6_goes_11 (lv' := [(4, .int v2), (0, .ref (G.1 1067)), (1, .int x1), (2, .int x2), (3, .int x3)]) rfl rfl ?_
  refine z_iload h dX6_goes_13 0 rfl ?_
  refine z_if_ge h (tgt := 22) dX6_goes_15 (by decide) (fun g3 => ?_) (fun g3 => ?_)
  · have hf := it_pos g3 hf
    refine z_aload_n h dX6_goes_22 rfl 1 rfl ?_
    refine z_gfR h zC6 (d := 1081) (c := 1067) tg_1067 ln_1067 19 rfl ft_6_19 rf_1067_19 wd_102 dX6_goes_23 ?_
    refine z_bipush h (v := (12 : Int32)) dX6_goes_26 bp_12 ?_
    refine z_iload_n h dX6_goes_28 rfl 2 rfl ?_
    refine z_imul h dX6_goes_29 ?_
    refine z_iload h dX6_goes_30 0 rfl ?_
    refine z_iadd h dX6_goes_32 ?_
    obtain ⟨g4, hf⟩ := ck_out hf
    refine z_lald h (c := 1081) tg_1081 ln_1081 g4 dX6_goes_33 ?_
    exact z_lret h (rt_J hf hq) dX6_goes_34
  · have hf := it_neg g3 hf
    refine z_lconst h (v := (0 : Int64)) dX6_goes_18 lc_0 ?_
    refine z_goto h (tgt := 34) dX6_goes_19 (by decide) ?_
    exact z_lret h (rt_J hf hq) dX6_goes_34
theorem dX6_layOne_0 : decode cX6_layOne 0 = .ok (.aload_n 0, 1) := by decide +kernel
theorem dX6_layOne_1 : decode cX6_layOne 1 = .ok (.lconst 0, 1) := by decide +kernel
theorem dX6_layOne_2 : decode cX6_layOne 2 = .ok (.putfield 214, 3) := by decide +kernel
theorem dX6_layOne_5 : decode cX6_layOne 5 = .ok (.iconst 0, 1) := by decide +kernel
theorem dX6_layOne_6 : decode cX6_layOne 6 = .ok (.istore_n 2, 1) := by decide +kernel
theorem dX6_layOne_7 : decode cX6_layOne 7 = .ok (.iload_n 2, 1) := by decide +kernel
theorem dX6_layOne_8 : decode cX6_layOne 8 = .ok (.iconst 2, 1) := by decide +kernel
theorem dX6_layOne_9 : decode cX6_layOne 9 = .ok (.aload_n 0, 1) := by decide +kernel
theorem dX6_layOne_10 : decode cX6_layOne 10 = .ok (.getfield 141, 3) := by decide +kernel
theorem dX6_layOne_13 : decode cX6_layOne 13 = .ok (.imul, 1) := by decide +kernel
theorem dX6_layOne_14 : decode cX6_layOne 14 = .ok (.if_icmp .ge 74, 3) := by decide +kernel
theorem dX6_layOne_17 : decode cX6_layOne 17 = .ok (.aload_n 0, 1) := by decide +kernel
theorem dX6_layOne_18 : decode cX6_layOne 18 = .ok (.getfield 67, 3) := by decide +kernel
theorem dX6_layOne_21 : decode cX6_layOne 21 = .ok (.iload_n 2, 1) := by decide +kernel
theorem dX6_layOne_22 : decode cX6_layOne 22 = .ok (.aload_n 0, 1) := by decide +kernel
theorem dX6_layOne_23 : decode cX6_layOne 23 = .ok (.aload_n 0, 1) := by decide +kernel
theorem dX6_layOne_24 : decode cX6_layOne 24 = .ok (.getfield 54, 3) := by decide +kernel
theorem dX6_layOne_27 : decode cX6_layOne 27 = .ok (.bipush 12, 2) := by decide +kernel
theorem dX6_layOne_29 : decode cX6_layOne 29 = .ok (.iload_n 1, 1) := by decide +kernel
theorem dX6_layOne_30 : decode cX6_layOne 30 = .ok (.imul, 1) := by decide +kernel
theorem dX6_layOne_31 : decode cX6_layOne 31 = .ok (.iload_n 2, 1) := by decide +kernel
theorem dX6_layOne_32 : decode cX6_layOne 32 = .ok (.invokevirtual 192, 3) := by decide +kernel
theorem dX6_layOne_35 : decode cX6_layOne 35 = .ok (.lastore, 1) := by decide +kernel
theorem dX6_layOne_36 : decode cX6_layOne 36 = .ok (.aload_n 0, 1) := by decide +kernel
theorem dX6_layOne_37 : decode cX6_layOne 37 = .ok (.dup, 1) := by decide +kernel
theorem dX6_layOne_38 : decode cX6_layOne 38 = .ok (.getfield 214, 3) := by decide +kernel
theorem dX6_layOne_41 : decode cX6_layOne 41 = .ok (.aload_n 0, 1) := by decide +kernel
theorem dX6_layOne_42 : decode cX6_layOne 42 = .ok (.getfield 25, 3) := by decide +kernel
theorem dX6_layOne_45 : decode cX6_layOne 45 = .ok (.iload_n 2, 1) := by decide +kernel
theorem dX6_layOne_46 : decode cX6_layOne 46 = .ok (.iconst 2, 1) := by decide +kernel
theorem dX6_layOne_47 : decode cX6_layOne 47 = .ok (.idiv, 1) := by decide +kernel
theorem dX6_layOne_48 : decode cX6_layOne 48 = .ok (.iaload, 1) := by decide +kernel
theorem dX6_layOne_49 : decode cX6_layOne 49 = .ok (.i2l, 1) := by decide +kernel
theorem dX6_layOne_50 : decode cX6_layOne 50 = .ok (.aload_n 0, 1) := by decide +kernel
theorem dX6_layOne_51 : decode cX6_layOne 51 = .ok (.getfield 67, 3) := by decide +kernel
theorem dX6_layOne_54 : decode cX6_layOne 54 = .ok (.iload_n 2, 1) := by decide +kernel
theorem dX6_layOne_55 : decode cX6_layOne 55 = .ok (.laload, 1) := by decide +kernel
theorem dX6_layOne_56 : decode cX6_layOne 56 = .ok (.lconst 0, 1) := by decide +kernel
theorem dX6_layOne_57 : decode cX6_layOne 57 = .ok (.lcmp, 1) := by decide +kernel
theorem dX6_layOne_58 : decode cX6_layOne 58 = .ok (.ifCond .ge 13, 3) := by decide +kernel
theorem dX6_layOne_61 : decode cX6_layOne 61 = .ok (.aload_n 0, 1) := by decide +kernel
theorem dX6_layOne_62 : decode cX6_layOne 62 = .ok (.getfield 67, 3) := by decide +kernel
theorem dX6_layOne_65 : decode cX6_layOne 65 = .ok (.iload_n 2, 1) := by decide +kernel
theorem dX6_layOne_66 : decode cX6_layOne 66 = .ok (.laload, 1) := by decide +kernel
theorem dX6_layOne_67 : decode cX6_layOne 67 = .ok (.lneg, 1) := by decide +kernel
theorem dX6_layOne_68 : decode cX6_layOne 68 = .ok (.goto 9, 3) := by decide +kernel
theorem dX6_layOne_71 : decode cX6_layOne 71 = .ok (.aload_n 0, 1) := by decide +kernel
theorem dX6_layOne_72 : decode cX6_layOne 72 = .ok (.getfield 67, 3) := by decide +kernel
theorem dX6_layOne_75 : decode cX6_layOne 75 = .ok (.iload_n 2, 1) := by decide +kernel
theorem dX6_layOne_76 : decode cX6_layOne 76 = .ok (.laload, 1) := by decide +kernel
theorem dX6_layOne_77 : decode cX6_layOne 77 = .ok (.lmul, 1) := by decide +kernel
theorem dX6_layOne_78 : decode cX6_layOne 78 = .ok (.ladd, 1) := by decide +kernel
theorem dX6_layOne_79 : decode cX6_layOne 79 = .ok (.putfield 214, 3) := by decide +kernel
theorem dX6_layOne_82 : decode cX6_layOne 82 = .ok (.iinc 2 1, 3) := by decide +kernel
theorem dX6_layOne_85 : decode cX6_layOne 85 = .ok (.goto (-78), 3) := by decide +kernel
theorem dX6_layOne_88 : decode cX6_layOne 88 = .ok (.iconst 0, 1) := by decide +kernel
theorem dX6_layOne_89 : decode cX6_layOne 89 = .ok (.istore_n 2, 1) := by decide +kernel
theorem dX6_layOne_90 : decode cX6_layOne 90 = .ok (.iload_n 2, 1) := by decide +kernel
theorem dX6_layOne_91 : decode cX6_layOne 91 = .ok (.iconst 3, 1) := by decide +kernel
theorem dX6_layOne_92 : decode cX6_layOne 92 = .ok (.if_icmp .ge 92, 3) := by decide +kernel
theorem dX6_layOne_95 : decode cX6_layOne 95 = .ok (.aload_n 0, 1) := by decide +kernel
theorem dX6_layOne_96 : decode cX6_layOne 96 = .ok (.getfield 70, 3) := by decide +kernel
theorem dX6_layOne_99 : decode cX6_layOne 99 = .ok (.iload_n 2, 1) := by decide +kernel
theorem dX6_layOne_100 : decode cX6_layOne 100 = .ok (.lconst 0, 1) := by decide +kernel
theorem dX6_layOne_101 : decode cX6_layOne 101 = .ok (.lastore, 1) := by decide +kernel
theorem dX6_layOne_102 : decode cX6_layOne 102 = .ok (.iconst 0, 1) := by decide +kernel
theorem dX6_layOne_103 : decode cX6_layOne 103 = .ok (.istore_n 3, 1) := by decide +kernel
theorem dX6_layOne_104 : decode cX6_layOne 104 = .ok (.iload_n 3, 1) := by decide +kernel
theorem dX6_layOne_105 : decode cX6_layOne 105 = .ok (.aload_n 0, 1) := by decide +kernel
theorem dX6_layOne_106 : decode cX6_layOne 106 = .ok (.getfield 134, 3) := by decide +kernel
theorem dX6_layOne_109 : decode cX6_layOne 109 = .ok (.if_icmp .ge 69, 3) := by decide +kernel
theorem dX6_layOne_112 : decode cX6_layOne 112 = .ok (.aload_n 0, 1) := by decide +kernel
theorem dX6_layOne_113 : decode cX6_layOne 113 = .ok (.getfield 70, 3) := by decide +kernel
theorem dX6_layOne_116 : decode cX6_layOne 116 = .ok (.iload_n 2, 1) := by decide +kernel
theorem dX6_layOne_117 : decode cX6_layOne 117 = .ok (.dup2, 1) := by decide +kernel
theorem dX6_layOne_118 : decode cX6_layOne 118 = .ok (.laload, 1) := by decide +kernel
theorem dX6_layOne_119 : decode cX6_layOne 119 = .ok (.ldc2_w 218, 3) := by decide +kernel
theorem dX6_layOne_122 : decode cX6_layOne 122 = .ok (.aload_n 0, 1) := by decide +kernel
theorem dX6_layOne_123 : decode cX6_layOne 123 = .ok (.getfield 28, 3) := by decide +kernel
theorem dX6_layOne_126 : decode cX6_layOne 126 = .ok (.bipush 14, 2) := by decide +kernel
theorem dX6_layOne_128 : decode cX6_layOne 128 = .ok (.iload_n 2, 1) := by decide +kernel
theorem dX6_layOne_129 : decode cX6_layOne 129 = .ok (.imul, 1) := by decide +kernel
theorem dX6_layOne_130 : decode cX6_layOne 130 = .ok (.iconst 2, 1) := by decide +kernel
theorem dX6_layOne_131 : decode cX6_layOne 131 = .ok (.iload_n 3, 1) := by decide +kernel
theorem dX6_layOne_132 : decode cX6_layOne 132 = .ok (.imul, 1) := by decide +kernel
theorem dX6_layOne_133 : decode cX6_layOne 133 = .ok (.iadd, 1) := by decide +kernel
theorem dX6_layOne_134 : decode cX6_layOne 134 = .ok (.iaload, 1) := by decide +kernel
theorem dX6_layOne_135 : decode cX6_layOne 135 = .ok (.i2l, 1) := by decide +kernel
theorem dX6_layOne_136 : decode cX6_layOne 136 = .ok (.aload_n 0, 1) := by decide +kernel
theorem dX6_layOne_137 : decode cX6_layOne 137 = .ok (.iload_n 1, 1) := by decide +kernel
theorem dX6_layOne_138 : decode cX6_layOne 138 = .ok (.iconst 0, 1) := by decide +kernel
theorem dX6_layOne_139 : decode cX6_layOne 139 = .ok (.iload_n 3, 1) := by decide +kernel
theorem dX6_layOne_140 : decode cX6_layOne 140 = .ok (.invokevirtual 220, 3) := by decide +kernel
theorem dX6_layOne_143 : decode cX6_layOne 143 = .ok (.lmul, 1) := by decide +kernel
theorem dX6_layOne_144 : decode cX6_layOne 144 = .ok (.aload_n 0, 1) := by decide +kernel
theorem dX6_layOne_145 : decode cX6_layOne 145 = .ok (.getfield 28, 3) := by decide +kernel
theorem dX6_layOne_148 : decode cX6_layOne 148 = .ok (.bipush 14, 2) := by decide +kernel
theorem dX6_layOne_150 : decode cX6_layOne 150 = .ok (.iload_n 2, 1) := by decide +kernel
theorem dX6_layOne_151 : decode cX6_layOne 151 = .ok (.imul, 1) := by decide +kernel
theorem dX6_layOne_152 : decode cX6_layOne 152 = .ok (.iconst 2, 1) := by decide +kernel
theorem dX6_layOne_153 : decode cX6_layOne 153 = .ok (.iload_n 3, 1) := by decide +kernel
theorem dX6_layOne_154 : decode cX6_layOne 154 = .ok (.imul, 1) := by decide +kernel
theorem dX6_layOne_155 : decode cX6_layOne 155 = .ok (.iadd, 1) := by decide +kernel
theorem dX6_layOne_156 : decode cX6_layOne 156 = .ok (.iconst 1, 1) := by decide +kernel
theorem dX6_layOne_157 : decode cX6_layOne 157 = .ok (.iadd, 1) := by decide +kernel
theorem dX6_layOne_158 : decode cX6_layOne 158 = .ok (.iaload, 1) := by decide +kernel
theorem dX6_layOne_159 : decode cX6_layOne 159 = .ok (.i2l, 1) := by decide +kernel
theorem dX6_layOne_160 : decode cX6_layOne 160 = .ok (.aload_n 0, 1) := by decide +kernel
theorem dX6_layOne_161 : decode cX6_layOne 161 = .ok (.iload_n 1, 1) := by decide +kernel
theorem dX6_layOne_162 : decode cX6_layOne 162 = .ok (.iconst 1, 1) := by decide +kernel
theorem dX6_layOne_163 : decode cX6_layOne 163 = .ok (.iload_n 3, 1) := by decide +kernel
theorem dX6_layOne_164 : decode cX6_layOne 164 = .ok (.invokevirtual 220, 3) := by decide +kernel
theorem dX6_layOne_167 : decode cX6_layOne 167 = .ok (.lmul, 1) := by decide +kernel
theorem dX6_layOne_168 : decode cX6_layOne 168 = .ok (.ladd, 1) := by decide +kernel
theorem dX6_layOne_169 : decode cX6_layOne 169 = .ok (.lmul, 1) := by decide +kernel
theorem dX6_layOne_170 : decode cX6_layOne 170 = .ok (.ladd, 1) := by decide +kernel
theorem dX6_layOne_171 : decode cX6_layOne 171 = .ok (.lastore, 1) := by decide +kernel
theorem dX6_layOne_172 : decode cX6_layOne 172 = .ok (.iinc 3 1, 3) := by decide +kernel
theorem dX6_layOne_175 : decode cX6_layOne 175 = .ok (.goto (-71), 3) := by decide +kernel
theorem dX6_layOne_178 : decode cX6_layOne 178 = .ok (.iinc 2 1, 3) := by decide +kernel
theorem dX6_layOne_181 : decode cX6_layOne 181 = .ok (.goto (-91), 3) := by decide +kernel
theorem dX6_layOne_184 : decode cX6_layOne 184 = .ok (.return_, 1) := by decide +kernel
abbrev rm_X6_layOne : Room := { frames := 2, cells := 0, slots := 0, locals := 63 }
noncomputable def f_X6_layOne_h104 (N : Nat) (kb90 : Int32 → ZS → Option (Unit × ZS)) (x1 : Int32) (x2 : Int32) : Nat → Int32 → ZS → Option (Unit × ZS)
  | 0, _, _ => none
  | n + 1, x3, σ => (if (gI σ 1067 0) ≤ x3 then bd (x2 + (1 : Int32)) fun v7 => kb90 v7 σ else ck (inb x2 3) (ck (inb (((14 : Int32) * x2) + ((2 : Int32) * x3)) 42) (obd (f_X6_goes N x1 (0 : Int32) x3 σ) fun v10 σ11 => ck (inb ((((14 : Int32) * x2) + ((2 : Int32) * x3)) + (1 : Int32)) 42) (obd (f_X6_goes N x1 (1 : Int32) x3 σ11) fun v13 σ14 => bd ((gJ σ 1086 (x2.toNatClampNeg)) + ((12 : Int64) * ((((gI σ 1074 ((((14 : Int32) * x2) + ((2 : Int32) * x3)).toNatClampNeg)).toInt64) * v10) + (((gI σ11 1074 (((((14 : Int32) * x2) + ((2 : Int32) * x3)) + (1 : Int32)).toNatClampNeg)).toInt64) * v13)))) fun v15 => ck (inb x2 3) (bd (sJ σ14 1086 (x2.toNatClampNeg) v15) fun σ17 => bd (x3 + (1 : Int32)) fun v18 => f_X6_layOne_h104 N kb90 x1 x2 n v18 σ17)))))
noncomputable def f_X6_layOne_h90 (N : Nat) (x1 : Int32) : Nat → Int32 → ZS → Option (Unit × ZS)
  | 0, _, _ => none
  | n + 1, x2, σ => (if (3 : Int32) ≤ x2 then some ((), σ) else ck (inb x2 3) (bd (sJ σ 1086 (x2.toNatClampNeg) (0 : Int64)) fun σ5 => f_X6_layOne_h104 N (fun x2_ σ_ => f_X6_layOne_h90 N x1 n x2_ σ_) x1 x2 N (0 : Int32) σ5))
noncomputable def f_X6_layOne_b77 (N : Nat) (kb7 : Int32 → ZS → Option (Unit × ZS)) (x1 : Int32) (x2 : Int32) (s1 : Int64) (s2 : Int64) (s3 : Int64) (σ : ZS) : Option (Unit × ZS) := bd (s1 + (s2 * s3)) fun v27 => bd (sJ σ 1067 25 v27) fun σ28 => bd (x2 + (1 : Int32)) fun v29 => kb7 v29 σ28
noncomputable def f_X6_layOne_h7 (N : Nat) (x1 : Int32) : Nat → Int32 → ZS → Option (Unit × ZS)
  | 0, _, _ => none
  | n + 1, x2, σ => (if ((2 : Int32) * (gI σ 1067 4)) ≤ x2 then f_X6_layOne_h90 N x1 N (0 : Int32) σ else obd (f_X6_twistBy N 1081 ((12 : Int32) * x1) x2 σ) fun v19 σ20 => ck (inb x2 12) (bd (sJ σ20 1085 (x2.toNatClampNeg) v19) fun σ22 => ck (inb (x2 / (2 : Int32)) 6) (ck (inb x2 12) ((if (gJ σ22 1085 (x2.toNatClampNeg)) < (0 : Int64) then ck (inb x2 12) (f_X6_layOne_b77 N (fun x2_ σ_ => f_X6_layOne_h7 N x1 n x2_ σ_) x1 x2 (gJ σ22 1067 25) ((gI σ22 1073 ((x2 / (2 : Int32)).toNatClampNeg)).toInt64) (-(gJ σ22 1085 (x2.toNatClampNeg))) σ22) else ck (inb x2 12) (f_X6_layOne_b77 N (fun x2_ σ_ => f_X6_layOne_h7 N x1 n x2_ σ_) x1 x2 (gJ σ22 1067 25) ((gI σ22 1073 ((x2 / (2 : Int32)).toNatClampNeg)).toInt64) (gJ σ22 1085 (x2.toNatClampNeg)) σ22))))))
noncomputable def f_X6_layOne (N : Nat) (x1 : Int32) (σ : ZS) : Option (Unit × ZS) := bd (sJ σ 1067 25 (0 : Int64)) fun σ1 => f_X6_layOne_h7 N x1 N (0 : Int32) σ1
set_option maxHeartbeats 4000000 in
set_option maxRecDepth 100000 in
theorem k_X6_layOne_h104 {l : Launch} {Y : ZY} {G : ZG} {σ' : ZS} (h : zOk (l, rm_X6_layOne, 4, 0, 0) Y G cX6_layOne RX6 none) (hq : zRet (l, rm_X6_layOne, 4, 0, 0) Y G none σ') (N : Nat) {kb90 : Int32 → ZS → Option (Unit × ZS)} (x1 : Int32) (x2 : Int32) (hb90 : ∀ (x2_ : Int32) (σ_ : ZS), kb90 x2_ σ_ = some ((), σ') → Z (l, rm_X6_layOne, 4, 0, 0) Y G σ_ [(0, .ref (G.1 1067)), (1, .int x1), (2, .int x2_)] [] 90) : ∀ (n : Nat) (x3 : Int32) (σ : ZS), f_X6_layOne_h104 N kb90 x1 x2 n x3 σ = some ((), σ') → Z (l, rm_X6_layOne, 4, 0, 0) Y G σ [(0, .ref (G.1 1067)), (1, .int x1), (2, .int x2), (3, .int x3)] [] 104 := by
  intro n
  induction n with
  | zero =>
    intro x3 σ hf
    rw [f_X6_layOne_h104] at hf
    cases hf
  | succ n ih =>
    intro x3 σ hf
    rw [f_X6_layOne_h104] at hf
    refine z_iload_n h dX6_layOne_104 rfl 3 rfl ?_
    refine z_aload_n h dX6_layOne_105 rfl 0 rfl ?_
    refine z_gfI h zC6 (c := 1067) tg_1067 ln_1067 0 rfl ft_6_0 wd_155 dX6_layOne_106 ?_
    refine z_icmp_ge h (tgt := 178) dX6_layOne_109 (by decide) (fun g6 => ?_) (fun g6 => ?_)
    · have hf := it_pos g6 hf
      obtain ⟨v7, ev7, hf⟩ := bd_ex hf
      refine z_iinc h (v := v7) (lv' := [(2, .int v7), (0, .ref (G.1 1067)), (1, .int x1), (3, .int x3)]) dX6_layOne_178 2 rfl (by rw [ev7]; rfl) rfl rfl ?_
      refine z_goto h (tgt := 90) dX6_layOne_181 (by decide) ?_
      exact z_sub [1, 2, 0] rfl (hb90 _ _ hf)
    · have hf := it_neg g6 hf
      refine z_aload_n h dX6_layOne_112 rfl 0 rfl ?_
      refine z_gfR h zC6 (d := 1086) (c := 1067) tg_1067 ln_1067 24 rfl ft_6_24 rf_1067_24 wd_108 dX6_layOne_113 ?_
      refine z_iload_n h dX6_layOne_116 rfl 2 rfl ?_
      refine z_dup2_11 h dX6_layOne_117 rfl rfl ?_
      obtain ⟨g8, hf⟩ := ck_out hf
      refine z_lald h (c := 1086) tg_1086 ln_1086 g8 dX6_layOne_118 ?_
      refine z_ldc2 h (v := (12 : Int64)) wd_546 dX6_layOne_119 ?_
      refine z_aload_n h dX6_layOne_122 rfl 0 rfl ?_
      refine z_gfR h zC6 (d := 1074) (c := 1067) tg_1067 ln_1067 8 rfl ft_6_8 rf_1067_8 wd_94 dX6_layOne_123 ?_
      refine z_bipush h (v := (14 : Int32)) dX6_layOne_126 bp_14 ?_
      refine z_iload_n h dX6_layOne_128 rfl 2 rfl ?_
      refine z_imul h dX6_layOne_129 ?_
      refine z_iconst h (v := (2 : Int32)) dX6_layOne_130 ic_2 ?_
      refine z_iload_n h dX6_layOne_131 rfl 3 rfl ?_
      refine z_imul h dX6_layOne_132 ?_
      refine z_iadd h dX6_layOne_133 ?_
      obtain ⟨g9, hf⟩ := ck_out hf
      refine z_iald h (c := 1074) tg_1074 ln_1074 g9 dX6_layOne_134 ?_
      refine z_i2l h dX6_layOne_135 ?_
      refine z_aload_n h dX6_layOne_136 rfl 0 rfl ?_
      refine z_iload_n h dX6_layOne_137 rfl 1 rfl ?_
      refine z_iconst h (v := (0 : Int32)) dX6_layOne_138 ic_0 ?_
      refine z_iload_n h dX6_layOne_139 rfl 3 rfl ?_
      obtain ⟨v10, σ11, e11, hf⟩ := obd_out hf
      refine z_cVv h (n := 3) (c_X6_goes l G e11) zC6 tg_1067 ln_1067 rfl rfl wd_547 wd_548 wd_549 wd_5 wd_550 (by decide +kernel) ⟨rfl, rfl⟩ rfl rfl rfl dX6_layOne_140 ⟨Nat.zero_le _, Nat.zero_le _⟩ ?_
      refine z_lmul h dX6_layOne_143 ?_
      refine z_aload_n h dX6_layOne_144 rfl 0 rfl ?_
      refine z_gfR h zC6 (d := 1074) (c := 1067) tg_1067 ln_1067 8 rfl ft_6_8 rf_1067_8 wd_94 dX6_layOne_145 ?_
      refine z_bipush h (v := (14 : Int32)) dX6_layOne_148 bp_14 ?_
      refine z_iload_n h dX6_layOne_150 rfl 2 rfl ?_
      refine z_imul h dX6_layOne_151 ?_
      refine z_iconst h (v := (2 : Int32)) dX6_layOne_152 ic_2 ?_
      refine z_iload_n h dX6_layOne_153 rfl 3 rfl ?_
      refine z_imul h dX6_layOne_154 ?_
      refine z_iadd h dX6_layOne_155 ?_
      refine z_iconst h (v := (1 : Int32)) dX6_layOne_156 ic_1 ?_
      refine z_iadd h dX6_layOne_157 ?_
      obtain ⟨g12, hf⟩ := ck_out hf
      refine z_iald h (c := 1074) tg_1074 ln_1074 g12 dX6_layOne_158 ?_
      refine z_i2l h dX6_layOne_159 ?_
      refine z_aload_n h dX6_layOne_160 rfl 0 rfl ?_
      refine z_iload_n h dX6_layOne_161 rfl 1 rfl ?_
      refine z_iconst h (v := (1 : Int32)) dX6_layOne_162 ic_1 ?_
      refine z_iload_n h dX6_layOne_163 rfl 3 rfl ?_
      obtain ⟨v13, σ14, e14, hf⟩ := obd_out hf
      refine z_cVv16 h (n := 3) (c_X6_goes l G e14) zC6 tg_1067 ln_1067 rfl rfl wd_547 wd_548 wd_549 wd_5 wd_550 (by decide +kernel) ⟨rfl, rfl⟩ rfl rfl rfl dX6_layOne_164 ⟨Nat.zero_le _, Nat.zero_le _⟩ ?_
      refine z_lmul h dX6_layOne_167 ?_
      refine z_ladd h dX6_layOne_168 ?_
      refine z_lmul h dX6_layOne_169 ?_
      refine z_ladd h dX6_layOne_170 ?_
      refine z_topJ (fun v15 ev15 => ?_)
      have hf := bd_to ev15 hf
      obtain ⟨g16, hf⟩ := ck_out hf
      refine z_last h (c := 1086) tg_1086 ln_1086 g16 dX6_layOne_171 ?_
      refine z_gen (fun σ17 eσ17 => ?_)
      have hf := bd_to eσ17 hf
      obtain ⟨v18, ev18, hf⟩ := bd_ex hf
      refine z_iinc h (v := v18) (lv' := [(3, .int v18), (0, .ref (G.1 1067)), (1, .int x1), (2, .int x2)]) dX6_layOne_172 3 rfl (by rw [ev18]; rfl) rfl rfl ?_
      refine z_goto h (tgt := 104) dX6_layOne_175 (by decide) ?_
      exact z_sub [1, 2, 3, 0] rfl (ih _ _ hf)
set_option maxHeartbeats 4000000 in
set_option maxRecDepth 100000 in
theorem k_X6_layOne_h90 {l : Launch} {Y : ZY} {G : ZG} {σ' : ZS} (h : zOk (l, rm_X6_layOne, 4, 0, 0) Y G cX6_layOne RX6 none) (hq : zRet (l, rm_X6_layOne, 4, 0, 0) Y G none σ') (N : Nat) (x1 : Int32) : ∀ (n : Nat) (x2 : Int32) (σ : ZS), f_X6_layOne_h90 N x1 n x2 σ = some ((), σ') → Z (l, rm_X6_layOne, 4, 0, 0) Y G σ [(0, .ref (G.1 1067)), (1, .int x1), (2, .int x2)] [] 90 := by
  intro n
  induction n with
  | zero =>
    intro x2 σ hf
    rw [f_X6_layOne_h90] at hf
    cases hf
  | succ n ih =>
    intro x2 σ hf
    rw [f_X6_layOne_h90] at hf
    refine z_iload_n h dX6_layOne_90 rfl 2 rfl ?_
    refine z_iconst h (v := (3 : Int32)) dX6_layOne_91 ic_3 ?_
    refine z_icmp_ge h (tgt := 184) dX6_layOne_92 (by decide) (fun g3 => ?_) (fun g3 => ?_)
    · have hf := it_pos g3 hf
      exact z_vret h (rt_V hf hq) dX6_layOne_184
    · have hf := it_neg g3 hf
      refine z_aload_n h dX6_layOne_95 rfl 0 rfl ?_
      refine z_gfR h zC6 (d := 1086) (c := 1067) tg_1067 ln_1067 24 rfl ft_6_24 rf_1067_24 wd_108 dX6_layOne_96 ?_
      refine z_iload_n h dX6_layOne_99 rfl 2 rfl ?_
      refine z_lconst h (v := (0 : Int64)) dX6_layOne_100 lc_0 ?_
      obtain ⟨g4, hf⟩ := ck_out hf
      refine z_last h (c := 1086) tg_1086 ln_1086 g4 dX6_layOne_101 ?_
      refine z_gen (fun σ5 eσ5 => ?_)
      have hf := bd_to eσ5 hf
      refine z_iconst h (v := (0 : Int32)) dX6_layOne_102 ic_0 ?_
      refine z_istore_n h dX6_layOne_103 rfl (lv' := [(3, .int (0 : Int32)), (0, .ref (G.1 1067)), (1, .int x1), (2, .int x2)]) rfl rfl ?_
      exact z_sub [1, 2, 3, 0] rfl (k_X6_layOne_h104 h hq N x1 x2 (fun x2_ σ_ hf_ => ih x2_ σ_ hf_) _ _ _ hf)
set_option maxHeartbeats 4000000 in
set_option maxRecDepth 100000 in
theorem k_X6_layOne_b77 {l : Launch} {Y : ZY} {G : ZG} {σ' : ZS} (h : zOk (l, rm_X6_layOne, 4, 0, 0) Y G cX6_layOne RX6 none) (hq : zRet (l, rm_X6_layOne, 4, 0, 0) Y G none σ') (N : Nat) {kb7 : Int32 → ZS → Option (Unit × ZS)} (x1 : Int32) (x2 : Int32) (s1 : Int64) (s2 : Int64) (s3 : Int64) (hb7 : ∀ (x2_ : Int32) (σ_ : ZS), kb7 x2_ σ_ = some ((), σ') → Z (l, rm_X6_layOne, 4, 0, 0) Y G σ_ [(0, .ref (G.1 1067)), (1, .int x1), (2, .int x2_)] [] 7) (σ : ZS) (hf : f_X6_layOne_b77 N kb7 x1 x2 s1 s2 s3 σ = some ((), σ')) : Z (l, rm_X6_layOne, 4, 0, 0) Y G σ [(0, .ref (G.1 1067)), (1, .int x1), (2, .int x2)] [.long s3, .long s2, .long s1, .ref (G.1 1067)] 77 := by
  rw [f_X6_layOne_b77] at hf
  refine z_lmul h dX6_layOne_77 ?_
  refine z_ladd h dX6_layOne_78 ?_
  refine z_topJ (fun v27 ev27 => ?_)
  have hf := bd_to ev27 hf
  refine z_pfJ h zC6 (c := 1067) tg_1067 ln_1067 25 rfl ft_6_25 wd_545 rfl (ty := .long) (by decide +kernel) rfl rfl dX6_layOne_79 ?_
  refine z_gen (fun σ28 eσ28 => ?_)
  have hf := bd_to eσ28 hf
  obtain ⟨v29, ev29, hf⟩ := bd_ex hf
  refine z_iinc h (v := v29) (lv' := [(2, .int v29), (0, .ref (G.1 1067)), (1, .int x1)]) dX6_layOne_82 2 rfl (by rw [ev29]; rfl) rfl rfl ?_
  refine z_goto h (tgt := 7) dX6_layOne_85 (by decide) ?_
  exact z_sub [1, 2, 0] rfl (hb7 _ _ hf)
set_option maxHeartbeats 4000000 in
set_option maxRecDepth 100000 in
theorem k_X6_layOne_h7 {l : Launch} {Y : ZY} {G : ZG} {σ' : ZS} (h : zOk (l, rm_X6_layOne, 4, 0, 0) Y G cX6_layOne RX6 none) (hq : zRet (l, rm_X6_layOne, 4, 0, 0) Y G none σ') (N : Nat) (x1 : Int32) : ∀ (n : Nat) (x2 : Int32) (σ : ZS), f_X6_layOne_h7 N x1 n x2 σ = some ((), σ') → Z (l, rm_X6_layOne, 4, 0, 0) Y G σ [(0, .ref (G.1 1067)), (1, .int x1), (2, .int x2)] [] 7 := by
  intro n
  induction n with
  | zero =>
    intro x2 σ hf
    rw [f_X6_layOne_h7] at hf
    cases hf
  | succ n ih =>
    intro x2 σ hf
    rw [f_X6_layOne_h7] at hf
    refine z_iload_n h dX6_layOne_7 rfl 2 rfl ?_
    refine z_iconst h (v := (2 : Int32)) dX6_layOne_8 ic_2 ?_
    refine z_aload_n h dX6_layOne_9 rfl 0 rfl ?_
    refine z_gfI h zC6 (c := 1067) tg_1067 ln_1067 4 rfl ft_6_4 wd_200 dX6_layOne_10 ?_
    refine z_imul h dX6_layOne_13 ?_
    refine z_icmp_ge h (tgt := 88) dX6_layOne_14 (by decide) (fun g2 => ?_) (fun g2 => ?_)
    · have hf := it_pos g2 hf
      refine z_iconst h (v := (0 : Int32)) dX6_layOne_88 ic_0 ?_
      refine z_istore_n h dX6_layOne_89 rfl (lv' := [(2, .int (0 : Int32)), (0, .ref (G.1 1067)), (1, .int x1)]) rfl rfl ?_
      exact z_sub [1, 2, 0] rfl (k_X6_layOne_h90 h hq N x1 _ _ _ hf)
    · have hf := it_neg g2 hf
      refine z_aload_n h dX6_layOne_17 rfl 0 rfl ?_
      refine z_gfR h zC6 (d := 1085) (c := 1067) tg_1067 ln_1067 23 rfl ft_6_23 rf_1067_23 wd_107 dX6_layOne_18 ?_
      refine z_iload_n h dX6_layOne_21 rfl 2 rfl ?_
      refine z_aload_n h dX6_layOne_22 rfl 0 rfl ?_
      refine z_aload_n h dX6_layOne_23 rfl 0 rfl ?_
      refine z_gfR h zC6 (d := 1081) (c := 1067) tg_1067 ln_1067 19 rfl ft_6_19 rf_1067_19 wd_102 dX6_layOne_24 ?_
      refine z_bipush h (v := (12 : Int32)) dX6_layOne_27 bp_12 ?_
      refine z_iload_n h dX6_layOne_29 rfl 1 rfl ?_
      refine z_imul h dX6_layOne_30 ?_
      refine z_iload_n h dX6_layOne_31 rfl 2 rfl ?_
      obtain ⟨v19, σ20, e20, hf⟩ := obd_out hf
      refine z_cVv h (n := 3) (c_X6_twistBy l G e20) zC6 tg_1067 ln_1067 rfl rfl wd_478 wd_479 wd_480 wd_5 wd_481 (by decide +kernel) ⟨rfl, rfl⟩ rfl rfl rfl dX6_layOne_32 ⟨Nat.zero_le _, Nat.zero_le _⟩ ?_
      obtain ⟨g21, hf⟩ := ck_out hf
      refine z_last h (c := 1085) tg_1085 ln_1085 g21 dX6_layOne_35 ?_
      refine z_gen (fun σ22 eσ22 => ?_)
      have hf := bd_to eσ22 hf
      refine z_aload_n h dX6_layOne_36 rfl 0 rfl ?_
      refine z_dup h dX6_layOne_37 rfl ?_
      refine z_gfJ h zC6 (c := 1067) tg_1067 ln_1067 25 rfl ft_6_25 wd_545 dX6_layOne_38 ?_
      refine z_aload_n h dX6_layOne_41 rfl 0 rfl ?_
      refine z_gfR h zC6 (d := 1073) (c := 1067) tg_1067 ln_1067 7 rfl ft_6_7 rf_1067_7 wd_93 dX6_layOne_42 ?_
      refine z_iload_n h dX6_layOne_45 rfl 2 rfl ?_
      refine z_iconst h (v := (2 : Int32)) dX6_layOne_46 ic_2 ?_
      refine z_idiv h dX6_layOne_47 (by decide) ?_
      obtain ⟨g23, hf⟩ := ck_out hf
      refine z_iald h (c := 1073) tg_1073 ln_1073 g23 dX6_layOne_48 ?_
      refine z_i2l h dX6_layOne_49 ?_
      refine z_aload_n h dX6_layOne_50 rfl 0 rfl ?_
      refine z_gfR h zC6 (d := 1085) (c := 1067) tg_1067 ln_1067 23 rfl ft_6_23 rf_1067_23 wd_107 dX6_layOne_51 ?_
      refine z_iload_n h dX6_layOne_54 rfl 2 rfl ?_
      obtain ⟨g24, hf⟩ := ck_out hf
      refine z_lald h (c := 1085) tg_1085 ln_1085 g24 dX6_layOne_55 ?_
      refine z_lconst h (v := (0 : Int64)) dX6_layOne_56 lc_0 ?_
      refine z_lif_ge h (tgt := 71) dX6_layOne_57 dX6_layOne_58 (by decide) (fun g25 => ?_) (fun g25 => ?_)
      · have hf := it_neg g25 hf
        refine z_aload_n h dX6_layOne_71 rfl 0 rfl ?_
        refine z_gfR h zC6 (d := 1085) (c := 1067) tg_1067 ln_1067 23 rfl ft_6_23 rf_1067_23 wd_107 dX6_layOne_72 ?_
        refine z_iload_n h dX6_layOne_75 rfl 2 rfl ?_
        obtain ⟨g26, hf⟩ := ck_out hf
        refine z_lald h (c := 1085) tg_1085 ln_1085 g26 dX6_layOne_76 ?_
        exact z_sub [0, 1, 2] rfl (k_X6_layOne_b77 h hq N x1 x2 (gJ σ22 1067 25) ((gI σ22 1073 ((x2 / (2 : Int32)).toNatClampNeg)).toInt64) (gJ σ22 1085 (x2.toNatClampNeg)) (fun x2_ σ_ hf_ => ih x2_ σ_ hf_) _ hf)
      · have hf := it_pos g25 hf
        refine z_aload_n h dX6_layOne_61 rfl 0 rfl ?_
        refine z_gfR h zC6 (d := 1085) (c := 1067) tg_1067 ln_1067 23 rfl ft_6_23 rf_1067_23 wd_107 dX6_layOne_62 ?_
        refine z_iload_n h dX6_layOne_65 rfl 2 rfl ?_
        obtain ⟨g30, hf⟩ := ck_out hf
        refine z_lald h (c := 1085) tg_1085 ln_1085 g30 dX6_layOne_66 ?_
        refine z_lneg h dX6_layOne_67 ?_
        refine z_goto h (tgt := 77) dX6_layOne_68 (by decide) ?_
        exact z_sub [0, 1, 2] rfl (k_X6_layOne_b77 h hq N x1 x2 (gJ σ22 1067 25) ((gI σ22 1073 ((x2 / (2 : Int32)).toNatClampNeg)).toInt64) (-(gJ σ22 1085 (x2.toNatClampNeg))) (fun x2_ σ_ hf_ => ih x2_ σ_ hf_) _ hf)
set_option maxHeartbeats 4000000 in
set_option maxRecDepth 100000 in
theorem c_X6_layOne (l : Launch) (G : ZG) {N : Nat} {x1 : Int32} {σ σ' : ZS} {r : Unit} (hf : f_X6_layOne N x1 σ = some (r, σ')) : zMet l G yX6_layOne cX6_layOne 4 none rm_X6_layOne [.ref (G.1 1067), .int x1] σ none σ' := by
  refine z_met (by decide +kernel) rfl (fun Y h hq => ?_)
  have h : zOk (l, rm_X6_layOne, 4, 0, 0) Y G cX6_layOne RX6 none := h
  rw [f_X6_layOne] at hf
  refine z_sub (lv' := [(0, .ref (G.1 1067)), (1, .int x1)]) [0, 1] rfl ?_
  refine z_aload_n h dX6_layOne_0 rfl 0 rfl ?_
  refine z_lconst h (v := (0 : Int64)) dX6_layOne_1 lc_0 ?_
  refine z_pfJ h zC6 (c := 1067) tg_1067 ln_1067 25 rfl ft_6_25 wd_545 rfl (ty := .long) (by decide +kernel) rfl rfl dX6_layOne_2 ?_
  refine z_gen (fun σ1 eσ1 => ?_)
  have hf := bd_to eσ1 hf
  refine z_iconst h (v := (0 : Int32)) dX6_layOne_5 ic_0 ?_
  refine z_istore_n h dX6_layOne_6 rfl (lv' := [(2, .int (0 : Int32)), (0, .ref (G.1 1067)), (1, .int x1)]) rfl rfl ?_
  exact z_sub [1, 2, 0] rfl (k_X6_layOne_h7 h hq N x1 _ _ _ hf)
theorem dX6_floor_0 : decode cX6_floor 0 = .ok (.lload_n 0, 1) := by decide +kernel
theorem dX6_floor_1 : decode cX6_floor 1 = .ok (.lload_n 2, 1) := by decide +kernel
theorem dX6_floor_2 : decode cX6_floor 2 = .ok (.ldiv, 1) := by decide +kernel
theorem dX6_floor_3 : decode cX6_floor 3 = .ok (.lstore 4, 2) := by decide +kernel
theorem dX6_floor_5 : decode cX6_floor 5 = .ok (.lload_n 0, 1) := by decide +kernel
theorem dX6_floor_6 : decode cX6_floor 6 = .ok (.lload_n 2, 1) := by decide +kernel
theorem dX6_floor_7 : decode cX6_floor 7 = .ok (.lrem, 1) := by decide +kernel
theorem dX6_floor_8 : decode cX6_floor 8 = .ok (.lconst 0, 1) := by decide +kernel
theorem dX6_floor_9 : decode cX6_floor 9 = .ok (.lcmp, 1) := by decide +kernel
theorem dX6_floor_10 : decode cX6_floor 10 = .ok (.ifCond .ge 10, 3) := by decide +kernel
theorem dX6_floor_13 : decode cX6_floor 13 = .ok (.lload 4, 2) := by decide +kernel
theorem dX6_floor_15 : decode cX6_floor 15 = .ok (.lconst 1, 1) := by decide +kernel
theorem dX6_floor_16 : decode cX6_floor 16 = .ok (.lsub, 1) := by decide +kernel
theorem dX6_floor_17 : decode cX6_floor 17 = .ok (.goto 5, 3) := by decide +kernel
theorem dX6_floor_20 : decode cX6_floor 20 = .ok (.lload 4, 2) := by decide +kernel
theorem dX6_floor_22 : decode cX6_floor 22 = .ok (.lreturn, 1) := by decide +kernel
abbrev rm_X6_floor : Room := { frames := 0, cells := 0, slots := 0, locals := 0 }
noncomputable def f_X6_floor (N : Nat) (x0 : Int64) (x2 : Int64) (σ : ZS) : Option (Int64 × ZS) := ck (!(x2 == 0)) (bd (x0 / x2) fun v2 => ck (!(x2 == 0)) ((if (lrm x0 x2) < (0 : Int64) then some (v2 - (1 : Int64), σ) else some (v2, σ))))
set_option maxHeartbeats 4000000 in
set_option maxRecDepth 100000 in
theorem c_X6_floor (l : Launch) (G : ZG) {N : Nat} {x0 : Int64} {x2 : Int64} {σ σ' : ZS} {r : Int64} (hf : f_X6_floor N x0 x2 σ = some (r, σ')) : zMet l G yX6_floor cX6_floor 6 (some .long) rm_X6_floor [.long x0, .long x2] σ (some (.long r)) σ' := by
  refine z_met (by decide +kernel) rfl (fun Y h hq => ?_)
  have h : zOk (l, rm_X6_floor, 6, 0, 0) Y G cX6_floor RX6 (some .long) := h
  rw [f_X6_floor] at hf
  refine z_sub (lv' := [(0, .long x0), (2, .long x2)]) [0, 1] rfl ?_
  refine z_lload_n h dX6_floor_0 rfl 0 rfl ?_
  refine z_lload_n h dX6_floor_1 rfl 1 rfl ?_
  obtain ⟨g1, hf⟩ := ck_out hf
  refine z_ldiv h dX6_floor_2 (nz_of g1) ?_
  refine z_topJ (fun v2 ev2 => ?_)
  have hf := bd_to ev2 hf
  refine z_lstore h dX6_floor_3 (lv' := [(4, .long v2), (0, .long x0), (2, .long x2)]) rfl rfl ?_
  refine z_lload_n h dX6_floor_5 rfl 1 rfl ?_
  refine z_lload_n h dX6_floor_6 rfl 2 rfl ?_
  obtain ⟨g3, hf⟩ := ck_out hf
  refine z_lrem h dX6_floor_7 (nz_of g3) ?_
  refine z_lconst h (v := (0 : Int64)) dX6_floor_8 lc_0 ?_
  refine z_lif_ge h (tgt := 20) dX6_floor_9 dX6_floor_10 (by decide) (fun g4 => ?_) (fun g4 => ?_)
  · have hf := it_neg g4 hf
    refine z_lload h dX6_floor_20 0 rfl ?_
    exact z_lret h (rt_J hf hq) dX6_floor_22
  · have hf := it_pos g4 hf
    refine z_lload h dX6_floor_13 0 rfl ?_
    refine z_lconst h (v := (1 : Int64)) dX6_floor_15 lc_1 ?_
    refine z_lsub h dX6_floor_16 ?_
    refine z_goto h (tgt := 22) dX6_floor_17 (by decide) ?_
    exact z_lret h (rt_J hf hq) dX6_floor_22
theorem dX6_compare_0 : decode cX6_compare 0 = .ok (.lload_n 0, 1) := by decide +kernel
theorem dX6_compare_1 : decode cX6_compare 1 = .ok (.lstore 8, 2) := by decide +kernel
theorem dX6_compare_3 : decode cX6_compare 3 = .ok (.lload_n 2, 1) := by decide +kernel
theorem dX6_compare_4 : decode cX6_compare 4 = .ok (.lstore 10, 2) := by decide +kernel
theorem dX6_compare_6 : decode cX6_compare 6 = .ok (.lload 4, 2) := by decide +kernel
theorem dX6_compare_8 : decode cX6_compare 8 = .ok (.lstore 12, 2) := by decide +kernel
theorem dX6_compare_10 : decode cX6_compare 10 = .ok (.lload 6, 2) := by decide +kernel
theorem dX6_compare_12 : decode cX6_compare 12 = .ok (.lstore 14, 2) := by decide +kernel
theorem dX6_compare_14 : decode cX6_compare 14 = .ok (.iconst 1, 1) := by decide +kernel
theorem dX6_compare_15 : decode cX6_compare 15 = .ok (.istore 16, 2) := by decide +kernel
theorem dX6_compare_17 : decode cX6_compare 17 = .ok (.iconst 0, 1) := by decide +kernel
theorem dX6_compare_18 : decode cX6_compare 18 = .ok (.istore 17, 2) := by decide +kernel
theorem dX6_compare_20 : decode cX6_compare 20 = .ok (.iload 17, 2) := by decide +kernel
theorem dX6_compare_22 : decode cX6_compare 22 = .ok (.sipush 200, 3) := by decide +kernel
theorem dX6_compare_25 : decode cX6_compare 25 = .ok (.if_icmp .ge 135, 3) := by decide +kernel
theorem dX6_compare_28 : decode cX6_compare 28 = .ok (.lload 8, 2) := by decide +kernel
theorem dX6_compare_30 : decode cX6_compare 30 = .ok (.lload 10, 2) := by decide +kernel
theorem dX6_compare_32 : decode cX6_compare 32 = .ok (.invokestatic 224, 3) := by decide +kernel
theorem dX6_compare_35 : decode cX6_compare 35 = .ok (.lstore 18, 2) := by decide +kernel
theorem dX6_compare_37 : decode cX6_compare 37 = .ok (.lload 12, 2) := by decide +kernel
theorem dX6_compare_39 : decode cX6_compare 39 = .ok (.lload 14, 2) := by decide +kernel
theorem dX6_compare_41 : decode cX6_compare 41 = .ok (.invokestatic 224, 3) := by decide +kernel
theorem dX6_compare_44 : decode cX6_compare 44 = .ok (.lstore 20, 2) := by decide +kernel
theorem dX6_compare_46 : decode cX6_compare 46 = .ok (.lload 18, 2) := by decide +kernel
theorem dX6_compare_48 : decode cX6_compare 48 = .ok (.lload 20, 2) := by decide +kernel
theorem dX6_compare_50 : decode cX6_compare 50 = .ok (.lcmp, 1) := by decide +kernel
theorem dX6_compare_51 : decode cX6_compare 51 = .ok (.ifCond .eq 20, 3) := by decide +kernel
theorem dX6_compare_54 : decode cX6_compare 54 = .ok (.lload 18, 2) := by decide +kernel
theorem dX6_compare_56 : decode cX6_compare 56 = .ok (.lload 20, 2) := by decide +kernel
theorem dX6_compare_58 : decode cX6_compare 58 = .ok (.lcmp, 1) := by decide +kernel
theorem dX6_compare_59 : decode cX6_compare 59 = .ok (.ifCond .ge 9, 3) := by decide +kernel
theorem dX6_compare_62 : decode cX6_compare 62 = .ok (.iload 16, 2) := by decide +kernel
theorem dX6_compare_64 : decode cX6_compare 64 = .ok (.ineg, 1) := by decide +kernel
theorem dX6_compare_65 : decode cX6_compare 65 = .ok (.goto 5, 3) := by decide +kernel
theorem dX6_compare_68 : decode cX6_compare 68 = .ok (.iload 16, 2) := by decide +kernel
theorem dX6_compare_70 : decode cX6_compare 70 = .ok (.ireturn, 1) := by decide +kernel
theorem dX6_compare_71 : decode cX6_compare 71 = .ok (.lload 8, 2) := by decide +kernel
theorem dX6_compare_73 : decode cX6_compare 73 = .ok (.lload 18, 2) := by decide +kernel
theorem dX6_compare_75 : decode cX6_compare 75 = .ok (.lload 10, 2) := by decide +kernel
theorem dX6_compare_77 : decode cX6_compare 77 = .ok (.lmul, 1) := by decide +kernel
theorem dX6_compare_78 : decode cX6_compare 78 = .ok (.lsub, 1) := by decide +kernel
theorem dX6_compare_79 : decode cX6_compare 79 = .ok (.lstore 22, 2) := by decide +kernel
theorem dX6_compare_81 : decode cX6_compare 81 = .ok (.lload 12, 2) := by decide +kernel
theorem dX6_compare_83 : decode cX6_compare 83 = .ok (.lload 20, 2) := by decide +kernel
theorem dX6_compare_85 : decode cX6_compare 85 = .ok (.lload 14, 2) := by decide +kernel
theorem dX6_compare_87 : decode cX6_compare 87 = .ok (.lmul, 1) := by decide +kernel
theorem dX6_compare_88 : decode cX6_compare 88 = .ok (.lsub, 1) := by decide +kernel
theorem dX6_compare_89 : decode cX6_compare 89 = .ok (.lstore 24, 2) := by decide +kernel
theorem dX6_compare_91 : decode cX6_compare 91 = .ok (.lload 22, 2) := by decide +kernel
theorem dX6_compare_93 : decode cX6_compare 93 = .ok (.lconst 0, 1) := by decide +kernel
theorem dX6_compare_94 : decode cX6_compare 94 = .ok (.lcmp, 1) := by decide +kernel
theorem dX6_compare_95 : decode cX6_compare 95 = .ok (.ifCond .eq 10, 3) := by decide +kernel
theorem dX6_compare_98 : decode cX6_compare 98 = .ok (.lload 24, 2) := by decide +kernel
theorem dX6_compare_100 : decode cX6_compare 100 = .ok (.lconst 0, 1) := by decide +kernel
theorem dX6_compare_101 : decode cX6_compare 101 = .ok (.lcmp, 1) := by decide +kernel
theorem dX6_compare_102 : decode cX6_compare 102 = .ok (.ifCond .ne 31, 3) := by decide +kernel
theorem dX6_compare_105 : decode cX6_compare 105 = .ok (.lload 22, 2) := by decide +kernel
theorem dX6_compare_107 : decode cX6_compare 107 = .ok (.lload 24, 2) := by decide +kernel
theorem dX6_compare_109 : decode cX6_compare 109 = .ok (.lcmp, 1) := by decide +kernel
theorem dX6_compare_110 : decode cX6_compare 110 = .ok (.ifCond .ne 7, 3) := by decide +kernel
theorem dX6_compare_113 : decode cX6_compare 113 = .ok (.iconst 0, 1) := by decide +kernel
theorem dX6_compare_114 : decode cX6_compare 114 = .ok (.goto 18, 3) := by decide +kernel
theorem dX6_compare_117 : decode cX6_compare 117 = .ok (.lload 22, 2) := by decide +kernel
theorem dX6_compare_119 : decode cX6_compare 119 = .ok (.lconst 0, 1) := by decide +kernel
theorem dX6_compare_120 : decode cX6_compare 120 = .ok (.lcmp, 1) := by decide +kernel
theorem dX6_compare_121 : decode cX6_compare 121 = .ok (.ifCond .ne 9, 3) := by decide +kernel
theorem dX6_compare_124 : decode cX6_compare 124 = .ok (.iload 16, 2) := by decide +kernel
theorem dX6_compare_126 : decode cX6_compare 126 = .ok (.ineg, 1) := by decide +kernel
theorem dX6_compare_127 : decode cX6_compare 127 = .ok (.goto 5, 3) := by decide +kernel
theorem dX6_compare_130 : decode cX6_compare 130 = .ok (.iload 16, 2) := by decide +kernel
theorem dX6_compare_132 : decode cX6_compare 132 = .ok (.ireturn, 1) := by decide +kernel
theorem dX6_compare_133 : decode cX6_compare 133 = .ok (.lload 10, 2) := by decide +kernel
theorem dX6_compare_135 : decode cX6_compare 135 = .ok (.lstore 8, 2) := by decide +kernel
theorem dX6_compare_137 : decode cX6_compare 137 = .ok (.lload 22, 2) := by decide +kernel
theorem dX6_compare_139 : decode cX6_compare 139 = .ok (.lstore 10, 2) := by decide +kernel
theorem dX6_compare_141 : decode cX6_compare 141 = .ok (.lload 14, 2) := by decide +kernel
theorem dX6_compare_143 : decode cX6_compare 143 = .ok (.lstore 12, 2) := by decide +kernel
theorem dX6_compare_145 : decode cX6_compare 145 = .ok (.lload 24, 2) := by decide +kernel
theorem dX6_compare_147 : decode cX6_compare 147 = .ok (.lstore 14, 2) := by decide +kernel
theorem dX6_compare_149 : decode cX6_compare 149 = .ok (.iload 16, 2) := by decide +kernel
theorem dX6_compare_151 : decode cX6_compare 151 = .ok (.ineg, 1) := by decide +kernel
theorem dX6_compare_152 : decode cX6_compare 152 = .ok (.istore 16, 2) := by decide +kernel
theorem dX6_compare_154 : decode cX6_compare 154 = .ok (.iinc 17 1, 3) := by decide +kernel
theorem dX6_compare_157 : decode cX6_compare 157 = .ok (.goto (-137), 3) := by decide +kernel
theorem dX6_compare_160 : decode cX6_compare 160 = .ok (.iconst 0, 1) := by decide +kernel
theorem dX6_compare_161 : decode cX6_compare 161 = .ok (.ireturn, 1) := by decide +kernel
abbrev rm_X6_compare : Room := { frames := 1, cells := 0, slots := 0, locals := 33 }
noncomputable def f_X6_compare_b105 (N : Nat) (x16 : Int32) (x22 : Int64) (x24 : Int64) (σ : ZS) : Option (Int32 × ZS) := (if x22 = x24 then some ((0 : Int32), σ) else (if x22 = (0 : Int64) then some (-x16, σ) else some (x16, σ)))
noncomputable def f_X6_compare_h20 (N : Nat) : Nat → Int64 → Int64 → Int64 → Int64 → Int32 → Int32 → ZS → Option (Int32 × ZS)
  | 0, _, _, _, _, _, _, _ => none
  | n + 1, x8, x10, x12, x14, x16, x17, σ => (if (200 : Int32) ≤ x17 then some ((0 : Int32), σ) else obd (f_X6_floor N x8 x10 σ) fun v2 σ3 => obd (f_X6_floor N x12 x14 σ3) fun v4 σ5 => (if v2 = v4 then bd (x8 - (v2 * x10)) fun v7 => bd (x12 - (v4 * x14)) fun v8 => (if v7 = (0 : Int64) then f_X6_compare_b105 N x16 v7 v8 σ5 else (if v8 = (0 : Int64) then f_X6_compare_b105 N x16 v7 v8 σ5 else bd (-x16) fun v13 => bd (x17 + (1 : Int32)) fun v14 => f_X6_compare_h20 N n x10 v7 x14 v8 v13 v14 σ5)) else (if v2 < v4 then some (-x16, σ5) else some (x16, σ5))))
noncomputable def f_X6_compare (N : Nat) (x0 : Int64) (x2 : Int64) (x4 : Int64) (x6 : Int64) (σ : ZS) : Option (Int32 × ZS) := f_X6_compare_h20 N N x0 x2 x4 x6 (1 : Int32) (0 : Int32) σ
set_option maxHeartbeats 4000000 in
set_option maxRecDepth 100000 in
theorem k_X6_compare_b105 {l : Launch} {Y : ZY} {G : ZG} {r : Int32} {σ' : ZS} (h : zOk (l, rm_X6_compare, 26, 0, 0) Y G cX6_compare RX6 (some .int)) (hq : zRet (l, rm_X6_compare, 26, 0, 0) Y G (some (.int r)) σ') (N : Nat) (x16 : Int32) (x22 : Int64) (x24 : Int64) (σ : ZS) (hf : f_X6_compare_b105 N x16 x22 x24 σ = some (r, σ')) : Z (l, rm_X6_compare, 26, 0, 0) Y G σ [(16, .int x16), (22, .long x22), (24, .long x24)] [] 105 := by
  rw [f_X6_compare_b105] at hf
  refine z_lload h dX6_compare_105 1 rfl ?_
  refine z_lload h dX6_compare_107 2 rfl ?_
  refine z_lif_ne h (tgt := 117) dX6_compare_109 dX6_compare_110 (by decide) (fun g10 => ?_) (fun g10 => ?_)
  · have hf := it_neg g10 hf
    refine z_lload h dX6_compare_117 1 rfl ?_
    refine z_lconst h (v := (0 : Int64)) dX6_compare_119 lc_0 ?_
    refine z_lif_ne h (tgt := 130) dX6_compare_120 dX6_compare_121 (by decide) (fun g11 => ?_) (fun g11 => ?_)
    · have hf := it_neg g11 hf
      refine z_iload h dX6_compare_130 0 rfl ?_
      exact z_iret h (rt_I hf hq) dX6_compare_132
    · have hf := it_pos g11 hf
      refine z_iload h dX6_compare_124 0 rfl ?_
      refine z_ineg h dX6_compare_126 ?_
      refine z_goto h (tgt := 132) dX6_compare_127 (by decide) ?_
      exact z_iret h (rt_I hf hq) dX6_compare_132
  · have hf := it_pos g10 hf
    refine z_iconst h (v := (0 : Int32)) dX6_compare_113 ic_0 ?_
    refine z_goto h (tgt := 132) dX6_compare_114 (by decide) ?_
    exact z_iret h (rt_I hf hq) dX6_compare_132
set_option maxHeartbeats 4000000 in
set_option maxRecDepth 100000 in
theorem k_X6_compare_h20 {l : Launch} {Y : ZY} {G : ZG} {r : Int32} {σ' : ZS} (h : zOk (l, rm_X6_compare, 26, 0, 0) Y G cX6_compare RX6 (some .int)) (hq : zRet (l, rm_X6_compare, 26, 0, 0) Y G (some (.int r)) σ') (N : Nat) : ∀ (n : Nat) (x8 : Int64) (x10 : Int64) (x12 : Int64) (x14 : Int64) (x16 : Int32) (x17 : Int32) (σ : ZS), f_X6_compare_h20 N n x8 x10 x12 x14 x16 x17 σ = some (r, σ') → Z (l, rm_X6_compare, 26, 0, 0) Y G σ [(8, .long x8), (10, .long x10), (12, .long x12), (14, .long x14), (16, .int x16), (17, .int x17)] [] 20 := by
  intro n
  induction n with
  | zero =>
    intro x8 x10 x12 x14 x16 x17 σ hf
    rw [f_X6_compare_h20] at hf
    cases hf
  | succ n ih =>
    intro x8 x10 x12 x14 x16 x17 σ hf
    rw [f_X6_compare_h20] at hf
    refine z_iload h dX6_compare_20 5 rfl ?_
    refine z_sipush h (v := (200 : Int32)) dX6_compare_22 sp_200 ?_
    refine z_icmp_ge h (tgt := 160) dX6_compare_25 (by decide) (fun g1 => ?_) (fun g1 => ?_)
    · have hf := it_pos g1 hf
      refine z_iconst h (v := (0 : Int32)) dX6_compare_160 ic_0 ?_
      exact z_iret h (rt_I hf hq) dX6_compare_161
    · have hf := it_neg g1 hf
      refine z_lload h dX6_compare_28 0 rfl ?_
      refine z_lload h dX6_compare_30 1 rfl ?_
      obtain ⟨v2, σ3, e3, hf⟩ := obd_out hf
      refine z_cSv h (n := 2) (c_X6_floor l G e3) rfl wd_685 wd_686 wd_5 wd_687 (by decide +kernel) ⟨rfl, rfl⟩ rfl rfl rfl dX6_compare_32 ⟨Nat.zero_le _, Nat.zero_le _⟩ ?_
      refine z_lstore h dX6_compare_35 (lv' := [(18, .long v2), (8, .long x8), (10, .long x10), (12, .long x12), (14, .long x14), (16, .int x16), (17, .int x17)]) rfl rfl ?_
      refine z_lload h dX6_compare_37 3 rfl ?_
      refine z_lload h dX6_compare_39 4 rfl ?_
      obtain ⟨v4, σ5, e5, hf⟩ := obd_out hf
      refine z_cSv h (n := 2) (c_X6_floor l G e5) rfl wd_685 wd_686 wd_5 wd_687 (by decide +kernel) ⟨rfl, rfl⟩ rfl rfl rfl dX6_compare_41 ⟨Nat.zero_le _, Nat.zero_le _⟩ ?_
      refine z_lstore h dX6_compare_44 (lv' := [(20, .long v4), (18, .long v2), (8, .long x8), (10, .long x10), (12, .long x12), (14, .long x14), (16, .int x16), (17, .int x17)]) rfl rfl ?_
      refine z_lload h dX6_compare_46 1 rfl ?_
      refine z_lload h dX6_compare_48 0 rfl ?_
      refine z_lif_eq h (tgt := 71) dX6_compare_50 dX6_compare_51 (by decide) (fun g6 => ?_) (fun g6 => ?_)
      · have hf := it_pos g6 hf
        refine z_lload h dX6_compare_71 2 rfl ?_
        refine z_lload h dX6_compare_73 1 rfl ?_
        refine z_lload h dX6_compare_75 3 rfl ?_
        refine z_lmul h dX6_compare_77 ?_
        refine z_lsub h dX6_compare_78 ?_
        refine z_topJ (fun v7 ev7 => ?_)
        have hf := bd_to ev7 hf
        refine z_lstore h dX6_compare_79 (lv' := [(22, .long v7), (20, .long v4), (18, .long v2), (8, .long x8), (10, .long x10), (12, .long x12), (14, .long x14), (16, .int x16), (17, .int x17)]) rfl rfl ?_
        refine z_lload h dX6_compare_81 5 rfl ?_
        refine z_lload h dX6_compare_83 1 rfl ?_
        refine z_lload h dX6_compare_85 6 rfl ?_
        refine z_lmul h dX6_compare_87 ?_
        refine z_lsub h dX6_compare_88 ?_
        refine z_topJ (fun v8 ev8 => ?_)
        have hf := bd_to ev8 hf
        refine z_lstore h dX6_compare_89 (lv' := [(24, .long v8), (22, .long v7), (20, .long v4), (18, .long v2), (8, .long x8), (10, .long x10), (12, .long x12), (14, .long x14), (16, .int x16), (17, .int x17)]) rfl rfl ?_
        refine z_lload h dX6_compare_91 1 rfl ?_
        refine z_lconst h (v := (0 : Int64)) dX6_compare_93 lc_0 ?_
        refine z_lif_eq h (tgt := 105) dX6_compare_94 dX6_compare_95 (by decide) (fun g9 => ?_) (fun g9 => ?_)
        · have hf := it_pos g9 hf
          exact z_sub [8, 1, 0] rfl (k_X6_compare_b105 h hq N x16 v7 v8 _ hf)
        · have hf := it_neg g9 hf
          refine z_lload h dX6_compare_98 0 rfl ?_
          refine z_lconst h (v := (0 : Int64)) dX6_compare_100 lc_0 ?_
          refine z_lif_ne h (tgt := 133) dX6_compare_101 dX6_compare_102 (by decide) (fun g12 => ?_) (fun g12 => ?_)
          · have hf := it_neg g12 hf
            refine z_lload h dX6_compare_133 5 rfl ?_
            refine z_lstore h dX6_compare_135 (lv' := [(8, .long x10), (24, .long v8), (22, .long v7), (20, .long v4), (18, .long v2), (10, .long x10), (12, .long x12), (14, .long x14), (16, .int x16), (17, .int x17)]) rfl rfl ?_
            refine z_lload h dX6_compare_137 2 rfl ?_
            refine z_lstore h dX6_compare_139 (lv' := [(10, .long v7), (8, .long x10), (24, .long v8), (22, .long v7), (20, .long v4), (18, .long v2), (12, .long x12), (14, .long x14), (16, .int x16), (17, .int x17)]) rfl rfl ?_
            refine z_lload h dX6_compare_141 7 rfl ?_
            refine z_lstore h dX6_compare_143 (lv' := [(12, .long x14), (10, .long v7), (8, .long x10), (24, .long v8), (22, .long v7), (20, .long v4), (18, .long v2), (14, .long x14), (16, .int x16), (17, .int x17)]) rfl rfl ?_
            refine z_lload h dX6_compare_145 3 rfl ?_
            refine z_lstore h dX6_compare_147 (lv' := [(14, .long v8), (12, .long x14), (10, .long v7), (8, .long x10), (24, .long v8), (22, .long v7), (20, .long v4), (18, .long v2), (16, .int x16), (17, .int x17)]) rfl rfl ?_
            refine z_iload h dX6_compare_149 8 rfl ?_
            refine z_ineg h dX6_compare_151 ?_
            refine z_topI (fun v13 ev13 => ?_)
            have hf := bd_to ev13 hf
            refine z_istore h dX6_compare_152 (lv' := [(16, .int v13), (14, .long v8), (12, .long x14), (10, .long v7), (8, .long x10), (24, .long v8), (22, .long v7), (20, .long v4), (18, .long v2), (17, .int x17)]) rfl rfl ?_
            obtain ⟨v14, ev14, hf⟩ := bd_ex hf
            refine z_iinc h (v := v14) (lv' := [(17, .int v14), (16, .int v13), (14, .long v8), (12, .long x14), (10, .long v7), (8, .long x10), (24, .long v8), (22, .long v7), (20, .long v4), (18, .long v2)]) dX6_compare_154 9 rfl (by rw [ev14]; rfl) rfl rfl ?_
            refine z_goto h (tgt := 20) dX6_compare_157 (by decide) ?_
            exact z_sub [5, 4, 3, 2, 1, 0] rfl (ih _ _ _ _ _ _ _ hf)
          · have hf := it_pos g12 hf
            exact z_sub [8, 1, 0] rfl (k_X6_compare_b105 h hq N x16 v7 v8 _ hf)
      · have hf := it_neg g6 hf
        refine z_lload h dX6_compare_54 1 rfl ?_
        refine z_lload h dX6_compare_56 0 rfl ?_
        refine z_lif_ge h (tgt := 68) dX6_compare_58 dX6_compare_59 (by decide) (fun g15 => ?_) (fun g15 => ?_)
        · have hf := it_neg g15 hf
          refine z_iload h dX6_compare_68 6 rfl ?_
          exact z_iret h (rt_I hf hq) dX6_compare_70
        · have hf := it_pos g15 hf
          refine z_iload h dX6_compare_62 6 rfl ?_
          refine z_ineg h dX6_compare_64 ?_
          refine z_goto h (tgt := 70) dX6_compare_65 (by decide) ?_
          exact z_iret h (rt_I hf hq) dX6_compare_70
set_option maxHeartbeats 4000000 in
set_option maxRecDepth 100000 in
theorem c_X6_compare (l : Launch) (G : ZG) {N : Nat} {x0 : Int64} {x2 : Int64} {x4 : Int64} {x6 : Int64} {σ σ' : ZS} {r : Int32} (hf : f_X6_compare N x0 x2 x4 x6 σ = some (r, σ')) : zMet l G yX6_compare cX6_compare 26 (some .int) rm_X6_compare [.long x0, .long x2, .long x4, .long x6] σ (some (.int r)) σ' := by
  refine z_met (by decide +kernel) rfl (fun Y h hq => ?_)
  have h : zOk (l, rm_X6_compare, 26, 0, 0) Y G cX6_compare RX6 (some .int) := h
  rw [f_X6_compare] at hf
  refine z_sub (lv' := [(0, .long x0), (2, .long x2), (4, .long x4), (6, .long x6)]) [0, 1, 2, 3] rfl ?_
  refine z_lload_n h dX6_compare_0 rfl 0 rfl ?_
  refine z_lstore h dX6_compare_1 (lv' := [(8, .long x0), (0, .long x0), (2, .long x2), (4, .long x4), (6, .long x6)]) rfl rfl ?_
  refine z_lload_n h dX6_compare_3 rfl 2 rfl ?_
  refine z_lstore h dX6_compare_4 (lv' := [(10, .long x2), (8, .long x0), (0, .long x0), (2, .long x2), (4, .long x4), (6, .long x6)]) rfl rfl ?_
  refine z_lload h dX6_compare_6 4 rfl ?_
  refine z_lstore h dX6_compare_8 (lv' := [(12, .long x4), (10, .long x2), (8, .long x0), (0, .long x0), (2, .long x2), (4, .long x4), (6, .long x6)]) rfl rfl ?_
  refine z_lload h dX6_compare_10 6 rfl ?_
  refine z_lstore h dX6_compare_12 (lv' := [(14, .long x6), (12, .long x4), (10, .long x2), (8, .long x0), (0, .long x0), (2, .long x2), (4, .long x4), (6, .long x6)]) rfl rfl ?_
  refine z_iconst h (v := (1 : Int32)) dX6_compare_14 ic_1 ?_
  refine z_istore h dX6_compare_15 (lv' := [(16, .int (1 : Int32)), (14, .long x6), (12, .long x4), (10, .long x2), (8, .long x0), (0, .long x0), (2, .long x2), (4, .long x4), (6, .long x6)]) rfl rfl ?_
  refine z_iconst h (v := (0 : Int32)) dX6_compare_17 ic_0 ?_
  refine z_istore h dX6_compare_18 (lv' := [(17, .int (0 : Int32)), (16, .int (1 : Int32)), (14, .long x6), (12, .long x4), (10, .long x2), (8, .long x0), (0, .long x0), (2, .long x2), (4, .long x4), (6, .long x6)]) rfl rfl ?_
  exact z_sub [5, 4, 3, 2, 1, 0] rfl (k_X6_compare_h20 h hq N _ _ _ _ _ _ _ _ hf)
theorem dX6_part_0 : decode cX6_part 0 = .ok (.lload_n 0, 1) := by decide +kernel
theorem dX6_part_1 : decode cX6_part 1 = .ok (.lload_n 2, 1) := by decide +kernel
theorem dX6_part_2 : decode cX6_part 2 = .ok (.invokestatic 179, 3) := by decide +kernel
theorem dX6_part_5 : decode cX6_part 5 = .ok (.lstore 5, 2) := by decide +kernel
theorem dX6_part_7 : decode cX6_part 7 = .ok (.iload 4, 2) := by decide +kernel
theorem dX6_part_9 : decode cX6_part 9 = .ok (.iconst 2, 1) := by decide +kernel
theorem dX6_part_10 : decode cX6_part 10 = .ok (.irem, 1) := by decide +kernel
theorem dX6_part_11 : decode cX6_part 11 = .ok (.ifCond .ne 10, 3) := by decide +kernel
theorem dX6_part_14 : decode cX6_part 14 = .ok (.lload_n 0, 1) := by decide +kernel
theorem dX6_part_15 : decode cX6_part 15 = .ok (.lload 5, 2) := by decide +kernel
theorem dX6_part_17 : decode cX6_part 17 = .ok (.ldiv, 1) := by decide +kernel
theorem dX6_part_18 : decode cX6_part 18 = .ok (.goto 7, 3) := by decide +kernel
theorem dX6_part_21 : decode cX6_part 21 = .ok (.lload_n 2, 1) := by decide +kernel
theorem dX6_part_22 : decode cX6_part 22 = .ok (.lload 5, 2) := by decide +kernel
theorem dX6_part_24 : decode cX6_part 24 = .ok (.ldiv, 1) := by decide +kernel
theorem dX6_part_25 : decode cX6_part 25 = .ok (.lreturn, 1) := by decide +kernel
abbrev rm_X6_part : Room := { frames := 1, cells := 0, slots := 0, locals := 38 }
noncomputable def f_X6_part (N : Nat) (x0 : Int64) (x2 : Int64) (x4 : Int32) (σ : ZS) : Option (Int64 × ZS) := obd (f_X6_common N x0 x2 σ) fun v1 σ2 => (if (irm x4 (2 : Int32)) = 0 then ck (!(v1 == 0)) (some (x0 / v1, σ2)) else ck (!(v1 == 0)) (some (x2 / v1, σ2)))
set_option maxHeartbeats 4000000 in
set_option maxRecDepth 100000 in
theorem c_X6_part (l : Launch) (G : ZG) {N : Nat} {x0 : Int64} {x2 : Int64} {x4 : Int32} {σ σ' : ZS} {r : Int64} (hf : f_X6_part N x0 x2 x4 σ = some (r, σ')) : zMet l G yX6_part cX6_part 7 (some .long) rm_X6_part [.long x0, .long x2, .int x4] σ (some (.long r)) σ' := by
  refine z_met (by decide +kernel) rfl (fun Y h hq => ?_)
  have h : zOk (l, rm_X6_part, 7, 0, 0) Y G cX6_part RX6 (some .long) := h
  rw [f_X6_part] at hf
  refine z_sub (lv' := [(0, .long x0), (2, .long x2), (4, .int x4)]) [0, 1, 2] rfl ?_
  refine z_lload_n h dX6_part_0 rfl 0 rfl ?_
  refine z_lload_n h dX6_part_1 rfl 1 rfl ?_
  obtain ⟨v1, σ2, e2, hf⟩ := obd_out hf
  refine z_cSv h (n := 2) (c_X6_common l G e2) rfl wd_463 wd_464 wd_5 wd_465 (by decide +kernel) ⟨rfl, rfl⟩ rfl rfl rfl dX6_part_2 ⟨Nat.zero_le _, Nat.zero_le _⟩ ?_
  refine z_lstore h dX6_part_5 (lv' := [(5, .long v1), (0, .long x0), (2, .long x2), (4, .int x4)]) rfl rfl ?_
  refine z_iload h dX6_part_7 3 rfl ?_
  refine z_iconst h (v := (2 : Int32)) dX6_part_9 ic_2 ?_
  refine z_irem h dX6_part_10 (by decide) ?_
  refine z_if_ne h (tgt := 21) dX6_part_11 (by decide) (fun g3 => ?_) (fun g3 => ?_)
  · have hf := it_neg g3 hf
    refine z_lload_n h dX6_part_21 rfl 2 rfl ?_
    refine z_lload h dX6_part_22 0 rfl ?_
    obtain ⟨g4, hf⟩ := ck_out hf
    refine z_ldiv h dX6_part_24 (nz_of g4) ?_
    exact z_lret h (rt_J hf hq) dX6_part_25
  · have hf := it_pos g3 hf
    refine z_lload_n h dX6_part_14 rfl 1 rfl ?_
    refine z_lload h dX6_part_15 0 rfl ?_
    obtain ⟨g5, hf⟩ := ck_out hf
    refine z_ldiv h dX6_part_17 (nz_of g5) ?_
    refine z_goto h (tgt := 25) dX6_part_18 (by decide) ?_
    exact z_lret h (rt_J hf hq) dX6_part_25
theorem dX6_strengthOf_0 : decode cX6_strengthOf 0 = .ok (.iload_n 1, 1) := by decide +kernel
theorem dX6_strengthOf_1 : decode cX6_strengthOf 1 = .ok (.iconst 2, 1) := by decide +kernel
theorem dX6_strengthOf_2 : decode cX6_strengthOf 2 = .ok (.idiv, 1) := by decide +kernel
theorem dX6_strengthOf_3 : decode cX6_strengthOf 3 = .ok (.aload_n 0, 1) := by decide +kernel
theorem dX6_strengthOf_4 : decode cX6_strengthOf 4 = .ok (.getfield 82, 3) := by decide +kernel
theorem dX6_strengthOf_7 : decode cX6_strengthOf 7 = .ok (.if_icmp .ne 11, 3) := by decide +kernel
theorem dX6_strengthOf_10 : decode cX6_strengthOf 10 = .ok (.aload_n 0, 1) := by decide +kernel
theorem dX6_strengthOf_11 : decode cX6_strengthOf 11 = .ok (.getfield 227, 3) := by decide +kernel
theorem dX6_strengthOf_14 : decode cX6_strengthOf 14 = .ok (.i2l, 1) := by decide +kernel
theorem dX6_strengthOf_15 : decode cX6_strengthOf 15 = .ok (.goto 12, 3) := by decide +kernel
theorem dX6_strengthOf_18 : decode cX6_strengthOf 18 = .ok (.aload_n 0, 1) := by decide +kernel
theorem dX6_strengthOf_19 : decode cX6_strengthOf 19 = .ok (.getfield 25, 3) := by decide +kernel
theorem dX6_strengthOf_22 : decode cX6_strengthOf 22 = .ok (.iload_n 1, 1) := by decide +kernel
theorem dX6_strengthOf_23 : decode cX6_strengthOf 23 = .ok (.iconst 2, 1) := by decide +kernel
theorem dX6_strengthOf_24 : decode cX6_strengthOf 24 = .ok (.idiv, 1) := by decide +kernel
theorem dX6_strengthOf_25 : decode cX6_strengthOf 25 = .ok (.iaload, 1) := by decide +kernel
theorem dX6_strengthOf_26 : decode cX6_strengthOf 26 = .ok (.i2l, 1) := by decide +kernel
theorem dX6_strengthOf_27 : decode cX6_strengthOf 27 = .ok (.lreturn, 1) := by decide +kernel
abbrev rm_X6_strengthOf : Room := { frames := 0, cells := 0, slots := 0, locals := 0 }
noncomputable def f_X6_strengthOf (N : Nat) (x1 : Int32) (σ : ZS) : Option (Int64 × ZS) := (if (x1 / (2 : Int32)) = (gI σ 1067 30) then some ((gI σ 1067 31).toInt64, σ) else ck (inb (x1 / (2 : Int32)) 6) (some ((gI σ 1073 ((x1 / (2 : Int32)).toNatClampNeg)).toInt64, σ)))
set_option maxHeartbeats 4000000 in
set_option maxRecDepth 100000 in
theorem c_X6_strengthOf (l : Launch) (G : ZG) {N : Nat} {x1 : Int32} {σ σ' : ZS} {r : Int64} (hf : f_X6_strengthOf N x1 σ = some (r, σ')) : zMet l G yX6_strengthOf cX6_strengthOf 2 (some .long) rm_X6_strengthOf [.ref (G.1 1067), .int x1] σ (some (.long r)) σ' := by
  refine z_met (by decide +kernel) rfl (fun Y h hq => ?_)
  have h : zOk (l, rm_X6_strengthOf, 2, 0, 0) Y G cX6_strengthOf RX6 (some .long) := h
  rw [f_X6_strengthOf] at hf
  refine z_sub (lv' := [(0, .ref (G.1 1067)), (1, .int x1)]) [0, 1] rfl ?_
  refine z_iload_n h dX6_strengthOf_0 rfl 1 rfl ?_
  refine z_iconst h (v := (2 : Int32)) dX6_strengthOf_1 ic_2 ?_
  refine z_idiv h dX6_strengthOf_2 (by decide) ?_
  refine z_aload_n h dX6_strengthOf_3 rfl 0 rfl ?_
  refine z_gfI h zC6 (c := 1067) tg_1067 ln_1067 30 rfl ft_6_30 wd_112 dX6_strengthOf_4 ?_
  refine z_icmp_ne h (tgt := 18) dX6_strengthOf_7 (by decide) (fun g1 => ?_) (fun g1 => ?_)
  · have hf := it_neg g1 hf
    refine z_aload_n h dX6_strengthOf_18 rfl 0 rfl ?_
    refine z_gfR h zC6 (d := 1073) (c := 1067) tg_1067 ln_1067 7 rfl ft_6_7 rf_1067_7 wd_93 dX6_strengthOf_19 ?_
    refine z_iload_n h dX6_strengthOf_22 rfl 1 rfl ?_
    refine z_iconst h (v := (2 : Int32)) dX6_strengthOf_23 ic_2 ?_
    refine z_idiv h dX6_strengthOf_24 (by decide) ?_
    obtain ⟨g2, hf⟩ := ck_out hf
    refine z_iald h (c := 1073) tg_1073 ln_1073 g2 dX6_strengthOf_25 ?_
    refine z_i2l h dX6_strengthOf_26 ?_
    exact z_lret h (rt_J hf hq) dX6_strengthOf_27
  · have hf := it_pos g1 hf
    refine z_aload_n h dX6_strengthOf_10 rfl 0 rfl ?_
    refine z_gfI h zC6 (c := 1067) tg_1067 ln_1067 31 rfl ft_6_31 wd_667 dX6_strengthOf_11 ?_
    refine z_i2l h dX6_strengthOf_14 ?_
    refine z_goto h (tgt := 27) dX6_strengthOf_15 (by decide) ?_
    exact z_lret h (rt_J hf hq) dX6_strengthOf_27
theorem dX6_layRules_0 : decode cX6_layRules 0 = .ok (.iconst 0, 1) := by decide +kernel
theorem dX6_layRules_1 : decode cX6_layRules 1 = .ok (.istore_n 1, 1) := by decide +kernel
theorem dX6_layRules_2 : decode cX6_layRules 2 = .ok (.iload_n 1, 1) := by decide +kernel
theorem dX6_layRules_3 : decode cX6_layRules 3 = .ok (.sipush 180, 3) := by decide +kernel
theorem dX6_layRules_6 : decode cX6_layRules 6 = .ok (.if_icmp .ge 16, 3) := by decide +kernel
theorem dX6_layRules_9 : decode cX6_layRules 9 = .ok (.aload_n 0, 1) := by decide +kernel
theorem dX6_layRules_10 : decode cX6_layRules 10 = .ok (.getfield 73, 3) := by decide +kernel
theorem dX6_layRules_13 : decode cX6_layRules 13 = .ok (.iload_n 1, 1) := by decide +kernel
theorem dX6_layRules_14 : decode cX6_layRules 14 = .ok (.lconst 0, 1) := by decide +kernel
theorem dX6_layRules_15 : decode cX6_layRules 15 = .ok (.lastore, 1) := by decide +kernel
theorem dX6_layRules_16 : decode cX6_layRules 16 = .ok (.iinc 1 1, 3) := by decide +kernel
theorem dX6_layRules_19 : decode cX6_layRules 19 = .ok (.goto (-17), 3) := by decide +kernel
theorem dX6_layRules_22 : decode cX6_layRules 22 = .ok (.iconst 0, 1) := by decide +kernel
theorem dX6_layRules_23 : decode cX6_layRules 23 = .ok (.istore_n 1, 1) := by decide +kernel
theorem dX6_layRules_24 : decode cX6_layRules 24 = .ok (.iload_n 1, 1) := by decide +kernel
theorem dX6_layRules_25 : decode cX6_layRules 25 = .ok (.aload_n 0, 1) := by decide +kernel
theorem dX6_layRules_26 : decode cX6_layRules 26 = .ok (.getfield 165, 3) := by decide +kernel
theorem dX6_layRules_29 : decode cX6_layRules 29 = .ok (.if_icmp .ge 49, 3) := by decide +kernel
theorem dX6_layRules_32 : decode cX6_layRules 32 = .ok (.iconst 0, 1) := by decide +kernel
theorem dX6_layRules_33 : decode cX6_layRules 33 = .ok (.istore_n 2, 1) := by decide +kernel
theorem dX6_layRules_34 : decode cX6_layRules 34 = .ok (.iload_n 2, 1) := by decide +kernel
theorem dX6_layRules_35 : decode cX6_layRules 35 = .ok (.iconst 2, 1) := by decide +kernel
theorem dX6_layRules_36 : decode cX6_layRules 36 = .ok (.aload_n 0, 1) := by decide +kernel
theorem dX6_layRules_37 : decode cX6_layRules 37 = .ok (.getfield 141, 3) := by decide +kernel
theorem dX6_layRules_40 : decode cX6_layRules 40 = .ok (.imul, 1) := by decide +kernel
theorem dX6_layRules_41 : decode cX6_layRules 41 = .ok (.if_icmp .ge 31, 3) := by decide +kernel
theorem dX6_layRules_44 : decode cX6_layRules 44 = .ok (.aload_n 0, 1) := by decide +kernel
theorem dX6_layRules_45 : decode cX6_layRules 45 = .ok (.getfield 73, 3) := by decide +kernel
theorem dX6_layRules_48 : decode cX6_layRules 48 = .ok (.bipush 15, 2) := by decide +kernel
theorem dX6_layRules_50 : decode cX6_layRules 50 = .ok (.iload_n 1, 1) := by decide +kernel
theorem dX6_layRules_51 : decode cX6_layRules 51 = .ok (.imul, 1) := by decide +kernel
theorem dX6_layRules_52 : decode cX6_layRules 52 = .ok (.iload_n 2, 1) := by decide +kernel
theorem dX6_layRules_53 : decode cX6_layRules 53 = .ok (.iadd, 1) := by decide +kernel
theorem dX6_layRules_54 : decode cX6_layRules 54 = .ok (.aload_n 0, 1) := by decide +kernel
theorem dX6_layRules_55 : decode cX6_layRules 55 = .ok (.getfield 41, 3) := by decide +kernel
theorem dX6_layRules_58 : decode cX6_layRules 58 = .ok (.bipush 21, 2) := by decide +kernel
theorem dX6_layRules_60 : decode cX6_layRules 60 = .ok (.iload_n 2, 1) := by decide +kernel
theorem dX6_layRules_61 : decode cX6_layRules 61 = .ok (.imul, 1) := by decide +kernel
theorem dX6_layRules_62 : decode cX6_layRules 62 = .ok (.iload_n 1, 1) := by decide +kernel
theorem dX6_layRules_63 : decode cX6_layRules 63 = .ok (.iadd, 1) := by decide +kernel
theorem dX6_layRules_64 : decode cX6_layRules 64 = .ok (.laload, 1) := by decide +kernel
theorem dX6_layRules_65 : decode cX6_layRules 65 = .ok (.lastore, 1) := by decide +kernel
theorem dX6_layRules_66 : decode cX6_layRules 66 = .ok (.iinc 2 1, 3) := by decide +kernel
theorem dX6_layRules_69 : decode cX6_layRules 69 = .ok (.goto (-35), 3) := by decide +kernel
theorem dX6_layRules_72 : decode cX6_layRules 72 = .ok (.iinc 1 1, 3) := by decide +kernel
theorem dX6_layRules_75 : decode cX6_layRules 75 = .ok (.goto (-51), 3) := by decide +kernel
theorem dX6_layRules_78 : decode cX6_layRules 78 = .ok (.iconst 0, 1) := by decide +kernel
theorem dX6_layRules_79 : decode cX6_layRules 79 = .ok (.istore_n 1, 1) := by decide +kernel
theorem dX6_layRules_80 : decode cX6_layRules 80 = .ok (.iload_n 1, 1) := by decide +kernel
theorem dX6_layRules_81 : decode cX6_layRules 81 = .ok (.iconst 3, 1) := by decide +kernel
theorem dX6_layRules_82 : decode cX6_layRules 82 = .ok (.if_icmp .ge 76, 3) := by decide +kernel
theorem dX6_layRules_85 : decode cX6_layRules 85 = .ok (.iconst 0, 1) := by decide +kernel
theorem dX6_layRules_86 : decode cX6_layRules 86 = .ok (.istore_n 2, 1) := by decide +kernel
theorem dX6_layRules_87 : decode cX6_layRules 87 = .ok (.iload_n 2, 1) := by decide +kernel
theorem dX6_layRules_88 : decode cX6_layRules 88 = .ok (.iconst 2, 1) := by decide +kernel
theorem dX6_layRules_89 : decode cX6_layRules 89 = .ok (.aload_n 0, 1) := by decide +kernel
theorem dX6_layRules_90 : decode cX6_layRules 90 = .ok (.getfield 134, 3) := by decide +kernel
theorem dX6_layRules_93 : decode cX6_layRules 93 = .ok (.imul, 1) := by decide +kernel
theorem dX6_layRules_94 : decode cX6_layRules 94 = .ok (.if_icmp .ge 58, 3) := by decide +kernel
theorem dX6_layRules_97 : decode cX6_layRules 97 = .ok (.aload_n 0, 1) := by decide +kernel
theorem dX6_layRules_98 : decode cX6_layRules 98 = .ok (.getfield 38, 3) := by decide +kernel
theorem dX6_layRules_101 : decode cX6_layRules 101 = .ok (.bipush 7, 2) := by decide +kernel
theorem dX6_layRules_103 : decode cX6_layRules 103 = .ok (.iload_n 2, 1) := by decide +kernel
theorem dX6_layRules_104 : decode cX6_layRules 104 = .ok (.iconst 2, 1) := by decide +kernel
theorem dX6_layRules_105 : decode cX6_layRules 105 = .ok (.irem, 1) := by decide +kernel
theorem dX6_layRules_106 : decode cX6_layRules 106 = .ok (.imul, 1) := by decide +kernel
theorem dX6_layRules_107 : decode cX6_layRules 107 = .ok (.iload_n 2, 1) := by decide +kernel
theorem dX6_layRules_108 : decode cX6_layRules 108 = .ok (.iconst 2, 1) := by decide +kernel
theorem dX6_layRules_109 : decode cX6_layRules 109 = .ok (.idiv, 1) := by decide +kernel
theorem dX6_layRules_110 : decode cX6_layRules 110 = .ok (.iadd, 1) := by decide +kernel
theorem dX6_layRules_111 : decode cX6_layRules 111 = .ok (.iaload, 1) := by decide +kernel
theorem dX6_layRules_112 : decode cX6_layRules 112 = .ok (.istore_n 3, 1) := by decide +kernel
theorem dX6_layRules_113 : decode cX6_layRules 113 = .ok (.iload_n 3, 1) := by decide +kernel
theorem dX6_layRules_114 : decode cX6_layRules 114 = .ok (.ifCond .lt 32, 3) := by decide +kernel
theorem dX6_layRules_117 : decode cX6_layRules 117 = .ok (.aload_n 0, 1) := by decide +kernel
theorem dX6_layRules_118 : decode cX6_layRules 118 = .ok (.getfield 73, 3) := by decide +kernel
theorem dX6_layRules_121 : decode cX6_layRules 121 = .ok (.bipush 15, 2) := by decide +kernel
theorem dX6_layRules_123 : decode cX6_layRules 123 = .ok (.iload_n 3, 1) := by decide +kernel
theorem dX6_layRules_124 : decode cX6_layRules 124 = .ok (.imul, 1) := by decide +kernel
theorem dX6_layRules_125 : decode cX6_layRules 125 = .ok (.bipush 12, 2) := by decide +kernel
theorem dX6_layRules_127 : decode cX6_layRules 127 = .ok (.iadd, 1) := by decide +kernel
theorem dX6_layRules_128 : decode cX6_layRules 128 = .ok (.iload_n 1, 1) := by decide +kernel
theorem dX6_layRules_129 : decode cX6_layRules 129 = .ok (.iadd, 1) := by decide +kernel
theorem dX6_layRules_130 : decode cX6_layRules 130 = .ok (.dup2, 1) := by decide +kernel
theorem dX6_layRules_131 : decode cX6_layRules 131 = .ok (.laload, 1) := by decide +kernel
theorem dX6_layRules_132 : decode cX6_layRules 132 = .ok (.aload_n 0, 1) := by decide +kernel
theorem dX6_layRules_133 : decode cX6_layRules 133 = .ok (.getfield 28, 3) := by decide +kernel
theorem dX6_layRules_136 : decode cX6_layRules 136 = .ok (.bipush 14, 2) := by decide +kernel
theorem dX6_layRules_138 : decode cX6_layRules 138 = .ok (.iload_n 1, 1) := by decide +kernel
theorem dX6_layRules_139 : decode cX6_layRules 139 = .ok (.imul, 1) := by decide +kernel
theorem dX6_layRules_140 : decode cX6_layRules 140 = .ok (.iload_n 2, 1) := by decide +kernel
theorem dX6_layRules_141 : decode cX6_layRules 141 = .ok (.iadd, 1) := by decide +kernel
theorem dX6_layRules_142 : decode cX6_layRules 142 = .ok (.iaload, 1) := by decide +kernel
theorem dX6_layRules_143 : decode cX6_layRules 143 = .ok (.i2l, 1) := by decide +kernel
theorem dX6_layRules_144 : decode cX6_layRules 144 = .ok (.ladd, 1) := by decide +kernel
theorem dX6_layRules_145 : decode cX6_layRules 145 = .ok (.lastore, 1) := by decide +kernel
theorem dX6_layRules_146 : decode cX6_layRules 146 = .ok (.iinc 2 1, 3) := by decide +kernel
theorem dX6_layRules_149 : decode cX6_layRules 149 = .ok (.goto (-62), 3) := by decide +kernel
theorem dX6_layRules_152 : decode cX6_layRules 152 = .ok (.iinc 1 1, 3) := by decide +kernel
theorem dX6_layRules_155 : decode cX6_layRules 155 = .ok (.goto (-75), 3) := by decide +kernel
theorem dX6_layRules_158 : decode cX6_layRules 158 = .ok (.return_, 1) := by decide +kernel
abbrev rm_X6_layRules : Room := { frames := 0, cells := 0, slots := 0, locals := 0 }
noncomputable def f_X6_layRules_b146 (N : Nat) (kb87 : Int32 → ZS → Option (Unit × ZS)) (x1 : Int32) (x2 : Int32) (σ : ZS) : Option (Unit × ZS) := bd (x2 + (1 : Int32)) fun v9 => kb87 v9 σ
noncomputable def f_X6_layRules_h87 (N : Nat) (kb80 : Int32 → ZS → Option (Unit × ZS)) (x1 : Int32) : Nat → Int32 → ZS → Option (Unit × ZS)
  | 0, _, _ => none
  | n + 1, x2, σ => (if ((2 : Int32) * (gI σ 1067 0)) ≤ x2 then bd (x1 + (1 : Int32)) fun v5 => kb80 v5 σ else ck (inb (((7 : Int32) * (irm x2 (2 : Int32))) + (x2 / (2 : Int32))) 21) (bd (gI σ 1076 ((((7 : Int32) * (irm x2 (2 : Int32))) + (x2 / (2 : Int32))).toNatClampNeg)) fun v7 => (if v7 < 0 then f_X6_layRules_b146 N (fun x2_ σ_ => f_X6_layRules_h87 N kb80 x1 n x2_ σ_) x1 x2 σ else bd ((((15 : Int32) * v7) + (12 : Int32)) + x1) fun v10 => ck (inb v10 180) (ck (inb (((14 : Int32) * x1) + x2) 42) (bd ((gJ σ 1087 (v10.toNatClampNeg)) + ((gI σ 1074 ((((14 : Int32) * x1) + x2).toNatClampNeg)).toInt64)) fun v13 => ck (inb v10 180) (bd (sJ σ 1087 (v10.toNatClampNeg) v13) fun σ15 => f_X6_layRules_b146 N (fun x2_ σ_ => f_X6_layRules_h87 N kb80 x1 n x2_ σ_) x1 x2 σ15))))))
noncomputable def f_X6_layRules_h80 (N : Nat) : Nat → Int32 → ZS → Option (Unit × ZS)
  | 0, _, _ => none
  | n + 1, x1, σ => (if (3 : Int32) ≤ x1 then some ((), σ) else f_X6_layRules_h87 N (fun x1_ σ_ => f_X6_layRules_h80 N n x1_ σ_) x1 N (0 : Int32) σ)
noncomputable def f_X6_layRules_h34 (N : Nat) (kb24 : Int32 → ZS → Option (Unit × ZS)) (x1 : Int32) : Nat → Int32 → ZS → Option (Unit × ZS)
  | 0, _, _ => none
  | n + 1, x2, σ => (if ((2 : Int32) * (gI σ 1067 4)) ≤ x2 then bd (x1 + (1 : Int32)) fun v17 => kb24 v17 σ else ck (inb (((21 : Int32) * x2) + x1) 252) (bd (gJ σ 1077 ((((21 : Int32) * x2) + x1).toNatClampNeg)) fun v19 => ck (inb (((15 : Int32) * x1) + x2) 180) (bd (sJ σ 1087 ((((15 : Int32) * x1) + x2).toNatClampNeg) v19) fun σ21 => bd (x2 + (1 : Int32)) fun v22 => f_X6_layRules_h34 N kb24 x1 n v22 σ21)))
noncomputable def f_X6_layRules_h24 (N : Nat) : Nat → Int32 → ZS → Option (Unit × ZS)
  | 0, _, _ => none
  | n + 1, x1, σ => (if (gI σ 1067 10) ≤ x1 then f_X6_layRules_h80 N N (0 : Int32) σ else f_X6_layRules_h34 N (fun x1_ σ_ => f_X6_layRules_h24 N n x1_ σ_) x1 N (0 : Int32) σ)
noncomputable def f_X6_layRules_h2 (N : Nat) : Nat → Int32 → ZS → Option (Unit × ZS)
  | 0, _, _ => none
  | n + 1, x1, σ => (if (180 : Int32) ≤ x1 then f_X6_layRules_h24 N N (0 : Int32) σ else ck (inb x1 180) (bd (sJ σ 1087 (x1.toNatClampNeg) (0 : Int64)) fun σ24 => bd (x1 + (1 : Int32)) fun v25 => f_X6_layRules_h2 N n v25 σ24))
noncomputable def f_X6_layRules (N : Nat) (σ : ZS) : Option (Unit × ZS) := f_X6_layRules_h2 N N (0 : Int32) σ
set_option maxHeartbeats 4000000 in
set_option maxRecDepth 100000 in
theorem k_X6_layRules_b146 {l : Launch} {Y : ZY} {G : ZG} {σ' : ZS} (h : zOk (l, rm_X6_layRules, 4, 0, 0) Y G cX6_layRules RX6 none) (hq : zRet (l, rm_X6_layRules, 4, 0, 0) Y G none σ') (N : Nat) {kb87 : Int32 → ZS → Option (Unit × ZS)} (x1 : Int32) (x2 : Int32) (hb87 : ∀ (x2_ : Int32) (σ_ : ZS), kb87 x2_ σ_ = some ((), σ') → Z (l, rm_X6_layRules, 4, 0, 0) Y G σ_ [(0, .ref (G.1 1067)), (1, .int x1), (2, .int x2_)] [] 87) (σ : ZS) (hf : f_X6_layRules_b146 N kb87 x1 x2 σ = some ((), σ')) : Z (l, rm_X6_layRules, 4, 0, 0) Y G σ [(0, .ref (G.1 1067)), (1, .int x1), (2, .int x2)] [] 146 := by
  rw [f_X6_layRules_b146] at hf
  obtain ⟨v9, ev9, hf⟩ := bd_ex hf
  refine z_iinc h (v := v9) (lv' := [(2, .int v9), (0, .ref (G.1 1067)), (1, .int x1)]) dX6_layRules_146 2 rfl (by rw [ev9]; rfl) rfl rfl ?_
  refine z_goto h (tgt := 87) dX6_layRules_149 (by decide) ?_
  exact z_sub [1, 2, 0] rfl (hb87 _ _ hf)
set_option maxHeartbeats 4000000 in
set_option maxRecDepth 100000 in
theorem k_X6_layRules_h87 {l : Launch} {Y : ZY} {G : ZG} {σ' : ZS} (h : zOk (l, rm_X6_layRules, 4, 0, 0) Y G cX6_layRules RX6 none) (hq : zRet (l, rm_X6_layRules, 4, 0, 0) Y G none σ') (N : Nat) {kb80 : Int32 → ZS → Option (Unit × ZS)} (x1 : Int32) (hb80 : ∀ (x1_ : Int32) (σ_ : ZS), kb80 x1_ σ_ = some ((), σ') → Z (l, rm_X6_layRules, 4, 0, 0) Y G σ_ [(0, .ref (G.1 1067)), (1, .int x1_)] [] 80) : ∀ (n : Nat) (x2 : Int32) (σ : ZS), f_X6_layRules_h87 N kb80 x1 n x2 σ = some ((), σ') → Z (l, rm_X6_layRules, 4, 0, 0) Y G σ [(0, .ref (G.1 1067)), (1, .int x1), (2, .int x2)] [] 87 := by
  intro n
  induction n with
  | zero =>
    intro x2 σ hf
    rw [f_X6_layRules_h87] at hf
    cases hf
  | succ n ih =>
    intro x2 σ hf
    rw [f_X6_layRules_h87] at hf
    refine z_iload_n h dX6_layRules_87 rfl 2 rfl ?_
    refine z_iconst h (v := (2 : Int32)) dX6_layRules_88 ic_2 ?_
    refine z_aload_n h dX6_layRules_89 rfl 0 rfl ?_
    refine z_gfI h zC6 (c := 1067) tg_1067 ln_1067 0 rfl ft_6_0 wd_155 dX6_layRules_90 ?_
    refine z_imul h dX6_layRules_93 ?_
    refine z_icmp_ge h (tgt := 152) dX6_layRules_94 (by decide) (fun g4 => ?_) (fun g4 => ?_)
    · have hf := it_pos g4 hf
      obtain ⟨v5, ev5, hf⟩ := bd_ex hf
      refine z_iinc h (v := v5) (lv' := [(1, .int v5), (0, .ref (G.1 1067)), (2, .int x2)]) dX6_layRules_152 1 rfl (by rw [ev5]; rfl) rfl rfl ?_
      refine z_goto h (tgt := 80) dX6_layRules_155 (by decide) ?_
      exact z_sub [1, 0] rfl (hb80 _ _ hf)
    · have hf := it_neg g4 hf
      refine z_aload_n h dX6_layRules_97 rfl 0 rfl ?_
      refine z_gfR h zC6 (d := 1076) (c := 1067) tg_1067 ln_1067 13 rfl ft_6_13 rf_1067_13 wd_97 dX6_layRules_98 ?_
      refine z_bipush h (v := (7 : Int32)) dX6_layRules_101 bp_7 ?_
      refine z_iload_n h dX6_layRules_103 rfl 2 rfl ?_
      refine z_iconst h (v := (2 : Int32)) dX6_layRules_104 ic_2 ?_
      refine z_irem h dX6_layRules_105 (by decide) ?_
      refine z_imul h dX6_layRules_106 ?_
      refine z_iload_n h dX6_layRules_107 rfl 2 rfl ?_
      refine z_iconst h (v := (2 : Int32)) dX6_layRules_108 ic_2 ?_
      refine z_idiv h dX6_layRules_109 (by decide) ?_
      refine z_iadd h dX6_layRules_110 ?_
      obtain ⟨g6, hf⟩ := ck_out hf
      refine z_iald h (c := 1076) tg_1076 ln_1076 g6 dX6_layRules_111 ?_
      refine z_topI (fun v7 ev7 => ?_)
      have hf := bd_to ev7 hf
      refine z_istore_n h dX6_layRules_112 rfl (lv' := [(3, .int v7), (0, .ref (G.1 1067)), (1, .int x1), (2, .int x2)]) rfl rfl ?_
      refine z_iload_n h dX6_layRules_113 rfl 0 rfl ?_
      refine z_if_lt h (tgt := 146) dX6_layRules_114 (by decide) (fun g8 => ?_) (fun g8 => ?_)
      · have hf := it_pos g8 hf
        exact z_sub [1, 2, 3] rfl (k_X6_layRules_b146 h hq N x1 x2 (fun x2_ σ_ hf_ => ih x2_ σ_ hf_) _ hf)
      · have hf := it_neg g8 hf
        refine z_aload_n h dX6_layRules_117 rfl 1 rfl ?_
        refine z_gfR h zC6 (d := 1087) (c := 1067) tg_1067 ln_1067 26 rfl ft_6_26 rf_1067_26 wd_109 dX6_layRules_118 ?_
        refine z_bipush h (v := (15 : Int32)) dX6_layRules_121 bp_15 ?_
        refine z_iload_n h dX6_layRules_123 rfl 0 rfl ?_
        refine z_imul h dX6_layRules_124 ?_
        refine z_bipush h (v := (12 : Int32)) dX6_layRules_125 bp_12 ?_
        refine z_iadd h dX6_layRules_127 ?_
        refine z_iload_n h dX6_layRules_128 rfl 2 rfl ?_
        refine z_iadd h dX6_layRules_129 ?_
        refine z_topI (fun v10 ev10 => ?_)
        have hf := bd_to ev10 hf
        refine z_dup2_11 h dX6_layRules_130 rfl rfl ?_
        obtain ⟨g11, hf⟩ := ck_out hf
        refine z_lald h (c := 1087) tg_1087 ln_1087 g11 dX6_layRules_131 ?_
        refine z_aload_n h dX6_layRules_132 rfl 1 rfl ?_
        refine z_gfR h zC6 (d := 1074) (c := 1067) tg_1067 ln_1067 8 rfl ft_6_8 rf_1067_8 wd_94 dX6_layRules_133 ?_
        refine z_bipush h (v := (14 : Int32)) dX6_layRules_136 bp_14 ?_
        refine z_iload_n h dX6_layRules_138 rfl 2 rfl ?_
        refine z_imul h dX6_layRules_139 ?_
        refine z_iload_n h dX6_layRules_140 rfl 3 rfl ?_
        refine z_iadd h dX6_layRules_141 ?_
        obtain ⟨g12, hf⟩ := ck_out hf
        refine z_iald h (c := 1074) tg_1074 ln_1074 g12 dX6_layRules_142 ?_
        refine z_i2l h dX6_layRules_143 ?_
        refine z_ladd h dX6_layRules_144 ?_
        refine z_topJ (fun v13 ev13 => ?_)
        have hf := bd_to ev13 hf
        obtain ⟨g14, hf⟩ := ck_out hf
        refine z_last h (c := 1087) tg_1087 ln_1087 g14 dX6_layRules_145 ?_
        refine z_gen (fun σ15 eσ15 => ?_)
        have hf := bd_to eσ15 hf
        exact z_sub [1, 2, 3] rfl (k_X6_layRules_b146 h hq N x1 x2 (fun x2_ σ_ hf_ => ih x2_ σ_ hf_) _ hf)
set_option maxHeartbeats 4000000 in
set_option maxRecDepth 100000 in
theorem k_X6_layRules_h80 {l : Launch} {Y : ZY} {G : ZG} {σ' : ZS} (h : zOk (l, rm_X6_layRules, 4, 0, 0) Y G cX6_layRules RX6 none) (hq : zRet (l, rm_X6_layRules, 4, 0, 0) Y G none σ') (N : Nat) : ∀ (n : Nat) (x1 : Int32) (σ : ZS), f_X6_layRules_h80 N n x1 σ = some ((), σ') → Z (l, rm_X6_layRules, 4, 0, 0) Y G σ [(0, .ref (G.1 1067)), (1, .int x1)] [] 80 := by
  intro n
  induction n with
  | zero =>
    intro x1 σ hf
    rw [f_X6_layRules_h80] at hf
    cases hf
  | succ n ih =>
    intro x1 σ hf
    rw [f_X6_layRules_h80] at hf
    refine z_iload_n h dX6_layRules_80 rfl 1 rfl ?_
    refine z_iconst h (v := (3 : Int32)) dX6_layRules_81 ic_3 ?_
    refine z_icmp_ge h (tgt := 158) dX6_layRules_82 (by decide) (fun g3 => ?_) (fun g3 => ?_)
    · have hf := it_pos g3 hf
      exact z_vret h (rt_V hf hq) dX6_layRules_158
    · have hf := it_neg g3 hf
      refine z_iconst h (v := (0 : Int32)) dX6_layRules_85 ic_0 ?_
      refine z_istore_n h dX6_layRules_86 rfl (lv' := [(2, .int (0 : Int32)), (0, .ref (G.1 1067)), (1, .int x1)]) rfl rfl ?_
      exact z_sub [1, 2, 0] rfl (k_X6_layRules_h87 h hq N x1 (fun x1_ σ_ hf_ => ih x1_ σ_ hf_) _ _ _ hf)
set_option maxHeartbeats 4000000 in
set_option maxRecDepth 100000 in
theorem k_X6_layRules_h34 {l : Launch} {Y : ZY} {G : ZG} {σ' : ZS} (h : zOk (l, rm_X6_layRules, 4, 0, 0) Y G cX6_layRules RX6 none) (hq : zRet (l, rm_X6_layRules, 4, 0, 0) Y G none σ') (N : Nat) {kb24 : Int32 → ZS → Option (Unit × ZS)} (x1 : Int32) (hb24 : ∀ (x1_ : Int32) (σ_ : ZS), kb24 x1_ σ_ = some ((), σ') → Z (l, rm_X6_layRules, 4, 0, 0) Y G σ_ [(0, .ref (G.1 1067)), (1, .int x1_)] [] 24) : ∀ (n : Nat) (x2 : Int32) (σ : ZS), f_X6_layRules_h34 N kb24 x1 n x2 σ = some ((), σ') → Z (l, rm_X6_layRules, 4, 0, 0) Y G σ [(0, .ref (G.1 1067)), (1, .int x1), (2, .int x2)] [] 34 := by
  intro n
  induction n with
  | zero =>
    intro x2 σ hf
    rw [f_X6_layRules_h34] at hf
    cases hf
  | succ n ih =>
    intro x2 σ hf
    rw [f_X6_layRules_h34] at hf
    refine z_iload_n h dX6_layRules_34 rfl 2 rfl ?_
    refine z_iconst h (v := (2 : Int32)) dX6_layRules_35 ic_2 ?_
    refine z_aload_n h dX6_layRules_36 rfl 0 rfl ?_
    refine z_gfI h zC6 (c := 1067) tg_1067 ln_1067 4 rfl ft_6_4 wd_200 dX6_layRules_37 ?_
    refine z_imul h dX6_layRules_40 ?_
    refine z_icmp_ge h (tgt := 72) dX6_layRules_41 (by decide) (fun g16 => ?_) (fun g16 => ?_)
    · have hf := it_pos g16 hf
      obtain ⟨v17, ev17, hf⟩ := bd_ex hf
      refine z_iinc h (v := v17) (lv' := [(1, .int v17), (0, .ref (G.1 1067)), (2, .int x2)]) dX6_layRules_72 1 rfl (by rw [ev17]; rfl) rfl rfl ?_
      refine z_goto h (tgt := 24) dX6_layRules_75 (by decide) ?_
      exact z_sub [1, 0] rfl (hb24 _ _ hf)
    · have hf := it_neg g16 hf
      refine z_aload_n h dX6_layRules_44 rfl 0 rfl ?_
      refine z_gfR h zC6 (d := 1087) (c := 1067) tg_1067 ln_1067 26 rfl ft_6_26 rf_1067_26 wd_109 dX6_layRules_45 ?_
      refine z_bipush h (v := (15 : Int32)) dX6_layRules_48 bp_15 ?_
      refine z_iload_n h dX6_layRules_50 rfl 1 rfl ?_
      refine z_imul h dX6_layRules_51 ?_
      refine z_iload_n h dX6_layRules_52 rfl 2 rfl ?_
      refine z_iadd h dX6_layRules_53 ?_
      refine z_aload_n h dX6_layRules_54 rfl 0 rfl ?_
      refine z_gfR h zC6 (d := 1077) (c := 1067) tg_1067 ln_1067 14 rfl ft_6_14 rf_1067_14 wd_98 dX6_layRules_55 ?_
      refine z_bipush h (v := (21 : Int32)) dX6_layRules_58 bp_21 ?_
      refine z_iload_n h dX6_layRules_60 rfl 2 rfl ?_
      refine z_imul h dX6_layRules_61 ?_
      refine z_iload_n h dX6_layRules_62 rfl 1 rfl ?_
      refine z_iadd h dX6_layRules_63 ?_
      obtain ⟨g18, hf⟩ := ck_out hf
      refine z_lald h (c := 1077) tg_1077 ln_1077 g18 dX6_layRules_64 ?_
      refine z_topJ (fun v19 ev19 => ?_)
      have hf := bd_to ev19 hf
      obtain ⟨g20, hf⟩ := ck_out hf
      refine z_last h (c := 1087) tg_1087 ln_1087 g20 dX6_layRules_65 ?_
      refine z_gen (fun σ21 eσ21 => ?_)
      have hf := bd_to eσ21 hf
      obtain ⟨v22, ev22, hf⟩ := bd_ex hf
      refine z_iinc h (v := v22) (lv' := [(2, .int v22), (0, .ref (G.1 1067)), (1, .int x1)]) dX6_layRules_66 2 rfl (by rw [ev22]; rfl) rfl rfl ?_
      refine z_goto h (tgt := 34) dX6_layRules_69 (by decide) ?_
      exact z_sub [1, 2, 0] rfl (ih _ _ hf)
set_option maxHeartbeats 4000000 in
set_option maxRecDepth 100000 in
theorem k_X6_layRules_h24 {l : Launch} {Y : ZY} {G : ZG} {σ' : ZS} (h : zOk (l, rm_X6_layRules, 4, 0, 0) Y G cX6_layRules RX6 none) (hq : zRet (l, rm_X6_layRules, 4, 0, 0) Y G none σ') (N : Nat) : ∀ (n : Nat) (x1 : Int32) (σ : ZS), f_X6_layRules_h24 N n x1 σ = some ((), σ') → Z (l, rm_X6_layRules, 4, 0, 0) Y G σ [(0, .ref (G.1 1067)), (1, .int x1)] [] 24 := by
  intro n
  induction n with
  | zero =>
    intro x1 σ hf
    rw [f_X6_layRules_h24] at hf
    cases hf
  | succ n ih =>
    intro x1 σ hf
    rw [f_X6_layRules_h24] at hf
    refine z_iload_n h dX6_layRules_24 rfl 1 rfl ?_
    refine z_aload_n h dX6_layRules_25 rfl 0 rfl ?_
    refine z_gfI h zC6 (c := 1067) tg_1067 ln_1067 10 rfl ft_6_10 wd_424 dX6_layRules_26 ?_
    refine z_icmp_ge h (tgt := 78) dX6_layRules_29 (by decide) (fun g2 => ?_) (fun g2 => ?_)
    · have hf := it_pos g2 hf
      refine z_iconst h (v := (0 : Int32)) dX6_layRules_78 ic_0 ?_
      refine z_istore_n h dX6_layRules_79 rfl (lv' := [(1, .int (0 : Int32)), (0, .ref (G.1 1067))]) rfl rfl ?_
      exact z_sub [1, 0] rfl (k_X6_layRules_h80 h hq N _ _ _ hf)
    · have hf := it_neg g2 hf
      refine z_iconst h (v := (0 : Int32)) dX6_layRules_32 ic_0 ?_
      refine z_istore_n h dX6_layRules_33 rfl (lv' := [(2, .int (0 : Int32)), (0, .ref (G.1 1067)), (1, .int x1)]) rfl rfl ?_
      exact z_sub [1, 2, 0] rfl (k_X6_layRules_h34 h hq N x1 (fun x1_ σ_ hf_ => ih x1_ σ_ hf_) _ _ _ hf)
set_option maxHeartbeats 4000000 in
set_option maxRecDepth 100000 in
theorem k_X6_layRules_h2 {l : Launch} {Y : ZY} {G : ZG} {σ' : ZS} (h : zOk (l, rm_X6_layRules, 4, 0, 0) Y G cX6_layRules RX6 none) (hq : zRet (l, rm_X6_layRules, 4, 0, 0) Y G none σ') (N : Nat) : ∀ (n : Nat) (x1 : Int32) (σ : ZS), f_X6_layRules_h2 N n x1 σ = some ((), σ') → Z (l, rm_X6_layRules, 4, 0, 0) Y G σ [(0, .ref (G.1 1067)), (1, .int x1)] [] 2 := by
  intro n
  induction n with
  | zero =>
    intro x1 σ hf
    rw [f_X6_layRules_h2] at hf
    cases hf
  | succ n ih =>
    intro x1 σ hf
    rw [f_X6_layRules_h2] at hf
    refine z_iload_n h dX6_layRules_2 rfl 1 rfl ?_
    refine z_sipush h (v := (180 : Int32)) dX6_layRules_3 sp_180 ?_
    refine z_icmp_ge h (tgt := 22) dX6_layRules_6 (by decide) (fun g1 => ?_) (fun g1 => ?_)
    · have hf := it_pos g1 hf
      refine z_iconst h (v := (0 : Int32)) dX6_layRules_22 ic_0 ?_
      refine z_istore_n h dX6_layRules_23 rfl (lv' := [(1, .int (0 : Int32)), (0, .ref (G.1 1067))]) rfl rfl ?_
      exact z_sub [1, 0] rfl (k_X6_layRules_h24 h hq N _ _ _ hf)
    · have hf := it_neg g1 hf
      refine z_aload_n h dX6_layRules_9 rfl 0 rfl ?_
      refine z_gfR h zC6 (d := 1087) (c := 1067) tg_1067 ln_1067 26 rfl ft_6_26 rf_1067_26 wd_109 dX6_layRules_10 ?_
      refine z_iload_n h dX6_layRules_13 rfl 1 rfl ?_
      refine z_lconst h (v := (0 : Int64)) dX6_layRules_14 lc_0 ?_
      obtain ⟨g23, hf⟩ := ck_out hf
      refine z_last h (c := 1087) tg_1087 ln_1087 g23 dX6_layRules_15 ?_
      refine z_gen (fun σ24 eσ24 => ?_)
      have hf := bd_to eσ24 hf
      obtain ⟨v25, ev25, hf⟩ := bd_ex hf
      refine z_iinc h (v := v25) (lv' := [(1, .int v25), (0, .ref (G.1 1067))]) dX6_layRules_16 1 rfl (by rw [ev25]; rfl) rfl rfl ?_
      refine z_goto h (tgt := 2) dX6_layRules_19 (by decide) ?_
      exact z_sub [1, 0] rfl (ih _ _ hf)
set_option maxHeartbeats 4000000 in
set_option maxRecDepth 100000 in
theorem c_X6_layRules (l : Launch) (G : ZG) {N : Nat} {σ σ' : ZS} {r : Unit} (hf : f_X6_layRules N σ = some (r, σ')) : zMet l G yX6_layRules cX6_layRules 4 none rm_X6_layRules [.ref (G.1 1067)] σ none σ' := by
  refine z_met (by decide +kernel) rfl (fun Y h hq => ?_)
  have h : zOk (l, rm_X6_layRules, 4, 0, 0) Y G cX6_layRules RX6 none := h
  rw [f_X6_layRules] at hf
  refine z_sub (lv' := [(0, .ref (G.1 1067))]) [0] rfl ?_
  refine z_iconst h (v := (0 : Int32)) dX6_layRules_0 ic_0 ?_
  refine z_istore_n h dX6_layRules_1 rfl (lv' := [(1, .int (0 : Int32)), (0, .ref (G.1 1067))]) rfl rfl ?_
  exact z_sub [1, 0] rfl (k_X6_layRules_h2 h hq N _ _ _ hf)
theorem dX6_swap_0 : decode cX6_swap 0 = .ok (.iconst 0, 1) := by decide +kernel
theorem dX6_swap_1 : decode cX6_swap 1 = .ok (.istore_n 3, 1) := by decide +kernel
theorem dX6_swap_2 : decode cX6_swap 2 = .ok (.iload_n 3, 1) := by decide +kernel
theorem dX6_swap_3 : decode cX6_swap 3 = .ok (.bipush 15, 2) := by decide +kernel
theorem dX6_swap_5 : decode cX6_swap 5 = .ok (.if_icmp .ge 57, 3) := by decide +kernel
theorem dX6_swap_8 : decode cX6_swap 8 = .ok (.aload_n 0, 1) := by decide +kernel
theorem dX6_swap_9 : decode cX6_swap 9 = .ok (.getfield 76, 3) := by decide +kernel
theorem dX6_swap_12 : decode cX6_swap 12 = .ok (.bipush 15, 2) := by decide +kernel
theorem dX6_swap_14 : decode cX6_swap 14 = .ok (.iload_n 1, 1) := by decide +kernel
theorem dX6_swap_15 : decode cX6_swap 15 = .ok (.imul, 1) := by decide +kernel
theorem dX6_swap_16 : decode cX6_swap 16 = .ok (.iload_n 3, 1) := by decide +kernel
theorem dX6_swap_17 : decode cX6_swap 17 = .ok (.iadd, 1) := by decide +kernel
theorem dX6_swap_18 : decode cX6_swap 18 = .ok (.laload, 1) := by decide +kernel
theorem dX6_swap_19 : decode cX6_swap 19 = .ok (.lstore 4, 2) := by decide +kernel
theorem dX6_swap_21 : decode cX6_swap 21 = .ok (.aload_n 0, 1) := by decide +kernel
theorem dX6_swap_22 : decode cX6_swap 22 = .ok (.getfield 76, 3) := by decide +kernel
theorem dX6_swap_25 : decode cX6_swap 25 = .ok (.bipush 15, 2) := by decide +kernel
theorem dX6_swap_27 : decode cX6_swap 27 = .ok (.iload_n 1, 1) := by decide +kernel
theorem dX6_swap_28 : decode cX6_swap 28 = .ok (.imul, 1) := by decide +kernel
theorem dX6_swap_29 : decode cX6_swap 29 = .ok (.iload_n 3, 1) := by decide +kernel
theorem dX6_swap_30 : decode cX6_swap 30 = .ok (.iadd, 1) := by decide +kernel
theorem dX6_swap_31 : decode cX6_swap 31 = .ok (.aload_n 0, 1) := by decide +kernel
theorem dX6_swap_32 : decode cX6_swap 32 = .ok (.getfield 76, 3) := by decide +kernel
theorem dX6_swap_35 : decode cX6_swap 35 = .ok (.bipush 15, 2) := by decide +kernel
theorem dX6_swap_37 : decode cX6_swap 37 = .ok (.iload_n 2, 1) := by decide +kernel
theorem dX6_swap_38 : decode cX6_swap 38 = .ok (.imul, 1) := by decide +kernel
theorem dX6_swap_39 : decode cX6_swap 39 = .ok (.iload_n 3, 1) := by decide +kernel
theorem dX6_swap_40 : decode cX6_swap 40 = .ok (.iadd, 1) := by decide +kernel
theorem dX6_swap_41 : decode cX6_swap 41 = .ok (.laload, 1) := by decide +kernel
theorem dX6_swap_42 : decode cX6_swap 42 = .ok (.lastore, 1) := by decide +kernel
theorem dX6_swap_43 : decode cX6_swap 43 = .ok (.aload_n 0, 1) := by decide +kernel
theorem dX6_swap_44 : decode cX6_swap 44 = .ok (.getfield 76, 3) := by decide +kernel
theorem dX6_swap_47 : decode cX6_swap 47 = .ok (.bipush 15, 2) := by decide +kernel
theorem dX6_swap_49 : decode cX6_swap 49 = .ok (.iload_n 2, 1) := by decide +kernel
theorem dX6_swap_50 : decode cX6_swap 50 = .ok (.imul, 1) := by decide +kernel
theorem dX6_swap_51 : decode cX6_swap 51 = .ok (.iload_n 3, 1) := by decide +kernel
theorem dX6_swap_52 : decode cX6_swap 52 = .ok (.iadd, 1) := by decide +kernel
theorem dX6_swap_53 : decode cX6_swap 53 = .ok (.lload 4, 2) := by decide +kernel
theorem dX6_swap_55 : decode cX6_swap 55 = .ok (.lastore, 1) := by decide +kernel
theorem dX6_swap_56 : decode cX6_swap 56 = .ok (.iinc 3 1, 3) := by decide +kernel
theorem dX6_swap_59 : decode cX6_swap 59 = .ok (.goto (-57), 3) := by decide +kernel
theorem dX6_swap_62 : decode cX6_swap 62 = .ok (.return_, 1) := by decide +kernel
abbrev rm_X6_swap : Room := { frames := 0, cells := 0, slots := 0, locals := 0 }
noncomputable def f_X6_swap_h2 (N : Nat) (x1 : Int32) (x2 : Int32) : Nat → Int32 → ZS → Option (Unit × ZS)
  | 0, _, _ => none
  | n + 1, x3, σ => (if (15 : Int32) ≤ x3 then some ((), σ) else ck (inb (((15 : Int32) * x1) + x3) 180) (bd (gJ σ 1088 ((((15 : Int32) * x1) + x3).toNatClampNeg)) fun v3 => ck (inb (((15 : Int32) * x2) + x3) 180) (bd (gJ σ 1088 ((((15 : Int32) * x2) + x3).toNatClampNeg)) fun v5 => ck (inb (((15 : Int32) * x1) + x3) 180) (bd (sJ σ 1088 ((((15 : Int32) * x1) + x3).toNatClampNeg) v5) fun σ7 => ck (inb (((15 : Int32) * x2) + x3) 180) (bd (sJ σ7 1088 ((((15 : Int32) * x2) + x3).toNatClampNeg) v3) fun σ9 => bd (x3 + (1 : Int32)) fun v10 => f_X6_swap_h2 N x1 x2 n v10 σ9)))))
noncomputable def f_X6_swap (N : Nat) (x1 : Int32) (x2 : Int32) (σ : ZS) : Option (Unit × ZS) := f_X6_swap_h2 N x1 x2 N (0 : Int32) σ
set_option maxHeartbeats 4000000 in
set_option maxRecDepth 100000 in
theorem k_X6_swap_h2 {l : Launch} {Y : ZY} {G : ZG} {σ' : ZS} (h : zOk (l, rm_X6_swap, 6, 0, 0) Y G cX6_swap RX6 none) (hq : zRet (l, rm_X6_swap, 6, 0, 0) Y G none σ') (N : Nat) (x1 : Int32) (x2 : Int32) : ∀ (n : Nat) (x3 : Int32) (σ : ZS), f_X6_swap_h2 N x1 x2 n x3 σ = some ((), σ') → Z (l, rm_X6_swap, 6, 0, 0) Y G σ [(0, .ref (G.1 1067)), (1, .int x1), (2, .int x2), (3, .int x3)] [] 2 := by
  intro n
  induction n with
  | zero =>
    intro x3 σ hf
    rw [f_X6_swap_h2] at hf
    cases hf
  | succ n ih =>
    intro x3 σ hf
    rw [f_X6_swap_h2] at hf
    refine z_iload_n h dX6_swap_2 rfl 3 rfl ?_
    refine z_bipush h (v := (15 : Int32)) dX6_swap_3 bp_15 ?_
    refine z_icmp_ge h (tgt := 62) dX6_swap_5 (by decide) (fun g1 => ?_) (fun g1 => ?_)
    · have hf := it_pos g1 hf
      exact z_vret h (rt_V hf hq) dX6_swap_62
    · have hf := it_neg g1 hf
      refine z_aload_n h dX6_swap_8 rfl 0 rfl ?_
      refine z_gfR h zC6 (d := 1088) (c := 1067) tg_1067 ln_1067 27 rfl ft_6_27 rf_1067_27 wd_110 dX6_swap_9 ?_
      refine z_bipush h (v := (15 : Int32)) dX6_swap_12 bp_15 ?_
      refine z_iload_n h dX6_swap_14 rfl 1 rfl ?_
      refine z_imul h dX6_swap_15 ?_
      refine z_iload_n h dX6_swap_16 rfl 3 rfl ?_
      refine z_iadd h dX6_swap_17 ?_
      obtain ⟨g2, hf⟩ := ck_out hf
      refine z_lald h (c := 1088) tg_1088 ln_1088 g2 dX6_swap_18 ?_
      refine z_topJ (fun v3 ev3 => ?_)
      have hf := bd_to ev3 hf
      refine z_lstore h dX6_swap_19 (lv' := [(4, .long v3), (0, .ref (G.1 1067)), (1, .int x1), (2, .int x2), (3, .int x3)]) rfl rfl ?_
      refine z_aload_n h dX6_swap_21 rfl 1 rfl ?_
      refine z_gfR h zC6 (d := 1088) (c := 1067) tg_1067 ln_1067 27 rfl ft_6_27 rf_1067_27 wd_110 dX6_swap_22 ?_
      refine z_bipush h (v := (15 : Int32)) dX6_swap_25 bp_15 ?_
      refine z_iload_n h dX6_swap_27 rfl 2 rfl ?_
      refine z_imul h dX6_swap_28 ?_
      refine z_iload_n h dX6_swap_29 rfl 4 rfl ?_
      refine z_iadd h dX6_swap_30 ?_
      refine z_aload_n h dX6_swap_31 rfl 1 rfl ?_
      refine z_gfR h zC6 (d := 1088) (c := 1067) tg_1067 ln_1067 27 rfl ft_6_27 rf_1067_27 wd_110 dX6_swap_32 ?_
      refine z_bipush h (v := (15 : Int32)) dX6_swap_35 bp_15 ?_
      refine z_iload_n h dX6_swap_37 rfl 3 rfl ?_
      refine z_imul h dX6_swap_38 ?_
      refine z_iload_n h dX6_swap_39 rfl 4 rfl ?_
      refine z_iadd h dX6_swap_40 ?_
      obtain ⟨g4, hf⟩ := ck_out hf
      refine z_lald h (c := 1088) tg_1088 ln_1088 g4 dX6_swap_41 ?_
      refine z_topJ (fun v5 ev5 => ?_)
      have hf := bd_to ev5 hf
      obtain ⟨g6, hf⟩ := ck_out hf
      refine z_last h (c := 1088) tg_1088 ln_1088 g6 dX6_swap_42 ?_
      refine z_gen (fun σ7 eσ7 => ?_)
      have hf := bd_to eσ7 hf
      refine z_aload_n h dX6_swap_43 rfl 1 rfl ?_
      refine z_gfR h zC6 (d := 1088) (c := 1067) tg_1067 ln_1067 27 rfl ft_6_27 rf_1067_27 wd_110 dX6_swap_44 ?_
      refine z_bipush h (v := (15 : Int32)) dX6_swap_47 bp_15 ?_
      refine z_iload_n h dX6_swap_49 rfl 3 rfl ?_
      refine z_imul h dX6_swap_50 ?_
      refine z_iload_n h dX6_swap_51 rfl 4 rfl ?_
      refine z_iadd h dX6_swap_52 ?_
      refine z_lload h dX6_swap_53 0 rfl ?_
      obtain ⟨g8, hf⟩ := ck_out hf
      refine z_last h (c := 1088) tg_1088 ln_1088 g8 dX6_swap_55 ?_
      refine z_gen (fun σ9 eσ9 => ?_)
      have hf := bd_to eσ9 hf
      obtain ⟨v10, ev10, hf⟩ := bd_ex hf
      refine z_iinc h (v := v10) (lv' := [(3, .int v10), (4, .long v3), (0, .ref (G.1 1067)), (1, .int x1), (2, .int x2)]) dX6_swap_56 4 rfl (by rw [ev10]; rfl) rfl rfl ?_
      refine z_goto h (tgt := 2) dX6_swap_59 (by decide) ?_
      exact z_sub [2, 3, 4, 0] rfl (ih _ _ hf)
set_option maxHeartbeats 4000000 in
set_option maxRecDepth 100000 in
theorem c_X6_swap (l : Launch) (G : ZG) {N : Nat} {x1 : Int32} {x2 : Int32} {σ σ' : ZS} {r : Unit} (hf : f_X6_swap N x1 x2 σ = some (r, σ')) : zMet l G yX6_swap cX6_swap 6 none rm_X6_swap [.ref (G.1 1067), .int x1, .int x2] σ none σ' := by
  refine z_met (by decide +kernel) rfl (fun Y h hq => ?_)
  have h : zOk (l, rm_X6_swap, 6, 0, 0) Y G cX6_swap RX6 none := h
  rw [f_X6_swap] at hf
  refine z_sub (lv' := [(0, .ref (G.1 1067)), (1, .int x1), (2, .int x2)]) [0, 1, 2] rfl ?_
  refine z_iconst h (v := (0 : Int32)) dX6_swap_0 ic_0 ?_
  refine z_istore_n h dX6_swap_1 rfl (lv' := [(3, .int (0 : Int32)), (0, .ref (G.1 1067)), (1, .int x1), (2, .int x2)]) rfl rfl ?_
  exact z_sub [1, 2, 3, 0] rfl (k_X6_swap_h2 h hq N x1 x2 _ _ _ hf)
theorem dX6_clear_0 : decode cX6_clear 0 = .ok (.aload_n 0, 1) := by decide +kernel
theorem dX6_clear_1 : decode cX6_clear 1 = .ok (.getfield 76, 3) := by decide +kernel
theorem dX6_clear_4 : decode cX6_clear 4 = .ok (.bipush 15, 2) := by decide +kernel
theorem dX6_clear_6 : decode cX6_clear 6 = .ok (.iload_n 1, 1) := by decide +kernel
theorem dX6_clear_7 : decode cX6_clear 7 = .ok (.imul, 1) := by decide +kernel
theorem dX6_clear_8 : decode cX6_clear 8 = .ok (.iload_n 2, 1) := by decide +kernel
theorem dX6_clear_9 : decode cX6_clear 9 = .ok (.iadd, 1) := by decide +kernel
theorem dX6_clear_10 : decode cX6_clear 10 = .ok (.laload, 1) := by decide +kernel
theorem dX6_clear_11 : decode cX6_clear 11 = .ok (.lstore_n 3, 1) := by decide +kernel
theorem dX6_clear_12 : decode cX6_clear 12 = .ok (.iconst 0, 1) := by decide +kernel
theorem dX6_clear_13 : decode cX6_clear 13 = .ok (.istore 5, 2) := by decide +kernel
theorem dX6_clear_15 : decode cX6_clear 15 = .ok (.iload 5, 2) := by decide +kernel
theorem dX6_clear_17 : decode cX6_clear 17 = .ok (.aload_n 0, 1) := by decide +kernel
theorem dX6_clear_18 : decode cX6_clear 18 = .ok (.getfield 165, 3) := by decide +kernel
theorem dX6_clear_21 : decode cX6_clear 21 = .ok (.if_icmp .ge 94, 3) := by decide +kernel
theorem dX6_clear_24 : decode cX6_clear 24 = .ok (.aload_n 0, 1) := by decide +kernel
theorem dX6_clear_25 : decode cX6_clear 25 = .ok (.getfield 76, 3) := by decide +kernel
theorem dX6_clear_28 : decode cX6_clear 28 = .ok (.bipush 15, 2) := by decide +kernel
theorem dX6_clear_30 : decode cX6_clear 30 = .ok (.iload 5, 2) := by decide +kernel
theorem dX6_clear_32 : decode cX6_clear 32 = .ok (.imul, 1) := by decide +kernel
theorem dX6_clear_33 : decode cX6_clear 33 = .ok (.iload_n 2, 1) := by decide +kernel
theorem dX6_clear_34 : decode cX6_clear 34 = .ok (.iadd, 1) := by decide +kernel
theorem dX6_clear_35 : decode cX6_clear 35 = .ok (.laload, 1) := by decide +kernel
theorem dX6_clear_36 : decode cX6_clear 36 = .ok (.lstore 6, 2) := by decide +kernel
theorem dX6_clear_38 : decode cX6_clear 38 = .ok (.iconst 0, 1) := by decide +kernel
theorem dX6_clear_39 : decode cX6_clear 39 = .ok (.istore 8, 2) := by decide +kernel
theorem dX6_clear_41 : decode cX6_clear 41 = .ok (.iload 8, 2) := by decide +kernel
theorem dX6_clear_43 : decode cX6_clear 43 = .ok (.bipush 15, 2) := by decide +kernel
theorem dX6_clear_45 : decode cX6_clear 45 = .ok (.if_icmp .ge 64, 3) := by decide +kernel
theorem dX6_clear_48 : decode cX6_clear 48 = .ok (.iload 5, 2) := by decide +kernel
theorem dX6_clear_50 : decode cX6_clear 50 = .ok (.iload_n 1, 1) := by decide +kernel
theorem dX6_clear_51 : decode cX6_clear 51 = .ok (.if_icmp .eq 58, 3) := by decide +kernel
theorem dX6_clear_54 : decode cX6_clear 54 = .ok (.aload_n 0, 1) := by decide +kernel
theorem dX6_clear_55 : decode cX6_clear 55 = .ok (.getfield 76, 3) := by decide +kernel
theorem dX6_clear_58 : decode cX6_clear 58 = .ok (.bipush 15, 2) := by decide +kernel
theorem dX6_clear_60 : decode cX6_clear 60 = .ok (.iload 5, 2) := by decide +kernel
theorem dX6_clear_62 : decode cX6_clear 62 = .ok (.imul, 1) := by decide +kernel
theorem dX6_clear_63 : decode cX6_clear 63 = .ok (.iload 8, 2) := by decide +kernel
theorem dX6_clear_65 : decode cX6_clear 65 = .ok (.iadd, 1) := by decide +kernel
theorem dX6_clear_66 : decode cX6_clear 66 = .ok (.aload_n 0, 1) := by decide +kernel
theorem dX6_clear_67 : decode cX6_clear 67 = .ok (.getfield 76, 3) := by decide +kernel
theorem dX6_clear_70 : decode cX6_clear 70 = .ok (.bipush 15, 2) := by decide +kernel
theorem dX6_clear_72 : decode cX6_clear 72 = .ok (.iload 5, 2) := by decide +kernel
theorem dX6_clear_74 : decode cX6_clear 74 = .ok (.imul, 1) := by decide +kernel
theorem dX6_clear_75 : decode cX6_clear 75 = .ok (.iload 8, 2) := by decide +kernel
theorem dX6_clear_77 : decode cX6_clear 77 = .ok (.iadd, 1) := by decide +kernel
theorem dX6_clear_78 : decode cX6_clear 78 = .ok (.laload, 1) := by decide +kernel
theorem dX6_clear_79 : decode cX6_clear 79 = .ok (.lload_n 3, 1) := by decide +kernel
theorem dX6_clear_80 : decode cX6_clear 80 = .ok (.lmul, 1) := by decide +kernel
theorem dX6_clear_81 : decode cX6_clear 81 = .ok (.lload 6, 2) := by decide +kernel
theorem dX6_clear_83 : decode cX6_clear 83 = .ok (.aload_n 0, 1) := by decide +kernel
theorem dX6_clear_84 : decode cX6_clear 84 = .ok (.getfield 76, 3) := by decide +kernel
theorem dX6_clear_87 : decode cX6_clear 87 = .ok (.bipush 15, 2) := by decide +kernel
theorem dX6_clear_89 : decode cX6_clear 89 = .ok (.iload_n 1, 1) := by decide +kernel
theorem dX6_clear_90 : decode cX6_clear 90 = .ok (.imul, 1) := by decide +kernel
theorem dX6_clear_91 : decode cX6_clear 91 = .ok (.iload 8, 2) := by decide +kernel
theorem dX6_clear_93 : decode cX6_clear 93 = .ok (.iadd, 1) := by decide +kernel
theorem dX6_clear_94 : decode cX6_clear 94 = .ok (.laload, 1) := by decide +kernel
theorem dX6_clear_95 : decode cX6_clear 95 = .ok (.lmul, 1) := by decide +kernel
theorem dX6_clear_96 : decode cX6_clear 96 = .ok (.lsub, 1) := by decide +kernel
theorem dX6_clear_97 : decode cX6_clear 97 = .ok (.aload_n 0, 1) := by decide +kernel
theorem dX6_clear_98 : decode cX6_clear 98 = .ok (.getfield 230, 3) := by decide +kernel
theorem dX6_clear_101 : decode cX6_clear 101 = .ok (.ldiv, 1) := by decide +kernel
theorem dX6_clear_102 : decode cX6_clear 102 = .ok (.lastore, 1) := by decide +kernel
theorem dX6_clear_103 : decode cX6_clear 103 = .ok (.iinc 8 1, 3) := by decide +kernel
theorem dX6_clear_106 : decode cX6_clear 106 = .ok (.goto (-65), 3) := by decide +kernel
theorem dX6_clear_109 : decode cX6_clear 109 = .ok (.iinc 5 1, 3) := by decide +kernel
theorem dX6_clear_112 : decode cX6_clear 112 = .ok (.goto (-97), 3) := by decide +kernel
theorem dX6_clear_115 : decode cX6_clear 115 = .ok (.aload_n 0, 1) := by decide +kernel
theorem dX6_clear_116 : decode cX6_clear 116 = .ok (.lload_n 3, 1) := by decide +kernel
theorem dX6_clear_117 : decode cX6_clear 117 = .ok (.putfield 230, 3) := by decide +kernel
theorem dX6_clear_120 : decode cX6_clear 120 = .ok (.return_, 1) := by decide +kernel
abbrev rm_X6_clear : Room := { frames := 0, cells := 0, slots := 0, locals := 0 }
noncomputable def f_X6_clear_b109 (N : Nat) (kb15 : Int32 → ZS → Option (Unit × ZS)) (x1 : Int32) (x2 : Int32) (x3 : Int64) (x5 : Int32) (σ : ZS) : Option (Unit × ZS) := bd (x5 + (1 : Int32)) fun v8 => kb15 v8 σ
noncomputable def f_X6_clear_h41 (N : Nat) (kb15 : Int32 → ZS → Option (Unit × ZS)) (x1 : Int32) (x2 : Int32) (x3 : Int64) (x5 : Int32) (x6 : Int64) : Nat → Int32 → ZS → Option (Unit × ZS)
  | 0, _, _ => none
  | n + 1, x8, σ => (if (15 : Int32) ≤ x8 then f_X6_clear_b109 N kb15 x1 x2 x3 x5 σ else (if x5 = x1 then f_X6_clear_b109 N kb15 x1 x2 x3 x5 σ else ck (inb (((15 : Int32) * x5) + x8) 180) (ck (inb (((15 : Int32) * x1) + x8) 180) (ck (!((gJ σ 1067 29) == 0)) (bd ((((gJ σ 1088 ((((15 : Int32) * x5) + x8).toNatClampNeg)) * x3) - (x6 * (gJ σ 1088 ((((15 : Int32) * x1) + x8).toNatClampNeg)))) / (gJ σ 1067 29)) fun v13 => ck (inb (((15 : Int32) * x5) + x8) 180) (bd (sJ σ 1088 ((((15 : Int32) * x5) + x8).toNatClampNeg) v13) fun σ15 => bd (x8 + (1 : Int32)) fun v16 => f_X6_clear_h41 N kb15 x1 x2 x3 x5 x6 n v16 σ15))))))
noncomputable def f_X6_clear_h15 (N : Nat) (x1 : Int32) (x2 : Int32) (x3 : Int64) : Nat → Int32 → ZS → Option (Unit × ZS)
  | 0, _, _ => none
  | n + 1, x5, σ => (if (gI σ 1067 10) ≤ x5 then bd (sJ σ 1067 29 x3) fun σ4 => some ((), σ4) else ck (inb (((15 : Int32) * x5) + x2) 180) (bd (gJ σ 1088 ((((15 : Int32) * x5) + x2).toNatClampNeg)) fun v6 => f_X6_clear_h41 N (fun x5_ σ_ => f_X6_clear_h15 N x1 x2 x3 n x5_ σ_) x1 x2 x3 x5 v6 N (0 : Int32) σ))
noncomputable def f_X6_clear (N : Nat) (x1 : Int32) (x2 : Int32) (σ : ZS) : Option (Unit × ZS) := ck (inb (((15 : Int32) * x1) + x2) 180) (bd (gJ σ 1088 ((((15 : Int32) * x1) + x2).toNatClampNeg)) fun v2 => f_X6_clear_h15 N x1 x2 v2 N (0 : Int32) σ)
set_option maxHeartbeats 4000000 in
set_option maxRecDepth 100000 in
theorem k_X6_clear_b109 {l : Launch} {Y : ZY} {G : ZG} {σ' : ZS} (h : zOk (l, rm_X6_clear, 9, 0, 0) Y G cX6_clear RX6 none) (hq : zRet (l, rm_X6_clear, 9, 0, 0) Y G none σ') (N : Nat) {kb15 : Int32 → ZS → Option (Unit × ZS)} (x1 : Int32) (x2 : Int32) (x3 : Int64) (x5 : Int32) (hb15 : ∀ (x5_ : Int32) (σ_ : ZS), kb15 x5_ σ_ = some ((), σ') → Z (l, rm_X6_clear, 9, 0, 0) Y G σ_ [(0, .ref (G.1 1067)), (1, .int x1), (2, .int x2), (3, .long x3), (5, .int x5_)] [] 15) (σ : ZS) (hf : f_X6_clear_b109 N kb15 x1 x2 x3 x5 σ = some ((), σ')) : Z (l, rm_X6_clear, 9, 0, 0) Y G σ [(0, .ref (G.1 1067)), (1, .int x1), (2, .int x2), (3, .long x3), (5, .int x5)] [] 109 := by
  rw [f_X6_clear_b109] at hf
  obtain ⟨v8, ev8, hf⟩ := bd_ex hf
  refine z_iinc h (v := v8) (lv' := [(5, .int v8), (0, .ref (G.1 1067)), (1, .int x1), (2, .int x2), (3, .long x3)]) dX6_clear_109 4 rfl (by rw [ev8]; rfl) rfl rfl ?_
  refine z_goto h (tgt := 15) dX6_clear_112 (by decide) ?_
  exact z_sub [1, 2, 3, 4, 0] rfl (hb15 _ _ hf)
set_option maxHeartbeats 4000000 in
set_option maxRecDepth 100000 in
theorem k_X6_clear_h41 {l : Launch} {Y : ZY} {G : ZG} {σ' : ZS} (h : zOk (l, rm_X6_clear, 9, 0, 0) Y G cX6_clear RX6 none) (hq : zRet (l, rm_X6_clear, 9, 0, 0) Y G none σ') (N : Nat) {kb15 : Int32 → ZS → Option (Unit × ZS)} (x1 : Int32) (x2 : Int32) (x3 : Int64) (x5 : Int32) (x6 : Int64) (hb15 : ∀ (x5_ : Int32) (σ_ : ZS), kb15 x5_ σ_ = some ((), σ') → Z (l, rm_X6_clear, 9, 0, 0) Y G σ_ [(0, .ref (G.1 1067)), (1, .int x1), (2, .int x2), (3, .long x3), (5, .int x5_)] [] 15) : ∀ (n : Nat) (x8 : Int32) (σ : ZS), f_X6_clear_h41 N kb15 x1 x2 x3 x5 x6 n x8 σ = some ((), σ') → Z (l, rm_X6_clear, 9, 0, 0) Y G σ [(0, .ref (G.1 1067)), (1, .int x1), (2, .int x2), (3, .long x3), (5, .int x5), (6, .long x6), (8, .int x8)] [] 41 := by
  intro n
  induction n with
  | zero =>
    intro x8 σ hf
    rw [f_X6_clear_h41] at hf
    cases hf
  | succ n ih =>
    intro x8 σ hf
    rw [f_X6_clear_h41] at hf
    refine z_iload h dX6_clear_41 6 rfl ?_
    refine z_bipush h (v := (15 : Int32)) dX6_clear_43 bp_15 ?_
    refine z_icmp_ge h (tgt := 109) dX6_clear_45 (by decide) (fun g7 => ?_) (fun g7 => ?_)
    · have hf := it_pos g7 hf
      exact z_sub [0, 1, 2, 3, 4] rfl (k_X6_clear_b109 h hq N x1 x2 x3 x5 hb15 _ hf)
    · have hf := it_neg g7 hf
      refine z_iload h dX6_clear_48 4 rfl ?_
      refine z_iload_n h dX6_clear_50 rfl 1 rfl ?_
      refine z_icmp_eq h (tgt := 109) dX6_clear_51 (by decide) (fun g9 => ?_) (fun g9 => ?_)
      · have hf := it_pos g9 hf
        exact z_sub [0, 1, 2, 3, 4] rfl (k_X6_clear_b109 h hq N x1 x2 x3 x5 hb15 _ hf)
      · have hf := it_neg g9 hf
        refine z_aload_n h dX6_clear_54 rfl 0 rfl ?_
        refine z_gfR h zC6 (d := 1088) (c := 1067) tg_1067 ln_1067 27 rfl ft_6_27 rf_1067_27 wd_110 dX6_clear_55 ?_
        refine z_bipush h (v := (15 : Int32)) dX6_clear_58 bp_15 ?_
        refine z_iload h dX6_clear_60 4 rfl ?_
        refine z_imul h dX6_clear_62 ?_
        refine z_iload h dX6_clear_63 6 rfl ?_
        refine z_iadd h dX6_clear_65 ?_
        refine z_aload_n h dX6_clear_66 rfl 0 rfl ?_
        refine z_gfR h zC6 (d := 1088) (c := 1067) tg_1067 ln_1067 27 rfl ft_6_27 rf_1067_27 wd_110 dX6_clear_67 ?_
        refine z_bipush h (v := (15 : Int32)) dX6_clear_70 bp_15 ?_
        refine z_iload h dX6_clear_72 4 rfl ?_
        refine z_imul h dX6_clear_74 ?_
        refine z_iload h dX6_clear_75 6 rfl ?_
        refine z_iadd h dX6_clear_77 ?_
        obtain ⟨g10, hf⟩ := ck_out hf
        refine z_lald h (c := 1088) tg_1088 ln_1088 g10 dX6_clear_78 ?_
        refine z_lload_n h dX6_clear_79 rfl 3 rfl ?_
        refine z_lmul h dX6_clear_80 ?_
        refine z_lload h dX6_clear_81 5 rfl ?_
        refine z_aload_n h dX6_clear_83 rfl 0 rfl ?_
        refine z_gfR h zC6 (d := 1088) (c := 1067) tg_1067 ln_1067 27 rfl ft_6_27 rf_1067_27 wd_110 dX6_clear_84 ?_
        refine z_bipush h (v := (15 : Int32)) dX6_clear_87 bp_15 ?_
        refine z_iload_n h dX6_clear_89 rfl 1 rfl ?_
        refine z_imul h dX6_clear_90 ?_
        refine z_iload h dX6_clear_91 6 rfl ?_
        refine z_iadd h dX6_clear_93 ?_
        obtain ⟨g11, hf⟩ := ck_out hf
        refine z_lald h (c := 1088) tg_1088 ln_1088 g11 dX6_clear_94 ?_
        refine z_lmul h dX6_clear_95 ?_
        refine z_lsub h dX6_clear_96 ?_
        refine z_aload_n h dX6_clear_97 rfl 0 rfl ?_
        refine z_gfJ h zC6 (c := 1067) tg_1067 ln_1067 29 rfl ft_6_29 wd_625 dX6_clear_98 ?_
        obtain ⟨g12, hf⟩ := ck_out hf
        refine z_ldiv h dX6_clear_101 (nz_of g12) ?_
        refine z_topJ (fun v13 ev13 => ?_)
        have hf := bd_to ev13 hf
        obtain ⟨g14, hf⟩ := ck_out hf
        refine z_last h (c := 1088) tg_1088 ln_1088 g14 dX6_clear_102 ?_
        refine z_gen (fun σ15 eσ15 => ?_)
        have hf := bd_to eσ15 hf
        obtain ⟨v16, ev16, hf⟩ := bd_ex hf
        refine z_iinc h (v := v16) (lv' := [(8, .int v16), (0, .ref (G.1 1067)), (1, .int x1), (2, .int x2), (3, .long x3), (5, .int x5), (6, .long x6)]) dX6_clear_103 6 rfl (by rw [ev16]; rfl) rfl rfl ?_
        refine z_goto h (tgt := 41) dX6_clear_106 (by decide) ?_
        exact z_sub [1, 2, 3, 4, 5, 6, 0] rfl (ih _ _ hf)
set_option maxHeartbeats 4000000 in
set_option maxRecDepth 100000 in
theorem k_X6_clear_h15 {l : Launch} {Y : ZY} {G : ZG} {σ' : ZS} (h : zOk (l, rm_X6_clear, 9, 0, 0) Y G cX6_clear RX6 none) (hq : zRet (l, rm_X6_clear, 9, 0, 0) Y G none σ') (N : Nat) (x1 : Int32) (x2 : Int32) (x3 : Int64) : ∀ (n : Nat) (x5 : Int32) (σ : ZS), f_X6_clear_h15 N x1 x2 x3 n x5 σ = some ((), σ') → Z (l, rm_X6_clear, 9, 0, 0) Y G σ [(0, .ref (G.1 1067)), (1, .int x1), (2, .int x2), (3, .long x3), (5, .int x5)] [] 15 := by
  intro n
  induction n with
  | zero =>
    intro x5 σ hf
    rw [f_X6_clear_h15] at hf
    cases hf
  | succ n ih =>
    intro x5 σ hf
    rw [f_X6_clear_h15] at hf
    refine z_iload h dX6_clear_15 4 rfl ?_
    refine z_aload_n h dX6_clear_17 rfl 0 rfl ?_
    refine z_gfI h zC6 (c := 1067) tg_1067 ln_1067 10 rfl ft_6_10 wd_424 dX6_clear_18 ?_
    refine z_icmp_ge h (tgt := 115) dX6_clear_21 (by decide) (fun g3 => ?_) (fun g3 => ?_)
    · have hf := it_pos g3 hf
      refine z_aload_n h dX6_clear_115 rfl 0 rfl ?_
      refine z_lload_n h dX6_clear_116 rfl 3 rfl ?_
      refine z_pfJ h zC6 (c := 1067) tg_1067 ln_1067 29 rfl ft_6_29 wd_625 rfl (ty := .long) (by decide +kernel) rfl rfl dX6_clear_117 ?_
      refine z_gen (fun σ4 eσ4 => ?_)
      have hf := bd_to eσ4 hf
      exact z_vret h (rt_V hf hq) dX6_clear_120
    · have hf := it_neg g3 hf
      refine z_aload_n h dX6_clear_24 rfl 0 rfl ?_
      refine z_gfR h zC6 (d := 1088) (c := 1067) tg_1067 ln_1067 27 rfl ft_6_27 rf_1067_27 wd_110 dX6_clear_25 ?_
      refine z_bipush h (v := (15 : Int32)) dX6_clear_28 bp_15 ?_
      refine z_iload h dX6_clear_30 4 rfl ?_
      refine z_imul h dX6_clear_32 ?_
      refine z_iload_n h dX6_clear_33 rfl 2 rfl ?_
      refine z_iadd h dX6_clear_34 ?_
      obtain ⟨g5, hf⟩ := ck_out hf
      refine z_lald h (c := 1088) tg_1088 ln_1088 g5 dX6_clear_35 ?_
      refine z_topJ (fun v6 ev6 => ?_)
      have hf := bd_to ev6 hf
      refine z_lstore h dX6_clear_36 (lv' := [(6, .long v6), (0, .ref (G.1 1067)), (1, .int x1), (2, .int x2), (3, .long x3), (5, .int x5)]) rfl rfl ?_
      refine z_iconst h (v := (0 : Int32)) dX6_clear_38 ic_0 ?_
      refine z_istore h dX6_clear_39 (lv' := [(8, .int (0 : Int32)), (6, .long v6), (0, .ref (G.1 1067)), (1, .int x1), (2, .int x2), (3, .long x3), (5, .int x5)]) rfl rfl ?_
      exact z_sub [2, 3, 4, 5, 6, 1, 0] rfl (k_X6_clear_h41 h hq N x1 x2 x3 x5 v6 (fun x5_ σ_ hf_ => ih x5_ σ_ hf_) _ _ _ hf)
set_option maxHeartbeats 4000000 in
set_option maxRecDepth 100000 in
theorem c_X6_clear (l : Launch) (G : ZG) {N : Nat} {x1 : Int32} {x2 : Int32} {σ σ' : ZS} {r : Unit} (hf : f_X6_clear N x1 x2 σ = some (r, σ')) : zMet l G yX6_clear cX6_clear 9 none rm_X6_clear [.ref (G.1 1067), .int x1, .int x2] σ none σ' := by
  refine z_met (by decide +kernel) rfl (fun Y h hq => ?_)
  have h : zOk (l, rm_X6_clear, 9, 0, 0) Y G cX6_clear RX6 none := h
  rw [f_X6_clear] at hf
  refine z_sub (lv' := [(0, .ref (G.1 1067)), (1, .int x1), (2, .int x2)]) [0, 1, 2] rfl ?_
  refine z_aload_n h dX6_clear_0 rfl 0 rfl ?_
  refine z_gfR h zC6 (d := 1088) (c := 1067) tg_1067 ln_1067 27 rfl ft_6_27 rf_1067_27 wd_110 dX6_clear_1 ?_
  refine z_bipush h (v := (15 : Int32)) dX6_clear_4 bp_15 ?_
  refine z_iload_n h dX6_clear_6 rfl 1 rfl ?_
  refine z_imul h dX6_clear_7 ?_
  refine z_iload_n h dX6_clear_8 rfl 2 rfl ?_
  refine z_iadd h dX6_clear_9 ?_
  obtain ⟨g1, hf⟩ := ck_out hf
  refine z_lald h (c := 1088) tg_1088 ln_1088 g1 dX6_clear_10 ?_
  refine z_topJ (fun v2 ev2 => ?_)
  have hf := bd_to ev2 hf
  refine z_lstore_n h dX6_clear_11 rfl (lv' := [(3, .long v2), (0, .ref (G.1 1067)), (1, .int x1), (2, .int x2)]) rfl rfl ?_
  refine z_iconst h (v := (0 : Int32)) dX6_clear_12 ic_0 ?_
  refine z_istore h dX6_clear_13 (lv' := [(5, .int (0 : Int32)), (3, .long v2), (0, .ref (G.1 1067)), (1, .int x1), (2, .int x2)]) rfl rfl ?_
  exact z_sub [2, 3, 4, 1, 0] rfl (k_X6_clear_h15 h hq N x1 x2 v2 _ _ _ hf)
theorem dX6_isSolved_0 : decode cX6_isSolved 0 = .ok (.iconst 0, 1) := by decide +kernel
theorem dX6_isSolved_1 : decode cX6_isSolved 1 = .ok (.istore_n 2, 1) := by decide +kernel
theorem dX6_isSolved_2 : decode cX6_isSolved 2 = .ok (.iload_n 2, 1) := by decide +kernel
theorem dX6_isSolved_3 : decode cX6_isSolved 3 = .ok (.bipush 15, 2) := by decide +kernel
theorem dX6_isSolved_5 : decode cX6_isSolved 5 = .ok (.aload_n 0, 1) := by decide +kernel
theorem dX6_isSolved_6 : decode cX6_isSolved 6 = .ok (.getfield 165, 3) := by decide +kernel
theorem dX6_isSolved_9 : decode cX6_isSolved 9 = .ok (.imul, 1) := by decide +kernel
theorem dX6_isSolved_10 : decode cX6_isSolved 10 = .ok (.if_icmp .ge 21, 3) := by decide +kernel
theorem dX6_isSolved_13 : decode cX6_isSolved 13 = .ok (.aload_n 0, 1) := by decide +kernel
theorem dX6_isSolved_14 : decode cX6_isSolved 14 = .ok (.getfield 76, 3) := by decide +kernel
theorem dX6_isSolved_17 : decode cX6_isSolved 17 = .ok (.iload_n 2, 1) := by decide +kernel
theorem dX6_isSolved_18 : decode cX6_isSolved 18 = .ok (.aload_n 0, 1) := by decide +kernel
theorem dX6_isSolved_19 : decode cX6_isSolved 19 = .ok (.getfield 73, 3) := by decide +kernel
theorem dX6_isSolved_22 : decode cX6_isSolved 22 = .ok (.iload_n 2, 1) := by decide +kernel
theorem dX6_isSolved_23 : decode cX6_isSolved 23 = .ok (.laload, 1) := by decide +kernel
theorem dX6_isSolved_24 : decode cX6_isSolved 24 = .ok (.lastore, 1) := by decide +kernel
theorem dX6_isSolved_25 : decode cX6_isSolved 25 = .ok (.iinc 2 1, 3) := by decide +kernel
theorem dX6_isSolved_28 : decode cX6_isSolved 28 = .ok (.goto (-26), 3) := by decide +kernel
theorem dX6_isSolved_31 : decode cX6_isSolved 31 = .ok (.aload_n 0, 1) := by decide +kernel
theorem dX6_isSolved_32 : decode cX6_isSolved 32 = .ok (.lconst 1, 1) := by decide +kernel
theorem dX6_isSolved_33 : decode cX6_isSolved 33 = .ok (.putfield 230, 3) := by decide +kernel
theorem dX6_isSolved_36 : decode cX6_isSolved 36 = .ok (.iconst 0, 1) := by decide +kernel
theorem dX6_isSolved_37 : decode cX6_isSolved 37 = .ok (.istore_n 2, 1) := by decide +kernel
theorem dX6_isSolved_38 : decode cX6_isSolved 38 = .ok (.iconst 0, 1) := by decide +kernel
theorem dX6_isSolved_39 : decode cX6_isSolved 39 = .ok (.istore_n 3, 1) := by decide +kernel
theorem dX6_isSolved_40 : decode cX6_isSolved 40 = .ok (.iload_n 3, 1) := by decide +kernel
theorem dX6_isSolved_41 : decode cX6_isSolved 41 = .ok (.bipush 15, 2) := by decide +kernel
theorem dX6_isSolved_43 : decode cX6_isSolved 43 = .ok (.if_icmp .ge 94, 3) := by decide +kernel
theorem dX6_isSolved_46 : decode cX6_isSolved 46 = .ok (.aload_n 0, 1) := by decide +kernel
theorem dX6_isSolved_47 : decode cX6_isSolved 47 = .ok (.getfield 79, 3) := by decide +kernel
theorem dX6_isSolved_50 : decode cX6_isSolved 50 = .ok (.iload_n 3, 1) := by decide +kernel
theorem dX6_isSolved_51 : decode cX6_isSolved 51 = .ok (.iconst (-1), 1) := by decide +kernel
theorem dX6_isSolved_52 : decode cX6_isSolved 52 = .ok (.iastore, 1) := by decide +kernel
theorem dX6_isSolved_53 : decode cX6_isSolved 53 = .ok (.iload_n 1, 1) := by decide +kernel
theorem dX6_isSolved_54 : decode cX6_isSolved 54 = .ok (.iload_n 3, 1) := by decide +kernel
theorem dX6_isSolved_55 : decode cX6_isSolved 55 = .ok (.ishr, 1) := by decide +kernel
theorem dX6_isSolved_56 : decode cX6_isSolved 56 = .ok (.iconst 1, 1) := by decide +kernel
theorem dX6_isSolved_57 : decode cX6_isSolved 57 = .ok (.iand, 1) := by decide +kernel
theorem dX6_isSolved_58 : decode cX6_isSolved 58 = .ok (.iconst 1, 1) := by decide +kernel
theorem dX6_isSolved_59 : decode cX6_isSolved 59 = .ok (.if_icmp .ne 72, 3) := by decide +kernel
theorem dX6_isSolved_62 : decode cX6_isSolved 62 = .ok (.iload_n 2, 1) := by decide +kernel
theorem dX6_isSolved_63 : decode cX6_isSolved 63 = .ok (.istore 4, 2) := by decide +kernel
theorem dX6_isSolved_65 : decode cX6_isSolved 65 = .ok (.iload 4, 2) := by decide +kernel
theorem dX6_isSolved_67 : decode cX6_isSolved 67 = .ok (.aload_n 0, 1) := by decide +kernel
theorem dX6_isSolved_68 : decode cX6_isSolved 68 = .ok (.getfield 165, 3) := by decide +kernel
theorem dX6_isSolved_71 : decode cX6_isSolved 71 = .ok (.if_icmp .ge 26, 3) := by decide +kernel
theorem dX6_isSolved_74 : decode cX6_isSolved 74 = .ok (.aload_n 0, 1) := by decide +kernel
theorem dX6_isSolved_75 : decode cX6_isSolved 75 = .ok (.getfield 76, 3) := by decide +kernel
theorem dX6_isSolved_78 : decode cX6_isSolved 78 = .ok (.bipush 15, 2) := by decide +kernel
theorem dX6_isSolved_80 : decode cX6_isSolved 80 = .ok (.iload 4, 2) := by decide +kernel
theorem dX6_isSolved_82 : decode cX6_isSolved 82 = .ok (.imul, 1) := by decide +kernel
theorem dX6_isSolved_83 : decode cX6_isSolved 83 = .ok (.iload_n 3, 1) := by decide +kernel
theorem dX6_isSolved_84 : decode cX6_isSolved 84 = .ok (.iadd, 1) := by decide +kernel
theorem dX6_isSolved_85 : decode cX6_isSolved 85 = .ok (.laload, 1) := by decide +kernel
theorem dX6_isSolved_86 : decode cX6_isSolved 86 = .ok (.lconst 0, 1) := by decide +kernel
theorem dX6_isSolved_87 : decode cX6_isSolved 87 = .ok (.lcmp, 1) := by decide +kernel
theorem dX6_isSolved_88 : decode cX6_isSolved 88 = .ok (.ifCond .ne 9, 3) := by decide +kernel
theorem dX6_isSolved_91 : decode cX6_isSolved 91 = .ok (.iinc 4 1, 3) := by decide +kernel
theorem dX6_isSolved_94 : decode cX6_isSolved 94 = .ok (.goto (-29), 3) := by decide +kernel
theorem dX6_isSolved_97 : decode cX6_isSolved 97 = .ok (.iload 4, 2) := by decide +kernel
theorem dX6_isSolved_99 : decode cX6_isSolved 99 = .ok (.aload_n 0, 1) := by decide +kernel
theorem dX6_isSolved_100 : decode cX6_isSolved 100 = .ok (.getfield 165, 3) := by decide +kernel
theorem dX6_isSolved_103 : decode cX6_isSolved 103 = .ok (.if_icmp .ne 5, 3) := by decide +kernel
theorem dX6_isSolved_106 : decode cX6_isSolved 106 = .ok (.iconst 0, 1) := by decide +kernel
theorem dX6_isSolved_107 : decode cX6_isSolved 107 = .ok (.ireturn, 1) := by decide +kernel
theorem dX6_isSolved_108 : decode cX6_isSolved 108 = .ok (.aload_n 0, 1) := by decide +kernel
theorem dX6_isSolved_109 : decode cX6_isSolved 109 = .ok (.iload 4, 2) := by decide +kernel
theorem dX6_isSolved_111 : decode cX6_isSolved 111 = .ok (.iload_n 2, 1) := by decide +kernel
theorem dX6_isSolved_112 : decode cX6_isSolved 112 = .ok (.invokevirtual 233, 3) := by decide +kernel
theorem dX6_isSolved_115 : decode cX6_isSolved 115 = .ok (.aload_n 0, 1) := by decide +kernel
theorem dX6_isSolved_116 : decode cX6_isSolved 116 = .ok (.iload_n 2, 1) := by decide +kernel
theorem dX6_isSolved_117 : decode cX6_isSolved 117 = .ok (.iload_n 3, 1) := by decide +kernel
theorem dX6_isSolved_118 : decode cX6_isSolved 118 = .ok (.invokevirtual 237, 3) := by decide +kernel
theorem dX6_isSolved_121 : decode cX6_isSolved 121 = .ok (.aload_n 0, 1) := by decide +kernel
theorem dX6_isSolved_122 : decode cX6_isSolved 122 = .ok (.getfield 79, 3) := by decide +kernel
theorem dX6_isSolved_125 : decode cX6_isSolved 125 = .ok (.iload_n 3, 1) := by decide +kernel
theorem dX6_isSolved_126 : decode cX6_isSolved 126 = .ok (.iload_n 2, 1) := by decide +kernel
theorem dX6_isSolved_127 : decode cX6_isSolved 127 = .ok (.iinc 2 1, 3) := by decide +kernel
theorem dX6_isSolved_130 : decode cX6_isSolved 130 = .ok (.iastore, 1) := by decide +kernel
theorem dX6_isSolved_131 : decode cX6_isSolved 131 = .ok (.iinc 3 1, 3) := by decide +kernel
theorem dX6_isSolved_134 : decode cX6_isSolved 134 = .ok (.goto (-94), 3) := by decide +kernel
theorem dX6_isSolved_137 : decode cX6_isSolved 137 = .ok (.iconst 1, 1) := by decide +kernel
theorem dX6_isSolved_138 : decode cX6_isSolved 138 = .ok (.ireturn, 1) := by decide +kernel
abbrev rm_X6_isSolved : Room := { frames := 1, cells := 0, slots := 0, locals := 36 }
noncomputable def f_X6_isSolved_b131 (N : Nat) (kb40 : Int32 → Int32 → ZS → Option (Int32 × ZS)) (x1 : Int32) (x2 : Int32) (x3 : Int32) (σ : ZS) : Option (Int32 × ZS) := bd (x3 + (1 : Int32)) fun v7 => kb40 x2 v7 σ
noncomputable def f_X6_isSolved_b97 (N : Nat) (kb40 : Int32 → Int32 → ZS → Option (Int32 × ZS)) (x1 : Int32) (x2 : Int32) (x3 : Int32) (x4 : Int32) (σ : ZS) : Option (Int32 × ZS) := (if x4 = (gI σ 1067 10) then some ((0 : Int32), σ) else obd (f_X6_swap N x4 x2 σ) fun _ σ11 => obd (f_X6_clear N x2 x3 σ11) fun _ σ13 => bd (x2 + (1 : Int32)) fun v14 => ck (inb x3 15) (bd (sI σ13 1089 (x3.toNatClampNeg) x2) fun σ16 => f_X6_isSolved_b131 N kb40 x1 v14 x3 σ16))
noncomputable def f_X6_isSolved_h65 (N : Nat) (kb40 : Int32 → Int32 → ZS → Option (Int32 × ZS)) (x1 : Int32) (x2 : Int32) (x3 : Int32) : Nat → Int32 → ZS → Option (Int32 × ZS)
  | 0, _, _ => none
  | n + 1, x4, σ => (if (gI σ 1067 10) ≤ x4 then f_X6_isSolved_b97 N kb40 x1 x2 x3 x4 σ else ck (inb (((15 : Int32) * x4) + x3) 180) ((if (gJ σ 1088 ((((15 : Int32) * x4) + x3).toNatClampNeg)) = (0 : Int64) then bd (x4 + (1 : Int32)) fun v19 => f_X6_isSolved_h65 N kb40 x1 x2 x3 n v19 σ else f_X6_isSolved_b97 N kb40 x1 x2 x3 x4 σ)))
noncomputable def f_X6_isSolved_h40 (N : Nat) (x1 : Int32) : Nat → Int32 → Int32 → ZS → Option (Int32 × ZS)
  | 0, _, _, _ => none
  | n + 1, x2, x3, σ => (if (15 : Int32) ≤ x3 then some ((1 : Int32), σ) else ck (inb x3 15) (bd (sI σ 1089 (x3.toNatClampNeg) (-1 : Int32)) fun σ5 => (if ((x1 >>> (x3 &&& 31)) &&& (1 : Int32)) = (1 : Int32) then f_X6_isSolved_h65 N (fun x2_ x3_ σ_ => f_X6_isSolved_h40 N x1 n x2_ x3_ σ_) x1 x2 x3 N x2 σ5 else f_X6_isSolved_b131 N (fun x2_ x3_ σ_ => f_X6_isSolved_h40 N x1 n x2_ x3_ σ_) x1 x2 x3 σ5)))
noncomputable def f_X6_isSolved_h2 (N : Nat) (x1 : Int32) : Nat → Int32 → ZS → Option (Int32 × ZS)
  | 0, _, _ => none
  | n + 1, x2, σ => (if ((15 : Int32) * (gI σ 1067 10)) ≤ x2 then bd (sJ σ 1067 29 (1 : Int64)) fun σ2 => f_X6_isSolved_h40 N x1 N (0 : Int32) (0 : Int32) σ2 else ck (inb x2 180) (bd (gJ σ 1087 (x2.toNatClampNeg)) fun v21 => ck (inb x2 180) (bd (sJ σ 1088 (x2.toNatClampNeg) v21) fun σ23 => bd (x2 + (1 : Int32)) fun v24 => f_X6_isSolved_h2 N x1 n v24 σ23)))
noncomputable def f_X6_isSolved (N : Nat) (x1 : Int32) (σ : ZS) : Option (Int32 × ZS) := f_X6_isSolved_h2 N x1 N (0 : Int32) σ
set_option maxHeartbeats 4000000 in
set_option maxRecDepth 100000 in
theorem k_X6_isSolved_b131 {l : Launch} {Y : ZY} {G : ZG} {r : Int32} {σ' : ZS} (h : zOk (l, rm_X6_isSolved, 5, 0, 0) Y G cX6_isSolved RX6 (some .boolean)) (hq : zRet (l, rm_X6_isSolved, 5, 0, 0) Y G (some (.int r)) σ') (N : Nat) {kb40 : Int32 → Int32 → ZS → Option (Int32 × ZS)} (x1 : Int32) (x2 : Int32) (x3 : Int32) (hb40 : ∀ (x2_ : Int32) (x3_ : Int32) (σ_ : ZS), kb40 x2_ x3_ σ_ = some (r, σ') → Z (l, rm_X6_isSolved, 5, 0, 0) Y G σ_ [(0, .ref (G.1 1067)), (1, .int x1), (2, .int x2_), (3, .int x3_)] [] 40) (σ : ZS) (hf : f_X6_isSolved_b131 N kb40 x1 x2 x3 σ = some (r, σ')) : Z (l, rm_X6_isSolved, 5, 0, 0) Y G σ [(0, .ref (G.1 1067)), (1, .int x1), (2, .int x2), (3, .int x3)] [] 131 := by
  rw [f_X6_isSolved_b131] at hf
  obtain ⟨v7, ev7, hf⟩ := bd_ex hf
  refine z_iinc h (v := v7) (lv' := [(3, .int v7), (0, .ref (G.1 1067)), (1, .int x1), (2, .int x2)]) dX6_isSolved_131 3 rfl (by rw [ev7]; rfl) rfl rfl ?_
  refine z_goto h (tgt := 40) dX6_isSolved_134 (by decide) ?_
  exact z_sub [1, 2, 3, 0] rfl (hb40 _ _ _ hf)
set_option maxHeartbeats 4000000 in
set_option maxRecDepth 100000 in
theorem k_X6_isSolved_b97 {l : Launch} {Y : ZY} {G : ZG} {r : Int32} {σ' : ZS} (h : zOk (l, rm_X6_isSolved, 5, 0, 0) Y G cX6_isSolved RX6 (some .boolean)) (hq : zRet (l, rm_X6_isSolved, 5, 0, 0) Y G (some (.int r)) σ') (N : Nat) {kb40 : Int32 → Int32 → ZS → Option (Int32 × ZS)} (x1 : Int32) (x2 : Int32) (x3 : Int32) (x4 : Int32) (hb40 : ∀ (x2_ : Int32) (x3_ : Int32) (σ_ : ZS), kb40 x2_ x3_ σ_ = some (r, σ') → Z (l, rm_X6_isSolved, 5, 0, 0) Y G σ_ [(0, .ref (G.1 1067)), (1, .int x1), (2, .int x2_), (3, .int x3_)] [] 40) (σ : ZS) (hf : f_X6_isSolved_b97 N kb40 x1 x2 x3 x4 σ = some (r, σ')) : Z (l, rm_X6_isSolved, 5, 0, 0) Y G σ [(0, .ref (G.1 1067)), (1, .int x1), (2, .int x2), (3, .int x3), (4, .int x4)] [] 97 := by
  rw [f_X6_isSolved_b97] at hf
  refine z_iload h dX6_isSolved_97 4 rfl ?_
  refine z_aload_n h dX6_isSolved_99 rfl 0 rfl ?_
  refine z_gfI h zC6 (c := 1067) tg_1067 ln_1067 10 rfl ft_6_10 wd_424 dX6_isSolved_100 ?_
  refine z_icmp_ne h (tgt := 108) dX6_isSolved_103 (by decide) (fun g9 => ?_) (fun g9 => ?_)
  · have hf := it_neg g9 hf
    refine z_aload_n h dX6_isSolved_108 rfl 0 rfl ?_
    refine z_iload h dX6_isSolved_109 4 rfl ?_
    refine z_iload_n h dX6_isSolved_111 rfl 2 rfl ?_
    obtain ⟨v10, σ11, e11, hf⟩ := obd_out hf
    refine z_cV0 h (n := 2) (c_X6_swap l G e11) zC6 tg_1067 ln_1067 rfl rfl wd_647 wd_648 wd_649 wd_5 wd_650 (by decide +kernel) ⟨rfl, rfl⟩ rfl rfl rfl dX6_isSolved_112 ⟨Nat.zero_le _, Nat.zero_le _⟩ ?_
    refine z_aload_n h dX6_isSolved_115 rfl 0 rfl ?_
    refine z_iload_n h dX6_isSolved_116 rfl 2 rfl ?_
    refine z_iload_n h dX6_isSolved_117 rfl 3 rfl ?_
    obtain ⟨v12, σ13, e13, hf⟩ := obd_out hf
    refine z_cV0 h (n := 2) (c_X6_clear l G e13) zC6 tg_1067 ln_1067 rfl rfl wd_651 wd_652 wd_653 wd_5 wd_654 (by decide +kernel) ⟨rfl, rfl⟩ rfl rfl rfl dX6_isSolved_118 ⟨Nat.zero_le _, Nat.zero_le _⟩ ?_
    refine z_aload_n h dX6_isSolved_121 rfl 0 rfl ?_
    refine z_gfR h zC6 (d := 1089) (c := 1067) tg_1067 ln_1067 28 rfl ft_6_28 rf_1067_28 wd_111 dX6_isSolved_122 ?_
    refine z_iload_n h dX6_isSolved_125 rfl 3 rfl ?_
    refine z_iload_n h dX6_isSolved_126 rfl 2 rfl ?_
    obtain ⟨v14, ev14, hf⟩ := bd_ex hf
    refine z_iinc h (v := v14) (lv' := [(2, .int v14), (0, .ref (G.1 1067)), (1, .int x1), (3, .int x3), (4, .int x4)]) dX6_isSolved_127 2 rfl (by rw [ev14]; rfl) rfl rfl ?_
    obtain ⟨g15, hf⟩ := ck_out hf
    refine z_iast h (c := 1089) tg_1089 ln_1089 g15 dX6_isSolved_130 ?_
    refine z_gen (fun σ16 eσ16 => ?_)
    have hf := bd_to eσ16 hf
    exact z_sub [1, 2, 0, 3] rfl (k_X6_isSolved_b131 h hq N x1 v14 x3 hb40 _ hf)
  · have hf := it_pos g9 hf
    refine z_iconst h (v := (0 : Int32)) dX6_isSolved_106 ic_0 ?_
    exact z_zret h rfl (rt_I hf hq) dX6_isSolved_107
set_option maxHeartbeats 4000000 in
set_option maxRecDepth 100000 in
theorem k_X6_isSolved_h65 {l : Launch} {Y : ZY} {G : ZG} {r : Int32} {σ' : ZS} (h : zOk (l, rm_X6_isSolved, 5, 0, 0) Y G cX6_isSolved RX6 (some .boolean)) (hq : zRet (l, rm_X6_isSolved, 5, 0, 0) Y G (some (.int r)) σ') (N : Nat) {kb40 : Int32 → Int32 → ZS → Option (Int32 × ZS)} (x1 : Int32) (x2 : Int32) (x3 : Int32) (hb40 : ∀ (x2_ : Int32) (x3_ : Int32) (σ_ : ZS), kb40 x2_ x3_ σ_ = some (r, σ') → Z (l, rm_X6_isSolved, 5, 0, 0) Y G σ_ [(0, .ref (G.1 1067)), (1, .int x1), (2, .int x2_), (3, .int x3_)] [] 40) : ∀ (n : Nat) (x4 : Int32) (σ : ZS), f_X6_isSolved_h65 N kb40 x1 x2 x3 n x4 σ = some (r, σ') → Z (l, rm_X6_isSolved, 5, 0, 0) Y G σ [(0, .ref (G.1 1067)), (1, .int x1), (2, .int x2), (3, .int x3), (4, .int x4)] [] 65 := by
  intro n
  induction n with
  | zero =>
    intro x4 σ hf
    rw [f_X6_isSolved_h65] at hf
    cases hf
  | succ n ih =>
    intro x4 σ hf
    rw [f_X6_isSolved_h65] at hf
    refine z_iload h dX6_isSolved_65 4 rfl ?_
    refine z_aload_n h dX6_isSolved_67 rfl 0 rfl ?_
    refine z_gfI h zC6 (c := 1067) tg_1067 ln_1067 10 rfl ft_6_10 wd_424 dX6_isSolved_68 ?_
    refine z_icmp_ge h (tgt := 97) dX6_isSolved_71 (by decide) (fun g8 => ?_) (fun g8 => ?_)
    · have hf := it_pos g8 hf
      exact z_sub [0, 1, 2, 3, 4] rfl (k_X6_isSolved_b97 h hq N x1 x2 x3 x4 hb40 _ hf)
    · have hf := it_neg g8 hf
      refine z_aload_n h dX6_isSolved_74 rfl 0 rfl ?_
      refine z_gfR h zC6 (d := 1088) (c := 1067) tg_1067 ln_1067 27 rfl ft_6_27 rf_1067_27 wd_110 dX6_isSolved_75 ?_
      refine z_bipush h (v := (15 : Int32)) dX6_isSolved_78 bp_15 ?_
      refine z_iload h dX6_isSolved_80 4 rfl ?_
      refine z_imul h dX6_isSolved_82 ?_
      refine z_iload_n h dX6_isSolved_83 rfl 3 rfl ?_
      refine z_iadd h dX6_isSolved_84 ?_
      obtain ⟨g17, hf⟩ := ck_out hf
      refine z_lald h (c := 1088) tg_1088 ln_1088 g17 dX6_isSolved_85 ?_
      refine z_lconst h (v := (0 : Int64)) dX6_isSolved_86 lc_0 ?_
      refine z_lif_ne h (tgt := 97) dX6_isSolved_87 dX6_isSolved_88 (by decide) (fun g18 => ?_) (fun g18 => ?_)
      · have hf := it_neg g18 hf
        exact z_sub [0, 1, 2, 3, 4] rfl (k_X6_isSolved_b97 h hq N x1 x2 x3 x4 hb40 _ hf)
      · have hf := it_pos g18 hf
        obtain ⟨v19, ev19, hf⟩ := bd_ex hf
        refine z_iinc h (v := v19) (lv' := [(4, .int v19), (0, .ref (G.1 1067)), (1, .int x1), (2, .int x2), (3, .int x3)]) dX6_isSolved_91 4 rfl (by rw [ev19]; rfl) rfl rfl ?_
        refine z_goto h (tgt := 65) dX6_isSolved_94 (by decide) ?_
        exact z_sub [1, 2, 3, 4, 0] rfl (ih _ _ hf)
set_option maxHeartbeats 4000000 in
set_option maxRecDepth 100000 in
theorem k_X6_isSolved_h40 {l : Launch} {Y : ZY} {G : ZG} {r : Int32} {σ' : ZS} (h : zOk (l, rm_X6_isSolved, 5, 0, 0) Y G cX6_isSolved RX6 (some .boolean)) (hq : zRet (l, rm_X6_isSolved, 5, 0, 0) Y G (some (.int r)) σ') (N : Nat) (x1 : Int32) : ∀ (n : Nat) (x2 : Int32) (x3 : Int32) (σ : ZS), f_X6_isSolved_h40 N x1 n x2 x3 σ = some (r, σ') → Z (l, rm_X6_isSolved, 5, 0, 0) Y G σ [(0, .ref (G.1 1067)), (1, .int x1), (2, .int x2), (3, .int x3)] [] 40 := by
  intro n
  induction n with
  | zero =>
    intro x2 x3 σ hf
    rw [f_X6_isSolved_h40] at hf
    cases hf
  | succ n ih =>
    intro x2 x3 σ hf
    rw [f_X6_isSolved_h40] at hf
    refine z_iload_n h dX6_isSolved_40 rfl 3 rfl ?_
    refine z_bipush h (v := (15 : Int32)) dX6_isSolved_41 bp_15 ?_
    refine z_icmp_ge h (tgt := 137) dX6_isSolved_43 (by decide) (fun g3 => ?_) (fun g3 => ?_)
    · have hf := it_pos g3 hf
      refine z_iconst h (v := (1 : Int32)) dX6_isSolved_137 ic_1 ?_
      exact z_zret h rfl (rt_I hf hq) dX6_isSolved_138
    · have hf := it_neg g3 hf
      refine z_aload_n h dX6_isSolved_46 rfl 0 rfl ?_
      refine z_gfR h zC6 (d := 1089) (c := 1067) tg_1067 ln_1067 28 rfl ft_6_28 rf_1067_28 wd_111 dX6_isSolved_47 ?_
      refine z_iload_n h dX6_isSolved_50 rfl 3 rfl ?_
      refine z_iconst h (v := (-1 : Int32)) dX6_isSolved_51 ic_m1 ?_
      obtain ⟨g4, hf⟩ := ck_out hf
      refine z_iast h (c := 1089) tg_1089 ln_1089 g4 dX6_isSolved_52 ?_
      refine z_gen (fun σ5 eσ5 => ?_)
      have hf := bd_to eσ5 hf
      refine z_iload_n h dX6_isSolved_53 rfl 1 rfl ?_
      refine z_iload_n h dX6_isSolved_54 rfl 3 rfl ?_
      refine z_ishr h dX6_isSolved_55 ?_
      refine z_iconst h (v := (1 : Int32)) dX6_isSolved_56 ic_1 ?_
      refine z_iand h dX6_isSolved_57 ?_
      refine z_iconst h (v := (1 : Int32)) dX6_isSolved_58 ic_1 ?_
      refine z_icmp_ne h (tgt := 131) dX6_isSolved_59 (by decide) (fun g6 => ?_) (fun g6 => ?_)
      · have hf := it_neg g6 hf
        exact z_sub [0, 1, 2, 3] rfl (k_X6_isSolved_b131 h hq N x1 x2 x3 (fun x2_ x3_ σ_ hf_ => ih x2_ x3_ σ_ hf_) _ hf)
      · have hf := it_pos g6 hf
        refine z_iload_n h dX6_isSolved_62 rfl 2 rfl ?_
        refine z_istore h dX6_isSolved_63 (lv' := [(4, .int x2), (0, .ref (G.1 1067)), (1, .int x1), (2, .int x2), (3, .int x3)]) rfl rfl ?_
        exact z_sub [1, 2, 3, 4, 0] rfl (k_X6_isSolved_h65 h hq N x1 x2 x3 (fun x2_ x3_ σ_ hf_ => ih x2_ x3_ σ_ hf_) _ _ _ hf)
set_option maxHeartbeats 4000000 in
set_option maxRecDepth 100000 in
theorem k_X6_isSolved_h2 {l : Launch} {Y : ZY} {G : ZG} {r : Int32} {σ' : ZS} (h : zOk (l, rm_X6_isSolved, 5, 0, 0) Y G cX6_isSolved RX6 (some .boolean)) (hq : zRet (l, rm_X6_isSolved, 5, 0, 0) Y G (some (.int r)) σ') (N : Nat) (x1 : Int32) : ∀ (n : Nat) (x2 : Int32) (σ : ZS), f_X6_isSolved_h2 N x1 n x2 σ = some (r, σ') → Z (l, rm_X6_isSolved, 5, 0, 0) Y G σ [(0, .ref (G.1 1067)), (1, .int x1), (2, .int x2)] [] 2 := by
  intro n
  induction n with
  | zero =>
    intro x2 σ hf
    rw [f_X6_isSolved_h2] at hf
    cases hf
  | succ n ih =>
    intro x2 σ hf
    rw [f_X6_isSolved_h2] at hf
    refine z_iload_n h dX6_isSolved_2 rfl 2 rfl ?_
    refine z_bipush h (v := (15 : Int32)) dX6_isSolved_3 bp_15 ?_
    refine z_aload_n h dX6_isSolved_5 rfl 0 rfl ?_
    refine z_gfI h zC6 (c := 1067) tg_1067 ln_1067 10 rfl ft_6_10 wd_424 dX6_isSolved_6 ?_
    refine z_imul h dX6_isSolved_9 ?_
    refine z_icmp_ge h (tgt := 31) dX6_isSolved_10 (by decide) (fun g1 => ?_) (fun g1 => ?_)
    · have hf := it_pos g1 hf
      refine z_aload_n h dX6_isSolved_31 rfl 0 rfl ?_
      refine z_lconst h (v := (1 : Int64)) dX6_isSolved_32 lc_1 ?_
      refine z_pfJ h zC6 (c := 1067) tg_1067 ln_1067 29 rfl ft_6_29 wd_625 rfl (ty := .long) (by decide +kernel) rfl rfl dX6_isSolved_33 ?_
      refine z_gen (fun σ2 eσ2 => ?_)
      have hf := bd_to eσ2 hf
      refine z_iconst h (v := (0 : Int32)) dX6_isSolved_36 ic_0 ?_
      refine z_istore_n h dX6_isSolved_37 rfl (lv' := [(2, .int (0 : Int32)), (0, .ref (G.1 1067)), (1, .int x1)]) rfl rfl ?_
      refine z_iconst h (v := (0 : Int32)) dX6_isSolved_38 ic_0 ?_
      refine z_istore_n h dX6_isSolved_39 rfl (lv' := [(3, .int (0 : Int32)), (2, .int (0 : Int32)), (0, .ref (G.1 1067)), (1, .int x1)]) rfl rfl ?_
      exact z_sub [2, 3, 1, 0] rfl (k_X6_isSolved_h40 h hq N x1 _ _ _ _ hf)
    · have hf := it_neg g1 hf
      refine z_aload_n h dX6_isSolved_13 rfl 0 rfl ?_
      refine z_gfR h zC6 (d := 1088) (c := 1067) tg_1067 ln_1067 27 rfl ft_6_27 rf_1067_27 wd_110 dX6_isSolved_14 ?_
      refine z_iload_n h dX6_isSolved_17 rfl 2 rfl ?_
      refine z_aload_n h dX6_isSolved_18 rfl 0 rfl ?_
      refine z_gfR h zC6 (d := 1087) (c := 1067) tg_1067 ln_1067 26 rfl ft_6_26 rf_1067_26 wd_109 dX6_isSolved_19 ?_
      refine z_iload_n h dX6_isSolved_22 rfl 2 rfl ?_
      obtain ⟨g20, hf⟩ := ck_out hf
      refine z_lald h (c := 1087) tg_1087 ln_1087 g20 dX6_isSolved_23 ?_
      refine z_topJ (fun v21 ev21 => ?_)
      have hf := bd_to ev21 hf
      obtain ⟨g22, hf⟩ := ck_out hf
      refine z_last h (c := 1088) tg_1088 ln_1088 g22 dX6_isSolved_24 ?_
      refine z_gen (fun σ23 eσ23 => ?_)
      have hf := bd_to eσ23 hf
      obtain ⟨v24, ev24, hf⟩ := bd_ex hf
      refine z_iinc h (v := v24) (lv' := [(2, .int v24), (0, .ref (G.1 1067)), (1, .int x1)]) dX6_isSolved_25 2 rfl (by rw [ev24]; rfl) rfl rfl ?_
      refine z_goto h (tgt := 2) dX6_isSolved_28 (by decide) ?_
      exact z_sub [1, 2, 0] rfl (ih _ _ hf)
set_option maxHeartbeats 4000000 in
set_option maxRecDepth 100000 in
theorem c_X6_isSolved (l : Launch) (G : ZG) {N : Nat} {x1 : Int32} {σ σ' : ZS} {r : Int32} (hf : f_X6_isSolved N x1 σ = some (r, σ')) : zMet l G yX6_isSolved cX6_isSolved 5 (some .boolean) rm_X6_isSolved [.ref (G.1 1067), .int x1] σ (some (.int r)) σ' := by
  refine z_met (by decide +kernel) rfl (fun Y h hq => ?_)
  have h : zOk (l, rm_X6_isSolved, 5, 0, 0) Y G cX6_isSolved RX6 (some .boolean) := h
  rw [f_X6_isSolved] at hf
  refine z_sub (lv' := [(0, .ref (G.1 1067)), (1, .int x1)]) [0, 1] rfl ?_
  refine z_iconst h (v := (0 : Int32)) dX6_isSolved_0 ic_0 ?_
  refine z_istore_n h dX6_isSolved_1 rfl (lv' := [(2, .int (0 : Int32)), (0, .ref (G.1 1067)), (1, .int x1)]) rfl rfl ?_
  exact z_sub [1, 2, 0] rfl (k_X6_isSolved_h2 h hq N x1 _ _ _ hf)
theorem dX6_bits_0 : decode cX6_bits 0 = .ok (.iconst 0, 1) := by decide +kernel
theorem dX6_bits_1 : decode cX6_bits 1 = .ok (.istore_n 1, 1) := by decide +kernel
theorem dX6_bits_2 : decode cX6_bits 2 = .ok (.iconst 0, 1) := by decide +kernel
theorem dX6_bits_3 : decode cX6_bits 3 = .ok (.istore_n 2, 1) := by decide +kernel
theorem dX6_bits_4 : decode cX6_bits 4 = .ok (.iload_n 2, 1) := by decide +kernel
theorem dX6_bits_5 : decode cX6_bits 5 = .ok (.bipush 12, 2) := by decide +kernel
theorem dX6_bits_7 : decode cX6_bits 7 = .ok (.if_icmp .ge 17, 3) := by decide +kernel
theorem dX6_bits_10 : decode cX6_bits 10 = .ok (.iload_n 1, 1) := by decide +kernel
theorem dX6_bits_11 : decode cX6_bits 11 = .ok (.iload_n 0, 1) := by decide +kernel
theorem dX6_bits_12 : decode cX6_bits 12 = .ok (.iload_n 2, 1) := by decide +kernel
theorem dX6_bits_13 : decode cX6_bits 13 = .ok (.ishr, 1) := by decide +kernel
theorem dX6_bits_14 : decode cX6_bits 14 = .ok (.iconst 1, 1) := by decide +kernel
theorem dX6_bits_15 : decode cX6_bits 15 = .ok (.iand, 1) := by decide +kernel
theorem dX6_bits_16 : decode cX6_bits 16 = .ok (.iadd, 1) := by decide +kernel
theorem dX6_bits_17 : decode cX6_bits 17 = .ok (.istore_n 1, 1) := by decide +kernel
theorem dX6_bits_18 : decode cX6_bits 18 = .ok (.iinc 2 1, 3) := by decide +kernel
theorem dX6_bits_21 : decode cX6_bits 21 = .ok (.goto (-17), 3) := by decide +kernel
theorem dX6_bits_24 : decode cX6_bits 24 = .ok (.iload_n 1, 1) := by decide +kernel
theorem dX6_bits_25 : decode cX6_bits 25 = .ok (.ireturn, 1) := by decide +kernel
abbrev rm_X6_bits : Room := { frames := 0, cells := 0, slots := 0, locals := 0 }
noncomputable def f_X6_bits_h4 (N : Nat) (x0 : Int32) : Nat → Int32 → Int32 → ZS → Option (Int32 × ZS)
  | 0, _, _, _ => none
  | n + 1, x1, x2, σ => (if (12 : Int32) ≤ x2 then some (x1, σ) else bd (x1 + ((x0 >>> (x2 &&& 31)) &&& (1 : Int32))) fun v2 => bd (x2 + (1 : Int32)) fun v3 => f_X6_bits_h4 N x0 n v2 v3 σ)
noncomputable def f_X6_bits (N : Nat) (x0 : Int32) (σ : ZS) : Option (Int32 × ZS) := f_X6_bits_h4 N x0 N (0 : Int32) (0 : Int32) σ
set_option maxHeartbeats 4000000 in
set_option maxRecDepth 100000 in
theorem k_X6_bits_h4 {l : Launch} {Y : ZY} {G : ZG} {r : Int32} {σ' : ZS} (h : zOk (l, rm_X6_bits, 3, 0, 0) Y G cX6_bits RX6 (some .int)) (hq : zRet (l, rm_X6_bits, 3, 0, 0) Y G (some (.int r)) σ') (N : Nat) (x0 : Int32) : ∀ (n : Nat) (x1 : Int32) (x2 : Int32) (σ : ZS), f_X6_bits_h4 N x0 n x1 x2 σ = some (r, σ') → Z (l, rm_X6_bits, 3, 0, 0) Y G σ [(0, .int x0), (1, .int x1), (2, .int x2)] [] 4 := by
  intro n
  induction n with
  | zero =>
    intro x1 x2 σ hf
    rw [f_X6_bits_h4] at hf
    cases hf
  | succ n ih =>
    intro x1 x2 σ hf
    rw [f_X6_bits_h4] at hf
    refine z_iload_n h dX6_bits_4 rfl 2 rfl ?_
    refine z_bipush h (v := (12 : Int32)) dX6_bits_5 bp_12 ?_
    refine z_icmp_ge h (tgt := 24) dX6_bits_7 (by decide) (fun g1 => ?_) (fun g1 => ?_)
    · have hf := it_pos g1 hf
      refine z_iload_n h dX6_bits_24 rfl 1 rfl ?_
      exact z_iret h (rt_I hf hq) dX6_bits_25
    · have hf := it_neg g1 hf
      refine z_iload_n h dX6_bits_10 rfl 1 rfl ?_
      refine z_iload_n h dX6_bits_11 rfl 0 rfl ?_
      refine z_iload_n h dX6_bits_12 rfl 2 rfl ?_
      refine z_ishr h dX6_bits_13 ?_
      refine z_iconst h (v := (1 : Int32)) dX6_bits_14 ic_1 ?_
      refine z_iand h dX6_bits_15 ?_
      refine z_iadd h dX6_bits_16 ?_
      refine z_topI (fun v2 ev2 => ?_)
      have hf := bd_to ev2 hf
      refine z_istore_n h dX6_bits_17 rfl (lv' := [(1, .int v2), (0, .int x0), (2, .int x2)]) rfl rfl ?_
      obtain ⟨v3, ev3, hf⟩ := bd_ex hf
      refine z_iinc h (v := v3) (lv' := [(2, .int v3), (1, .int v2), (0, .int x0)]) dX6_bits_18 2 rfl (by rw [ev3]; rfl) rfl rfl ?_
      refine z_goto h (tgt := 4) dX6_bits_21 (by decide) ?_
      exact z_sub [2, 1, 0] rfl (ih _ _ _ hf)
set_option maxHeartbeats 4000000 in
set_option maxRecDepth 100000 in
theorem c_X6_bits (l : Launch) (G : ZG) {N : Nat} {x0 : Int32} {σ σ' : ZS} {r : Int32} (hf : f_X6_bits N x0 σ = some (r, σ')) : zMet l G yX6_bits cX6_bits 3 (some .int) rm_X6_bits [.int x0] σ (some (.int r)) σ' := by
  refine z_met (by decide +kernel) rfl (fun Y h hq => ?_)
  have h : zOk (l, rm_X6_bits, 3, 0, 0) Y G cX6_bits RX6 (some .int) := h
  rw [f_X6_bits] at hf
  refine z_sub (lv' := [(0, .int x0)]) [0] rfl ?_
  refine z_iconst h (v := (0 : Int32)) dX6_bits_0 ic_0 ?_
  refine z_istore_n h dX6_bits_1 rfl (lv' := [(1, .int (0 : Int32)), (0, .int x0)]) rfl rfl ?_
  refine z_iconst h (v := (0 : Int32)) dX6_bits_2 ic_0 ?_
  refine z_istore_n h dX6_bits_3 rfl (lv' := [(2, .int (0 : Int32)), (1, .int (0 : Int32)), (0, .int x0)]) rfl rfl ?_
  exact z_sub [2, 1, 0] rfl (k_X6_bits_h4 h hq N x0 _ _ _ _ hf)
theorem dX6_take_0 : decode cX6_take 0 = .ok (.aload_n 0, 1) := by decide +kernel
theorem dX6_take_1 : decode cX6_take 1 = .ok (.getfield 86, 3) := by decide +kernel
theorem dX6_take_4 : decode cX6_take 4 = .ok (.iconst 0, 1) := by decide +kernel
theorem dX6_take_5 : decode cX6_take 5 = .ok (.lload_n 1, 1) := by decide +kernel
theorem dX6_take_6 : decode cX6_take 6 = .ok (.lastore, 1) := by decide +kernel
theorem dX6_take_7 : decode cX6_take 7 = .ok (.aload_n 0, 1) := by decide +kernel
theorem dX6_take_8 : decode cX6_take 8 = .ok (.getfield 86, 3) := by decide +kernel
theorem dX6_take_11 : decode cX6_take 11 = .ok (.iconst 1, 1) := by decide +kernel
theorem dX6_take_12 : decode cX6_take 12 = .ok (.lload_n 3, 1) := by decide +kernel
theorem dX6_take_13 : decode cX6_take 13 = .ok (.lastore, 1) := by decide +kernel
theorem dX6_take_14 : decode cX6_take 14 = .ok (.aload_n 0, 1) := by decide +kernel
theorem dX6_take_15 : decode cX6_take 15 = .ok (.getfield 86, 3) := by decide +kernel
theorem dX6_take_18 : decode cX6_take 18 = .ok (.iconst 2, 1) := by decide +kernel
theorem dX6_take_19 : decode cX6_take 19 = .ok (.lload 5, 2) := by decide +kernel
theorem dX6_take_21 : decode cX6_take 21 = .ok (.lastore, 1) := by decide +kernel
theorem dX6_take_22 : decode cX6_take 22 = .ok (.aload_n 0, 1) := by decide +kernel
theorem dX6_take_23 : decode cX6_take 23 = .ok (.lload 7, 2) := by decide +kernel
theorem dX6_take_25 : decode cX6_take 25 = .ok (.putfield 240, 3) := by decide +kernel
theorem dX6_take_28 : decode cX6_take 28 = .ok (.return_, 1) := by decide +kernel
abbrev rm_X6_take : Room := { frames := 0, cells := 0, slots := 0, locals := 0 }
noncomputable def f_X6_take (N : Nat) (x1 : Int64) (x3 : Int64) (x5 : Int64) (x7 : Int64) (σ : ZS) : Option (Unit × ZS) := ck (inb (0 : Int32) 3) (bd (sJ σ 1090 ((0 : Int32).toNatClampNeg) x1) fun σ2 => ck (inb (1 : Int32) 3) (bd (sJ σ2 1090 ((1 : Int32).toNatClampNeg) x3) fun σ4 => ck (inb (2 : Int32) 3) (bd (sJ σ4 1090 ((2 : Int32).toNatClampNeg) x5) fun σ6 => bd (sJ σ6 1067 33 x7) fun σ7 => some ((), σ7))))
set_option maxHeartbeats 4000000 in
set_option maxRecDepth 100000 in
theorem c_X6_take (l : Launch) (G : ZG) {N : Nat} {x1 : Int64} {x3 : Int64} {x5 : Int64} {x7 : Int64} {σ σ' : ZS} {r : Unit} (hf : f_X6_take N x1 x3 x5 x7 σ = some (r, σ')) : zMet l G yX6_take cX6_take 9 none rm_X6_take [.ref (G.1 1067), .long x1, .long x3, .long x5, .long x7] σ none σ' := by
  refine z_met (by decide +kernel) rfl (fun Y h hq => ?_)
  have h : zOk (l, rm_X6_take, 9, 0, 0) Y G cX6_take RX6 none := h
  rw [f_X6_take] at hf
  refine z_sub (lv' := [(0, .ref (G.1 1067)), (1, .long x1), (3, .long x3), (5, .long x5), (7, .long x7)]) [0, 1, 2, 3, 4] rfl ?_
  refine z_aload_n h dX6_take_0 rfl 0 rfl ?_
  refine z_gfR h zC6 (d := 1090) (c := 1067) tg_1067 ln_1067 32 rfl ft_6_32 rf_1067_32 wd_113 dX6_take_1 ?_
  refine z_iconst h (v := (0 : Int32)) dX6_take_4 ic_0 ?_
  refine z_lload_n h dX6_take_5 rfl 1 rfl ?_
  obtain ⟨g1, hf⟩ := ck_out hf
  refine z_last h (c := 1090) tg_1090 ln_1090 g1 dX6_take_6 ?_
  refine z_gen (fun σ2 eσ2 => ?_)
  have hf := bd_to eσ2 hf
  refine z_aload_n h dX6_take_7 rfl 0 rfl ?_
  refine z_gfR h zC6 (d := 1090) (c := 1067) tg_1067 ln_1067 32 rfl ft_6_32 rf_1067_32 wd_113 dX6_take_8 ?_
  refine z_iconst h (v := (1 : Int32)) dX6_take_11 ic_1 ?_
  refine z_lload_n h dX6_take_12 rfl 2 rfl ?_
  obtain ⟨g3, hf⟩ := ck_out hf
  refine z_last h (c := 1090) tg_1090 ln_1090 g3 dX6_take_13 ?_
  refine z_gen (fun σ4 eσ4 => ?_)
  have hf := bd_to eσ4 hf
  refine z_aload_n h dX6_take_14 rfl 0 rfl ?_
  refine z_gfR h zC6 (d := 1090) (c := 1067) tg_1067 ln_1067 32 rfl ft_6_32 rf_1067_32 wd_113 dX6_take_15 ?_
  refine z_iconst h (v := (2 : Int32)) dX6_take_18 ic_2 ?_
  refine z_lload h dX6_take_19 3 rfl ?_
  obtain ⟨g5, hf⟩ := ck_out hf
  refine z_last h (c := 1090) tg_1090 ln_1090 g5 dX6_take_21 ?_
  refine z_gen (fun σ6 eσ6 => ?_)
  have hf := bd_to eσ6 hf
  refine z_aload_n h dX6_take_22 rfl 0 rfl ?_
  refine z_lload h dX6_take_23 4 rfl ?_
  refine z_pfJ h zC6 (c := 1067) tg_1067 ln_1067 33 rfl ft_6_33 wd_639 rfl (ty := .long) (by decide +kernel) rfl rfl dX6_take_25 ?_
  refine z_gen (fun σ7 eσ7 => ?_)
  have hf := bd_to eσ7 hf
  exact z_vret h (rt_V hf hq) dX6_take_28
theorem dX6_begin_0 : decode cX6_begin 0 = .ok (.aload_n 0, 1) := by decide +kernel
theorem dX6_begin_1 : decode cX6_begin 1 = .ok (.iload_n 1, 1) := by decide +kernel
theorem dX6_begin_2 : decode cX6_begin 2 = .ok (.putfield 243, 3) := by decide +kernel
theorem dX6_begin_5 : decode cX6_begin 5 = .ok (.aload_n 0, 1) := by decide +kernel
theorem dX6_begin_6 : decode cX6_begin 6 = .ok (.iconst 0, 1) := by decide +kernel
theorem dX6_begin_7 : decode cX6_begin 7 = .ok (.putfield 246, 3) := by decide +kernel
theorem dX6_begin_10 : decode cX6_begin 10 = .ok (.aload_n 0, 1) := by decide +kernel
theorem dX6_begin_11 : decode cX6_begin 11 = .ok (.iconst 0, 1) := by decide +kernel
theorem dX6_begin_12 : decode cX6_begin 12 = .ok (.putfield 249, 3) := by decide +kernel
theorem dX6_begin_15 : decode cX6_begin 15 = .ok (.aload_n 0, 1) := by decide +kernel
theorem dX6_begin_16 : decode cX6_begin 16 = .ok (.iconst 0, 1) := by decide +kernel
theorem dX6_begin_17 : decode cX6_begin 17 = .ok (.putfield 252, 3) := by decide +kernel
theorem dX6_begin_20 : decode cX6_begin 20 = .ok (.iconst 0, 1) := by decide +kernel
theorem dX6_begin_21 : decode cX6_begin 21 = .ok (.istore_n 2, 1) := by decide +kernel
theorem dX6_begin_22 : decode cX6_begin 22 = .ok (.iload_n 2, 1) := by decide +kernel
theorem dX6_begin_23 : decode cX6_begin 23 = .ok (.iconst 2, 1) := by decide +kernel
theorem dX6_begin_24 : decode cX6_begin 24 = .ok (.aload_n 0, 1) := by decide +kernel
theorem dX6_begin_25 : decode cX6_begin 25 = .ok (.getfield 141, 3) := by decide +kernel
theorem dX6_begin_28 : decode cX6_begin 28 = .ok (.imul, 1) := by decide +kernel
theorem dX6_begin_29 : decode cX6_begin 29 = .ok (.if_icmp .ge 34, 3) := by decide +kernel
theorem dX6_begin_32 : decode cX6_begin 32 = .ok (.iload_n 1, 1) := by decide +kernel
theorem dX6_begin_33 : decode cX6_begin 33 = .ok (.iload_n 2, 1) := by decide +kernel
theorem dX6_begin_34 : decode cX6_begin 34 = .ok (.ishr, 1) := by decide +kernel
theorem dX6_begin_35 : decode cX6_begin 35 = .ok (.iconst 1, 1) := by decide +kernel
theorem dX6_begin_36 : decode cX6_begin 36 = .ok (.iand, 1) := by decide +kernel
theorem dX6_begin_37 : decode cX6_begin 37 = .ok (.ifCond .ne 20, 3) := by decide +kernel
theorem dX6_begin_40 : decode cX6_begin 40 = .ok (.aload_n 0, 1) := by decide +kernel
theorem dX6_begin_41 : decode cX6_begin 41 = .ok (.getfield 89, 3) := by decide +kernel
theorem dX6_begin_44 : decode cX6_begin 44 = .ok (.aload_n 0, 1) := by decide +kernel
theorem dX6_begin_45 : decode cX6_begin 45 = .ok (.dup, 1) := by decide +kernel
theorem dX6_begin_46 : decode cX6_begin 46 = .ok (.getfield 246, 3) := by decide +kernel
theorem dX6_begin_49 : decode cX6_begin 49 = .ok (.dup_x1, 1) := by decide +kernel
theorem dX6_begin_50 : decode cX6_begin 50 = .ok (.iconst 1, 1) := by decide +kernel
theorem dX6_begin_51 : decode cX6_begin 51 = .ok (.iadd, 1) := by decide +kernel
theorem dX6_begin_52 : decode cX6_begin 52 = .ok (.putfield 246, 3) := by decide +kernel
theorem dX6_begin_55 : decode cX6_begin 55 = .ok (.iload_n 2, 1) := by decide +kernel
theorem dX6_begin_56 : decode cX6_begin 56 = .ok (.iastore, 1) := by decide +kernel
theorem dX6_begin_57 : decode cX6_begin 57 = .ok (.iinc 2 1, 3) := by decide +kernel
theorem dX6_begin_60 : decode cX6_begin 60 = .ok (.goto (-38), 3) := by decide +kernel
theorem dX6_begin_63 : decode cX6_begin 63 = .ok (.iconst 0, 1) := by decide +kernel
theorem dX6_begin_64 : decode cX6_begin 64 = .ok (.istore_n 2, 1) := by decide +kernel
theorem dX6_begin_65 : decode cX6_begin 65 = .ok (.iload_n 2, 1) := by decide +kernel
theorem dX6_begin_66 : decode cX6_begin 66 = .ok (.bipush 15, 2) := by decide +kernel
theorem dX6_begin_68 : decode cX6_begin 68 = .ok (.if_icmp .ge 188, 3) := by decide +kernel
theorem dX6_begin_71 : decode cX6_begin 71 = .ok (.aload_n 0, 1) := by decide +kernel
theorem dX6_begin_72 : decode cX6_begin 72 = .ok (.getfield 79, 3) := by decide +kernel
theorem dX6_begin_75 : decode cX6_begin 75 = .ok (.iload_n 2, 1) := by decide +kernel
theorem dX6_begin_76 : decode cX6_begin 76 = .ok (.iaload, 1) := by decide +kernel
theorem dX6_begin_77 : decode cX6_begin 77 = .ok (.ifCond .lt 173, 3) := by decide +kernel
theorem dX6_begin_80 : decode cX6_begin 80 = .ok (.bipush 15, 2) := by decide +kernel
theorem dX6_begin_82 : decode cX6_begin 82 = .ok (.aload_n 0, 1) := by decide +kernel
theorem dX6_begin_83 : decode cX6_begin 83 = .ok (.getfield 79, 3) := by decide +kernel
theorem dX6_begin_86 : decode cX6_begin 86 = .ok (.iload_n 2, 1) := by decide +kernel
theorem dX6_begin_87 : decode cX6_begin 87 = .ok (.iaload, 1) := by decide +kernel
theorem dX6_begin_88 : decode cX6_begin 88 = .ok (.imul, 1) := by decide +kernel
theorem dX6_begin_89 : decode cX6_begin 89 = .ok (.istore_n 3, 1) := by decide +kernel
theorem dX6_begin_90 : decode cX6_begin 90 = .ok (.aload_n 0, 1) := by decide +kernel
theorem dX6_begin_91 : decode cX6_begin 91 = .ok (.getfield 95, 3) := by decide +kernel
theorem dX6_begin_94 : decode cX6_begin 94 = .ok (.iload_n 2, 1) := by decide +kernel
theorem dX6_begin_95 : decode cX6_begin 95 = .ok (.ldc2_w 218, 3) := by decide +kernel
theorem dX6_begin_98 : decode cX6_begin 98 = .ok (.aload_n 0, 1) := by decide +kernel
theorem dX6_begin_99 : decode cX6_begin 99 = .ok (.getfield 86, 3) := by decide +kernel
theorem dX6_begin_102 : decode cX6_begin 102 = .ok (.iconst 0, 1) := by decide +kernel
theorem dX6_begin_103 : decode cX6_begin 103 = .ok (.laload, 1) := by decide +kernel
theorem dX6_begin_104 : decode cX6_begin 104 = .ok (.aload_n 0, 1) := by decide +kernel
theorem dX6_begin_105 : decode cX6_begin 105 = .ok (.getfield 76, 3) := by decide +kernel
theorem dX6_begin_108 : decode cX6_begin 108 = .ok (.iload_n 3, 1) := by decide +kernel
theorem dX6_begin_109 : decode cX6_begin 109 = .ok (.bipush 12, 2) := by decide +kernel
theorem dX6_begin_111 : decode cX6_begin 111 = .ok (.iadd, 1) := by decide +kernel
theorem dX6_begin_112 : decode cX6_begin 112 = .ok (.laload, 1) := by decide +kernel
theorem dX6_begin_113 : decode cX6_begin 113 = .ok (.lmul, 1) := by decide +kernel
theorem dX6_begin_114 : decode cX6_begin 114 = .ok (.aload_n 0, 1) := by decide +kernel
theorem dX6_begin_115 : decode cX6_begin 115 = .ok (.getfield 86, 3) := by decide +kernel
theorem dX6_begin_118 : decode cX6_begin 118 = .ok (.iconst 1, 1) := by decide +kernel
theorem dX6_begin_119 : decode cX6_begin 119 = .ok (.laload, 1) := by decide +kernel
theorem dX6_begin_120 : decode cX6_begin 120 = .ok (.aload_n 0, 1) := by decide +kernel
theorem dX6_begin_121 : decode cX6_begin 121 = .ok (.getfield 76, 3) := by decide +kernel
theorem dX6_begin_124 : decode cX6_begin 124 = .ok (.iload_n 3, 1) := by decide +kernel
theorem dX6_begin_125 : decode cX6_begin 125 = .ok (.bipush 13, 2) := by decide +kernel
theorem dX6_begin_127 : decode cX6_begin 127 = .ok (.iadd, 1) := by decide +kernel
theorem dX6_begin_128 : decode cX6_begin 128 = .ok (.laload, 1) := by decide +kernel
theorem dX6_begin_129 : decode cX6_begin 129 = .ok (.lmul, 1) := by decide +kernel
theorem dX6_begin_130 : decode cX6_begin 130 = .ok (.ladd, 1) := by decide +kernel
theorem dX6_begin_131 : decode cX6_begin 131 = .ok (.aload_n 0, 1) := by decide +kernel
theorem dX6_begin_132 : decode cX6_begin 132 = .ok (.getfield 86, 3) := by decide +kernel
theorem dX6_begin_135 : decode cX6_begin 135 = .ok (.iconst 2, 1) := by decide +kernel
theorem dX6_begin_136 : decode cX6_begin 136 = .ok (.laload, 1) := by decide +kernel
theorem dX6_begin_137 : decode cX6_begin 137 = .ok (.aload_n 0, 1) := by decide +kernel
theorem dX6_begin_138 : decode cX6_begin 138 = .ok (.getfield 76, 3) := by decide +kernel
theorem dX6_begin_141 : decode cX6_begin 141 = .ok (.iload_n 3, 1) := by decide +kernel
theorem dX6_begin_142 : decode cX6_begin 142 = .ok (.bipush 14, 2) := by decide +kernel
theorem dX6_begin_144 : decode cX6_begin 144 = .ok (.iadd, 1) := by decide +kernel
theorem dX6_begin_145 : decode cX6_begin 145 = .ok (.laload, 1) := by decide +kernel
theorem dX6_begin_146 : decode cX6_begin 146 = .ok (.lmul, 1) := by decide +kernel
theorem dX6_begin_147 : decode cX6_begin 147 = .ok (.ladd, 1) := by decide +kernel
theorem dX6_begin_148 : decode cX6_begin 148 = .ok (.lmul, 1) := by decide +kernel
theorem dX6_begin_149 : decode cX6_begin 149 = .ok (.lastore, 1) := by decide +kernel
theorem dX6_begin_150 : decode cX6_begin 150 = .ok (.iconst 0, 1) := by decide +kernel
theorem dX6_begin_151 : decode cX6_begin 151 = .ok (.istore 4, 2) := by decide +kernel
theorem dX6_begin_153 : decode cX6_begin 153 = .ok (.iload 4, 2) := by decide +kernel
theorem dX6_begin_155 : decode cX6_begin 155 = .ok (.aload_n 0, 1) := by decide +kernel
theorem dX6_begin_156 : decode cX6_begin 156 = .ok (.getfield 246, 3) := by decide +kernel
theorem dX6_begin_159 : decode cX6_begin 159 = .ok (.if_icmp .ge 91, 3) := by decide +kernel
theorem dX6_begin_162 : decode cX6_begin 162 = .ok (.aload_n 0, 1) := by decide +kernel
theorem dX6_begin_163 : decode cX6_begin 163 = .ok (.getfield 92, 3) := by decide +kernel
theorem dX6_begin_166 : decode cX6_begin 166 = .ok (.bipush 12, 2) := by decide +kernel
theorem dX6_begin_168 : decode cX6_begin 168 = .ok (.iload_n 2, 1) := by decide +kernel
theorem dX6_begin_169 : decode cX6_begin 169 = .ok (.imul, 1) := by decide +kernel
theorem dX6_begin_170 : decode cX6_begin 170 = .ok (.iload 4, 2) := by decide +kernel
theorem dX6_begin_172 : decode cX6_begin 172 = .ok (.iadd, 1) := by decide +kernel
theorem dX6_begin_173 : decode cX6_begin 173 = .ok (.aload_n 0, 1) := by decide +kernel
theorem dX6_begin_174 : decode cX6_begin 174 = .ok (.getfield 240, 3) := by decide +kernel
theorem dX6_begin_177 : decode cX6_begin 177 = .ok (.bipush 12, 2) := by decide +kernel
theorem dX6_begin_179 : decode cX6_begin 179 = .ok (.aload_n 0, 1) := by decide +kernel
theorem dX6_begin_180 : decode cX6_begin 180 = .ok (.aload_n 0, 1) := by decide +kernel
theorem dX6_begin_181 : decode cX6_begin 181 = .ok (.getfield 89, 3) := by decide +kernel
theorem dX6_begin_184 : decode cX6_begin 184 = .ok (.iload 4, 2) := by decide +kernel
theorem dX6_begin_186 : decode cX6_begin 186 = .ok (.iaload, 1) := by decide +kernel
theorem dX6_begin_187 : decode cX6_begin 187 = .ok (.iconst 2, 1) := by decide +kernel
theorem dX6_begin_188 : decode cX6_begin 188 = .ok (.idiv, 1) := by decide +kernel
theorem dX6_begin_189 : decode cX6_begin 189 = .ok (.invokevirtual 154, 3) := by decide +kernel
theorem dX6_begin_192 : decode cX6_begin 192 = .ok (.idiv, 1) := by decide +kernel
theorem dX6_begin_193 : decode cX6_begin 193 = .ok (.i2l, 1) := by decide +kernel
theorem dX6_begin_194 : decode cX6_begin 194 = .ok (.lmul, 1) := by decide +kernel
theorem dX6_begin_195 : decode cX6_begin 195 = .ok (.aload_n 0, 1) := by decide +kernel
theorem dX6_begin_196 : decode cX6_begin 196 = .ok (.aload_n 0, 1) := by decide +kernel
theorem dX6_begin_197 : decode cX6_begin 197 = .ok (.getfield 89, 3) := by decide +kernel
theorem dX6_begin_200 : decode cX6_begin 200 = .ok (.iload 4, 2) := by decide +kernel
theorem dX6_begin_202 : decode cX6_begin 202 = .ok (.iaload, 1) := by decide +kernel
theorem dX6_begin_203 : decode cX6_begin 203 = .ok (.invokevirtual 255, 3) := by decide +kernel
theorem dX6_begin_206 : decode cX6_begin 206 = .ok (.lmul, 1) := by decide +kernel
theorem dX6_begin_207 : decode cX6_begin 207 = .ok (.aload_n 0, 1) := by decide +kernel
theorem dX6_begin_208 : decode cX6_begin 208 = .ok (.getfield 76, 3) := by decide +kernel
theorem dX6_begin_211 : decode cX6_begin 211 = .ok (.iload_n 3, 1) := by decide +kernel
theorem dX6_begin_212 : decode cX6_begin 212 = .ok (.aload_n 0, 1) := by decide +kernel
theorem dX6_begin_213 : decode cX6_begin 213 = .ok (.getfield 89, 3) := by decide +kernel
theorem dX6_begin_216 : decode cX6_begin 216 = .ok (.iload 4, 2) := by decide +kernel
theorem dX6_begin_218 : decode cX6_begin 218 = .ok (.iaload, 1) := by decide +kernel
theorem dX6_begin_219 : decode cX6_begin 219 = .ok (.iadd, 1) := by decide +kernel
theorem dX6_begin_220 : decode cX6_begin 220 = .ok (.laload, 1) := by decide +kernel
theorem dX6_begin_221 : decode cX6_begin 221 = .ok (.lmul, 1) := by decide +kernel
theorem dX6_begin_222 : decode cX6_begin 222 = .ok (.lastore, 1) := by decide +kernel
theorem dX6_begin_223 : decode cX6_begin 223 = .ok (.aload_n 0, 1) := by decide +kernel
theorem dX6_begin_224 : decode cX6_begin 224 = .ok (.getfield 95, 3) := by decide +kernel
theorem dX6_begin_227 : decode cX6_begin 227 = .ok (.iload_n 2, 1) := by decide +kernel
theorem dX6_begin_228 : decode cX6_begin 228 = .ok (.dup2, 1) := by decide +kernel
theorem dX6_begin_229 : decode cX6_begin 229 = .ok (.laload, 1) := by decide +kernel
theorem dX6_begin_230 : decode cX6_begin 230 = .ok (.aload_n 0, 1) := by decide +kernel
theorem dX6_begin_231 : decode cX6_begin 231 = .ok (.getfield 92, 3) := by decide +kernel
theorem dX6_begin_234 : decode cX6_begin 234 = .ok (.bipush 12, 2) := by decide +kernel
theorem dX6_begin_236 : decode cX6_begin 236 = .ok (.iload_n 2, 1) := by decide +kernel
theorem dX6_begin_237 : decode cX6_begin 237 = .ok (.imul, 1) := by decide +kernel
theorem dX6_begin_238 : decode cX6_begin 238 = .ok (.iload 4, 2) := by decide +kernel
theorem dX6_begin_240 : decode cX6_begin 240 = .ok (.iadd, 1) := by decide +kernel
theorem dX6_begin_241 : decode cX6_begin 241 = .ok (.laload, 1) := by decide +kernel
theorem dX6_begin_242 : decode cX6_begin 242 = .ok (.lsub, 1) := by decide +kernel
theorem dX6_begin_243 : decode cX6_begin 243 = .ok (.lastore, 1) := by decide +kernel
theorem dX6_begin_244 : decode cX6_begin 244 = .ok (.iinc 4 1, 3) := by decide +kernel
theorem dX6_begin_247 : decode cX6_begin 247 = .ok (.goto (-94), 3) := by decide +kernel
theorem dX6_begin_250 : decode cX6_begin 250 = .ok (.iinc 2 1, 3) := by decide +kernel
theorem dX6_begin_253 : decode cX6_begin 253 = .ok (.goto (-188), 3) := by decide +kernel
theorem dX6_begin_256 : decode cX6_begin 256 = .ok (.return_, 1) := by decide +kernel
abbrev rm_X6_begin : Room := { frames := 1, cells := 0, slots := 0, locals := 29 }
noncomputable def f_X6_begin_b250 (N : Nat) (kb65 : Int32 → ZS → Option (Unit × ZS)) (x2 : Int32) (σ : ZS) : Option (Unit × ZS) := bd (x2 + (1 : Int32)) fun v9 => kb65 v9 σ
noncomputable def f_X6_begin_h153 (N : Nat) (kb65 : Int32 → ZS → Option (Unit × ZS)) (x2 : Int32) (x3 : Int32) : Nat → Int32 → ZS → Option (Unit × ZS)
  | 0, _, _ => none
  | n + 1, x4, σ => (if (gI σ 1067 36) ≤ x4 then f_X6_begin_b250 N kb65 x2 σ else ck (inb x4 12) (obd (f_X6_length N ((gI σ 1091 (x4.toNatClampNeg)) / (2 : Int32)) σ) fun v23 σ24 => ck (!(v23 == 0)) (ck (inb x4 12) (obd (f_X6_strengthOf N (gI σ24 1091 (x4.toNatClampNeg)) σ24) fun v27 σ28 => ck (inb x4 12) (ck (inb (x3 + (gI σ28 1091 (x4.toNatClampNeg))) 180) (bd ((((gJ σ 1067 33) * (((12 : Int32) / v23).toInt64)) * v27) * (gJ σ28 1088 ((x3 + (gI σ28 1091 (x4.toNatClampNeg))).toNatClampNeg))) fun v31 => ck (inb (((12 : Int32) * x2) + x4) 180) (bd (sJ σ28 1092 ((((12 : Int32) * x2) + x4).toNatClampNeg) v31) fun σ33 => ck (inb x2 15) (ck (inb (((12 : Int32) * x2) + x4) 180) (bd ((gJ σ33 1093 (x2.toNatClampNeg)) - (gJ σ33 1092 ((((12 : Int32) * x2) + x4).toNatClampNeg))) fun v36 => ck (inb x2 15) (bd (sJ σ33 1093 (x2.toNatClampNeg) v36) fun σ38 => bd (x4 + (1 : Int32)) fun v39 => f_X6_begin_h153 N kb65 x2 x3 n v39 σ38))))))))))
noncomputable def f_X6_begin_h65 (N : Nat) : Nat → Int32 → ZS → Option (Unit × ZS)
  | 0, _, _ => none
  | n + 1, x2, σ => (if (15 : Int32) ≤ x2 then some ((), σ) else ck (inb x2 15) ((if (gI σ 1089 (x2.toNatClampNeg)) < 0 then f_X6_begin_b250 N (fun x2_ σ_ => f_X6_begin_h65 N n x2_ σ_) x2 σ else ck (inb x2 15) (bd ((15 : Int32) * (gI σ 1089 (x2.toNatClampNeg))) fun v11 => ck (inb (0 : Int32) 3) (ck (inb (v11 + (12 : Int32)) 180) (ck (inb (1 : Int32) 3) (ck (inb (v11 + (13 : Int32)) 180) (ck (inb (2 : Int32) 3) (ck (inb (v11 + (14 : Int32)) 180) (bd ((12 : Int64) * ((((gJ σ 1090 ((0 : Int32).toNatClampNeg)) * (gJ σ 1088 ((v11 + (12 : Int32)).toNatClampNeg))) + ((gJ σ 1090 ((1 : Int32).toNatClampNeg)) * (gJ σ 1088 ((v11 + (13 : Int32)).toNatClampNeg)))) + ((gJ σ 1090 ((2 : Int32).toNatClampNeg)) * (gJ σ 1088 ((v11 + (14 : Int32)).toNatClampNeg))))) fun v18 => ck (inb x2 15) (bd (sJ σ 1093 (x2.toNatClampNeg) v18) fun σ20 => f_X6_begin_h153 N (fun x2_ σ_ => f_X6_begin_h65 N n x2_ σ_) x2 v11 N (0 : Int32) σ20)))))))))))
noncomputable def f_X6_begin_b57 (N : Nat) (kb22 : Int32 → ZS → Option (Unit × ZS)) (x1 : Int32) (x2 : Int32) (σ : ZS) : Option (Unit × ZS) := bd (x2 + (1 : Int32)) fun v41 => kb22 v41 σ
noncomputable def f_X6_begin_h22 (N : Nat) (x1 : Int32) : Nat → Int32 → ZS → Option (Unit × ZS)
  | 0, _, _ => none
  | n + 1, x2, σ => (if ((2 : Int32) * (gI σ 1067 4)) ≤ x2 then f_X6_begin_h65 N N (0 : Int32) σ else (if ((x1 >>> (x2 &&& 31)) &&& (1 : Int32)) = 0 then bd (gI σ 1067 36) fun v42 => bd (v42 + (1 : Int32)) fun v43 => bd (sI σ 1067 36 v43) fun σ44 => ck (inb v42 12) (bd (sI σ44 1091 (v42.toNatClampNeg) x2) fun σ46 => f_X6_begin_b57 N (fun x2_ σ_ => f_X6_begin_h22 N x1 n x2_ σ_) x1 x2 σ46) else f_X6_begin_b57 N (fun x2_ σ_ => f_X6_begin_h22 N x1 n x2_ σ_) x1 x2 σ))
noncomputable def f_X6_begin (N : Nat) (x1 : Int32) (σ : ZS) : Option (Unit × ZS) := bd (sI σ 1067 34 x1) fun σ1 => bd (sI σ1 1067 36 (0 : Int32)) fun σ2 => bd (sI σ2 1067 39 (0 : Int32)) fun σ3 => bd (sI σ3 1067 40 (0 : Int32)) fun σ4 => f_X6_begin_h22 N x1 N (0 : Int32) σ4
set_option maxHeartbeats 4000000 in
set_option maxRecDepth 100000 in
theorem k_X6_begin_b250 {l : Launch} {Y : ZY} {G : ZG} {σ' : ZS} (h : zOk (l, rm_X6_begin, 5, 0, 0) Y G cX6_begin RX6 none) (hq : zRet (l, rm_X6_begin, 5, 0, 0) Y G none σ') (N : Nat) {kb65 : Int32 → ZS → Option (Unit × ZS)} (x2 : Int32) (hb65 : ∀ (x2_ : Int32) (σ_ : ZS), kb65 x2_ σ_ = some ((), σ') → Z (l, rm_X6_begin, 5, 0, 0) Y G σ_ [(0, .ref (G.1 1067)), (2, .int x2_)] [] 65) (σ : ZS) (hf : f_X6_begin_b250 N kb65 x2 σ = some ((), σ')) : Z (l, rm_X6_begin, 5, 0, 0) Y G σ [(0, .ref (G.1 1067)), (2, .int x2)] [] 250 := by
  rw [f_X6_begin_b250] at hf
  obtain ⟨v9, ev9, hf⟩ := bd_ex hf
  refine z_iinc h (v := v9) (lv' := [(2, .int v9), (0, .ref (G.1 1067))]) dX6_begin_250 1 rfl (by rw [ev9]; rfl) rfl rfl ?_
  refine z_goto h (tgt := 65) dX6_begin_253 (by decide) ?_
  exact z_sub [1, 0] rfl (hb65 _ _ hf)
set_option maxHeartbeats 4000000 in
set_option maxRecDepth 100000 in
theorem k_X6_begin_h153 {l : Launch} {Y : ZY} {G : ZG} {σ' : ZS} (h : zOk (l, rm_X6_begin, 5, 0, 0) Y G cX6_begin RX6 none) (hq : zRet (l, rm_X6_begin, 5, 0, 0) Y G none σ') (N : Nat) {kb65 : Int32 → ZS → Option (Unit × ZS)} (x2 : Int32) (x3 : Int32) (hb65 : ∀ (x2_ : Int32) (σ_ : ZS), kb65 x2_ σ_ = some ((), σ') → Z (l, rm_X6_begin, 5, 0, 0) Y G σ_ [(0, .ref (G.1 1067)), (2, .int x2_)] [] 65) : ∀ (n : Nat) (x4 : Int32) (σ : ZS), f_X6_begin_h153 N kb65 x2 x3 n x4 σ = some ((), σ') → Z (l, rm_X6_begin, 5, 0, 0) Y G σ [(0, .ref (G.1 1067)), (2, .int x2), (3, .int x3), (4, .int x4)] [] 153 := by
  intro n
  induction n with
  | zero =>
    intro x4 σ hf
    rw [f_X6_begin_h153] at hf
    cases hf
  | succ n ih =>
    intro x4 σ hf
    rw [f_X6_begin_h153] at hf
    refine z_iload h dX6_begin_153 3 rfl ?_
    refine z_aload_n h dX6_begin_155 rfl 0 rfl ?_
    refine z_gfI h zC6 (c := 1067) tg_1067 ln_1067 36 rfl ft_6_36 wd_660 dX6_begin_156 ?_
    refine z_icmp_ge h (tgt := 250) dX6_begin_159 (by decide) (fun g21 => ?_) (fun g21 => ?_)
    · have hf := it_pos g21 hf
      exact z_sub [0, 1] rfl (k_X6_begin_b250 h hq N x2 hb65 _ hf)
    · have hf := it_neg g21 hf
      refine z_aload_n h dX6_begin_162 rfl 0 rfl ?_
      refine z_gfR h zC6 (d := 1092) (c := 1067) tg_1067 ln_1067 37 rfl ft_6_37 rf_1067_37 wd_115 dX6_begin_163 ?_
      refine z_bipush h (v := (12 : Int32)) dX6_begin_166 bp_12 ?_
      refine z_iload_n h dX6_begin_168 rfl 1 rfl ?_
      refine z_imul h dX6_begin_169 ?_
      refine z_iload h dX6_begin_170 3 rfl ?_
      refine z_iadd h dX6_begin_172 ?_
      refine z_aload_n h dX6_begin_173 rfl 0 rfl ?_
      refine z_gfJ h zC6 (c := 1067) tg_1067 ln_1067 33 rfl ft_6_33 wd_639 dX6_begin_174 ?_
      refine z_bipush h (v := (12 : Int32)) dX6_begin_177 bp_12 ?_
      refine z_aload_n h dX6_begin_179 rfl 0 rfl ?_
      refine z_aload_n h dX6_begin_180 rfl 0 rfl ?_
      refine z_gfR h zC6 (d := 1091) (c := 1067) tg_1067 ln_1067 35 rfl ft_6_35 rf_1067_35 wd_114 dX6_begin_181 ?_
      refine z_iload h dX6_begin_184 3 rfl ?_
      obtain ⟨g22, hf⟩ := ck_out hf
      refine z_iald h (c := 1091) tg_1091 ln_1091 g22 dX6_begin_186 ?_
      refine z_iconst h (v := (2 : Int32)) dX6_begin_187 ic_2 ?_
      refine z_idiv h dX6_begin_188 (by decide) ?_
      obtain ⟨v23, σ24, e24, hf⟩ := obd_out hf
      refine z_cVv h (n := 1) (c_X6_length l G e24) zC6 tg_1067 ln_1067 rfl rfl wd_265 wd_266 wd_267 wd_5 wd_268 (by decide +kernel) ⟨rfl, rfl⟩ rfl rfl rfl dX6_begin_189 ⟨Nat.zero_le _, Nat.zero_le _⟩ ?_
      obtain ⟨g25, hf⟩ := ck_out hf
      refine z_idiv h dX6_begin_192 (nz_of g25) ?_
      refine z_i2l h dX6_begin_193 ?_
      refine z_lmul h dX6_begin_194 ?_
      refine z_aload_n h dX6_begin_195 rfl 0 rfl ?_
      refine z_aload_n h dX6_begin_196 rfl 0 rfl ?_
      refine z_gfR h zC6 (d := 1091) (c := 1067) tg_1067 ln_1067 35 rfl ft_6_35 rf_1067_35 wd_114 dX6_begin_197 ?_
      refine z_iload h dX6_begin_200 3 rfl ?_
      obtain ⟨g26, hf⟩ := ck_out hf
      refine z_iald h (c := 1091) tg_1091 ln_1091 g26 dX6_begin_202 ?_
      obtain ⟨v27, σ28, e28, hf⟩ := obd_out hf
      refine z_cVv h (n := 1) (c_X6_strengthOf l G e28) zC6 tg_1067 ln_1067 rfl rfl wd_663 wd_664 wd_665 wd_5 wd_666 (by decide +kernel) ⟨rfl, rfl⟩ rfl rfl rfl dX6_begin_203 ⟨Nat.zero_le _, Nat.zero_le _⟩ ?_
      refine z_lmul h dX6_begin_206 ?_
      refine z_aload_n h dX6_begin_207 rfl 0 rfl ?_
      refine z_gfR h zC6 (d := 1088) (c := 1067) tg_1067 ln_1067 27 rfl ft_6_27 rf_1067_27 wd_110 dX6_begin_208 ?_
      refine z_iload_n h dX6_begin_211 rfl 2 rfl ?_
      refine z_aload_n h dX6_begin_212 rfl 0 rfl ?_
      refine z_gfR h zC6 (d := 1091) (c := 1067) tg_1067 ln_1067 35 rfl ft_6_35 rf_1067_35 wd_114 dX6_begin_213 ?_
      refine z_iload h dX6_begin_216 3 rfl ?_
      obtain ⟨g29, hf⟩ := ck_out hf
      refine z_iald h (c := 1091) tg_1091 ln_1091 g29 dX6_begin_218 ?_
      refine z_iadd h dX6_begin_219 ?_
      obtain ⟨g30, hf⟩ := ck_out hf
      refine z_lald h (c := 1088) tg_1088 ln_1088 g30 dX6_begin_220 ?_
      refine z_lmul h dX6_begin_221 ?_
      refine z_topJ (fun v31 ev31 => ?_)
      have hf := bd_to ev31 hf
      obtain ⟨g32, hf⟩ := ck_out hf
      refine z_last h (c := 1092) tg_1092 ln_1092 g32 dX6_begin_222 ?_
      refine z_gen (fun σ33 eσ33 => ?_)
      have hf := bd_to eσ33 hf
      refine z_aload_n h dX6_begin_223 rfl 0 rfl ?_
      refine z_gfR h zC6 (d := 1093) (c := 1067) tg_1067 ln_1067 38 rfl ft_6_38 rf_1067_38 wd_116 dX6_begin_224 ?_
      refine z_iload_n h dX6_begin_227 rfl 1 rfl ?_
      refine z_dup2_11 h dX6_begin_228 rfl rfl ?_
      obtain ⟨g34, hf⟩ := ck_out hf
      refine z_lald h (c := 1093) tg_1093 ln_1093 g34 dX6_begin_229 ?_
      refine z_aload_n h dX6_begin_230 rfl 0 rfl ?_
      refine z_gfR h zC6 (d := 1092) (c := 1067) tg_1067 ln_1067 37 rfl ft_6_37 rf_1067_37 wd_115 dX6_begin_231 ?_
      refine z_bipush h (v := (12 : Int32)) dX6_begin_234 bp_12 ?_
      refine z_iload_n h dX6_begin_236 rfl 1 rfl ?_
      refine z_imul h dX6_begin_237 ?_
      refine z_iload h dX6_begin_238 3 rfl ?_
      refine z_iadd h dX6_begin_240 ?_
      obtain ⟨g35, hf⟩ := ck_out hf
      refine z_lald h (c := 1092) tg_1092 ln_1092 g35 dX6_begin_241 ?_
      refine z_lsub h dX6_begin_242 ?_
      refine z_topJ (fun v36 ev36 => ?_)
      have hf := bd_to ev36 hf
      obtain ⟨g37, hf⟩ := ck_out hf
      refine z_last h (c := 1093) tg_1093 ln_1093 g37 dX6_begin_243 ?_
      refine z_gen (fun σ38 eσ38 => ?_)
      have hf := bd_to eσ38 hf
      obtain ⟨v39, ev39, hf⟩ := bd_ex hf
      refine z_iinc h (v := v39) (lv' := [(4, .int v39), (0, .ref (G.1 1067)), (2, .int x2), (3, .int x3)]) dX6_begin_244 3 rfl (by rw [ev39]; rfl) rfl rfl ?_
      refine z_goto h (tgt := 153) dX6_begin_247 (by decide) ?_
      exact z_sub [1, 2, 3, 0] rfl (ih _ _ hf)
set_option maxHeartbeats 4000000 in
set_option maxRecDepth 100000 in
theorem k_X6_begin_h65 {l : Launch} {Y : ZY} {G : ZG} {σ' : ZS} (h : zOk (l, rm_X6_begin, 5, 0, 0) Y G cX6_begin RX6 none) (hq : zRet (l, rm_X6_begin, 5, 0, 0) Y G none σ') (N : Nat) : ∀ (n : Nat) (x2 : Int32) (σ : ZS), f_X6_begin_h65 N n x2 σ = some ((), σ') → Z (l, rm_X6_begin, 5, 0, 0) Y G σ [(0, .ref (G.1 1067)), (2, .int x2)] [] 65 := by
  intro n
  induction n with
  | zero =>
    intro x2 σ hf
    rw [f_X6_begin_h65] at hf
    cases hf
  | succ n ih =>
    intro x2 σ hf
    rw [f_X6_begin_h65] at hf
    refine z_iload_n h dX6_begin_65 rfl 1 rfl ?_
    refine z_bipush h (v := (15 : Int32)) dX6_begin_66 bp_15 ?_
    refine z_icmp_ge h (tgt := 256) dX6_begin_68 (by decide) (fun g6 => ?_) (fun g6 => ?_)
    · have hf := it_pos g6 hf
      exact z_vret h (rt_V hf hq) dX6_begin_256
    · have hf := it_neg g6 hf
      refine z_aload_n h dX6_begin_71 rfl 0 rfl ?_
      refine z_gfR h zC6 (d := 1089) (c := 1067) tg_1067 ln_1067 28 rfl ft_6_28 rf_1067_28 wd_111 dX6_begin_72 ?_
      refine z_iload_n h dX6_begin_75 rfl 1 rfl ?_
      obtain ⟨g7, hf⟩ := ck_out hf
      refine z_iald h (c := 1089) tg_1089 ln_1089 g7 dX6_begin_76 ?_
      refine z_if_lt h (tgt := 250) dX6_begin_77 (by decide) (fun g8 => ?_) (fun g8 => ?_)
      · have hf := it_pos g8 hf
        exact z_sub [0, 1] rfl (k_X6_begin_b250 h hq N x2 (fun x2_ σ_ hf_ => ih x2_ σ_ hf_) _ hf)
      · have hf := it_neg g8 hf
        refine z_bipush h (v := (15 : Int32)) dX6_begin_80 bp_15 ?_
        refine z_aload_n h dX6_begin_82 rfl 0 rfl ?_
        refine z_gfR h zC6 (d := 1089) (c := 1067) tg_1067 ln_1067 28 rfl ft_6_28 rf_1067_28 wd_111 dX6_begin_83 ?_
        refine z_iload_n h dX6_begin_86 rfl 1 rfl ?_
        obtain ⟨g10, hf⟩ := ck_out hf
        refine z_iald h (c := 1089) tg_1089 ln_1089 g10 dX6_begin_87 ?_
        refine z_imul h dX6_begin_88 ?_
        refine z_topI (fun v11 ev11 => ?_)
        have hf := bd_to ev11 hf
        refine z_istore_n h dX6_begin_89 rfl (lv' := [(3, .int v11), (0, .ref (G.1 1067)), (2, .int x2)]) rfl rfl ?_
        refine z_aload_n h dX6_begin_90 rfl 1 rfl ?_
        refine z_gfR h zC6 (d := 1093) (c := 1067) tg_1067 ln_1067 38 rfl ft_6_38 rf_1067_38 wd_116 dX6_begin_91 ?_
        refine z_iload_n h dX6_begin_94 rfl 2 rfl ?_
        refine z_ldc2 h (v := (12 : Int64)) wd_546 dX6_begin_95 ?_
        refine z_aload_n h dX6_begin_98 rfl 1 rfl ?_
        refine z_gfR h zC6 (d := 1090) (c := 1067) tg_1067 ln_1067 32 rfl ft_6_32 rf_1067_32 wd_113 dX6_begin_99 ?_
        refine z_iconst h (v := (0 : Int32)) dX6_begin_102 ic_0 ?_
        obtain ⟨g12, hf⟩ := ck_out hf
        refine z_lald h (c := 1090) tg_1090 ln_1090 g12 dX6_begin_103 ?_
        refine z_aload_n h dX6_begin_104 rfl 1 rfl ?_
        refine z_gfR h zC6 (d := 1088) (c := 1067) tg_1067 ln_1067 27 rfl ft_6_27 rf_1067_27 wd_110 dX6_begin_105 ?_
        refine z_iload_n h dX6_begin_108 rfl 0 rfl ?_
        refine z_bipush h (v := (12 : Int32)) dX6_begin_109 bp_12 ?_
        refine z_iadd h dX6_begin_111 ?_
        obtain ⟨g13, hf⟩ := ck_out hf
        refine z_lald h (c := 1088) tg_1088 ln_1088 g13 dX6_begin_112 ?_
        refine z_lmul h dX6_begin_113 ?_
        refine z_aload_n h dX6_begin_114 rfl 1 rfl ?_
        refine z_gfR h zC6 (d := 1090) (c := 1067) tg_1067 ln_1067 32 rfl ft_6_32 rf_1067_32 wd_113 dX6_begin_115 ?_
        refine z_iconst h (v := (1 : Int32)) dX6_begin_118 ic_1 ?_
        obtain ⟨g14, hf⟩ := ck_out hf
        refine z_lald h (c := 1090) tg_1090 ln_1090 g14 dX6_begin_119 ?_
        refine z_aload_n h dX6_begin_120 rfl 1 rfl ?_
        refine z_gfR h zC6 (d := 1088) (c := 1067) tg_1067 ln_1067 27 rfl ft_6_27 rf_1067_27 wd_110 dX6_begin_121 ?_
        refine z_iload_n h dX6_begin_124 rfl 0 rfl ?_
        refine z_bipush h (v := (13 : Int32)) dX6_begin_125 bp_13 ?_
        refine z_iadd h dX6_begin_127 ?_
        obtain ⟨g15, hf⟩ := ck_out hf
        refine z_lald h (c := 1088) tg_1088 ln_1088 g15 dX6_begin_128 ?_
        refine z_lmul h dX6_begin_129 ?_
        refine z_ladd h dX6_begin_130 ?_
        refine z_aload_n h dX6_begin_131 rfl 1 rfl ?_
        refine z_gfR h zC6 (d := 1090) (c := 1067) tg_1067 ln_1067 32 rfl ft_6_32 rf_1067_32 wd_113 dX6_begin_132 ?_
        refine z_iconst h (v := (2 : Int32)) dX6_begin_135 ic_2 ?_
        obtain ⟨g16, hf⟩ := ck_out hf
        refine z_lald h (c := 1090) tg_1090 ln_1090 g16 dX6_begin_136 ?_
        refine z_aload_n h dX6_begin_137 rfl 1 rfl ?_
        refine z_gfR h zC6 (d := 1088) (c := 1067) tg_1067 ln_1067 27 rfl ft_6_27 rf_1067_27 wd_110 dX6_begin_138 ?_
        refine z_iload_n h dX6_begin_141 rfl 0 rfl ?_
        refine z_bipush h (v := (14 : Int32)) dX6_begin_142 bp_14 ?_
        refine z_iadd h dX6_begin_144 ?_
        obtain ⟨g17, hf⟩ := ck_out hf
        refine z_lald h (c := 1088) tg_1088 ln_1088 g17 dX6_begin_145 ?_
        refine z_lmul h dX6_begin_146 ?_
        refine z_ladd h dX6_begin_147 ?_
        refine z_lmul h dX6_begin_148 ?_
        refine z_topJ (fun v18 ev18 => ?_)
        have hf := bd_to ev18 hf
        obtain ⟨g19, hf⟩ := ck_out hf
        refine z_last h (c := 1093) tg_1093 ln_1093 g19 dX6_begin_149 ?_
        refine z_gen (fun σ20 eσ20 => ?_)
        have hf := bd_to eσ20 hf
        refine z_iconst h (v := (0 : Int32)) dX6_begin_150 ic_0 ?_
        refine z_istore h dX6_begin_151 (lv' := [(4, .int (0 : Int32)), (3, .int v11), (0, .ref (G.1 1067)), (2, .int x2)]) rfl rfl ?_
        exact z_sub [2, 3, 1, 0] rfl (k_X6_begin_h153 h hq N x2 v11 (fun x2_ σ_ hf_ => ih x2_ σ_ hf_) _ _ _ hf)
set_option maxHeartbeats 4000000 in
set_option maxRecDepth 100000 in
theorem k_X6_begin_b57 {l : Launch} {Y : ZY} {G : ZG} {σ' : ZS} (h : zOk (l, rm_X6_begin, 5, 0, 0) Y G cX6_begin RX6 none) (hq : zRet (l, rm_X6_begin, 5, 0, 0) Y G none σ') (N : Nat) {kb22 : Int32 → ZS → Option (Unit × ZS)} (x1 : Int32) (x2 : Int32) (hb22 : ∀ (x2_ : Int32) (σ_ : ZS), kb22 x2_ σ_ = some ((), σ') → Z (l, rm_X6_begin, 5, 0, 0) Y G σ_ [(0, .ref (G.1 1067)), (1, .int x1), (2, .int x2_)] [] 22) (σ : ZS) (hf : f_X6_begin_b57 N kb22 x1 x2 σ = some ((), σ')) : Z (l, rm_X6_begin, 5, 0, 0) Y G σ [(0, .ref (G.1 1067)), (1, .int x1), (2, .int x2)] [] 57 := by
  rw [f_X6_begin_b57] at hf
  obtain ⟨v41, ev41, hf⟩ := bd_ex hf
  refine z_iinc h (v := v41) (lv' := [(2, .int v41), (0, .ref (G.1 1067)), (1, .int x1)]) dX6_begin_57 2 rfl (by rw [ev41]; rfl) rfl rfl ?_
  refine z_goto h (tgt := 22) dX6_begin_60 (by decide) ?_
  exact z_sub [1, 2, 0] rfl (hb22 _ _ hf)
set_option maxHeartbeats 4000000 in
set_option maxRecDepth 100000 in
theorem k_X6_begin_h22 {l : Launch} {Y : ZY} {G : ZG} {σ' : ZS} (h : zOk (l, rm_X6_begin, 5, 0, 0) Y G cX6_begin RX6 none) (hq : zRet (l, rm_X6_begin, 5, 0, 0) Y G none σ') (N : Nat) (x1 : Int32) : ∀ (n : Nat) (x2 : Int32) (σ : ZS), f_X6_begin_h22 N x1 n x2 σ = some ((), σ') → Z (l, rm_X6_begin, 5, 0, 0) Y G σ [(0, .ref (G.1 1067)), (1, .int x1), (2, .int x2)] [] 22 := by
  intro n
  induction n with
  | zero =>
    intro x2 σ hf
    rw [f_X6_begin_h22] at hf
    cases hf
  | succ n ih =>
    intro x2 σ hf
    rw [f_X6_begin_h22] at hf
    refine z_iload_n h dX6_begin_22 rfl 2 rfl ?_
    refine z_iconst h (v := (2 : Int32)) dX6_begin_23 ic_2 ?_
    refine z_aload_n h dX6_begin_24 rfl 0 rfl ?_
    refine z_gfI h zC6 (c := 1067) tg_1067 ln_1067 4 rfl ft_6_4 wd_200 dX6_begin_25 ?_
    refine z_imul h dX6_begin_28 ?_
    refine z_icmp_ge h (tgt := 63) dX6_begin_29 (by decide) (fun g5 => ?_) (fun g5 => ?_)
    · have hf := it_pos g5 hf
      refine z_iconst h (v := (0 : Int32)) dX6_begin_63 ic_0 ?_
      refine z_istore_n h dX6_begin_64 rfl (lv' := [(2, .int (0 : Int32)), (0, .ref (G.1 1067)), (1, .int x1)]) rfl rfl ?_
      exact z_sub [1, 0] rfl (k_X6_begin_h65 h hq N _ _ _ hf)
    · have hf := it_neg g5 hf
      refine z_iload_n h dX6_begin_32 rfl 1 rfl ?_
      refine z_iload_n h dX6_begin_33 rfl 2 rfl ?_
      refine z_ishr h dX6_begin_34 ?_
      refine z_iconst h (v := (1 : Int32)) dX6_begin_35 ic_1 ?_
      refine z_iand h dX6_begin_36 ?_
      refine z_if_ne h (tgt := 57) dX6_begin_37 (by decide) (fun g40 => ?_) (fun g40 => ?_)
      · have hf := it_neg g40 hf
        exact z_sub [0, 1, 2] rfl (k_X6_begin_b57 h hq N x1 x2 (fun x2_ σ_ hf_ => ih x2_ σ_ hf_) _ hf)
      · have hf := it_pos g40 hf
        refine z_aload_n h dX6_begin_40 rfl 0 rfl ?_
        refine z_gfR h zC6 (d := 1091) (c := 1067) tg_1067 ln_1067 35 rfl ft_6_35 rf_1067_35 wd_114 dX6_begin_41 ?_
        refine z_aload_n h dX6_begin_44 rfl 0 rfl ?_
        refine z_dup h dX6_begin_45 rfl ?_
        refine z_gfI h zC6 (c := 1067) tg_1067 ln_1067 36 rfl ft_6_36 wd_660 dX6_begin_46 ?_
        refine z_topI (fun v42 ev42 => ?_)
        have hf := bd_to ev42 hf
        refine z_dup_x1 h dX6_begin_49 rfl rfl ?_
        refine z_iconst h (v := (1 : Int32)) dX6_begin_50 ic_1 ?_
        refine z_iadd h dX6_begin_51 ?_
        refine z_topI (fun v43 ev43 => ?_)
        have hf := bd_to ev43 hf
        refine z_pfI h zC6 (c := 1067) tg_1067 ln_1067 36 rfl ft_6_36 wd_660 rfl (ty := .int) (by decide +kernel) rfl rfl dX6_begin_52 ?_
        refine z_gen (fun σ44 eσ44 => ?_)
        have hf := bd_to eσ44 hf
        refine z_iload_n h dX6_begin_55 rfl 2 rfl ?_
        obtain ⟨g45, hf⟩ := ck_out hf
        refine z_iast h (c := 1091) tg_1091 ln_1091 g45 dX6_begin_56 ?_
        refine z_gen (fun σ46 eσ46 => ?_)
        have hf := bd_to eσ46 hf
        exact z_sub [0, 1, 2] rfl (k_X6_begin_b57 h hq N x1 x2 (fun x2_ σ_ hf_ => ih x2_ σ_ hf_) _ hf)
set_option maxHeartbeats 4000000 in
set_option maxRecDepth 100000 in
theorem c_X6_begin (l : Launch) (G : ZG) {N : Nat} {x1 : Int32} {σ σ' : ZS} {r : Unit} (hf : f_X6_begin N x1 σ = some (r, σ')) : zMet l G yX6_begin cX6_begin 5 none rm_X6_begin [.ref (G.1 1067), .int x1] σ none σ' := by
  refine z_met (by decide +kernel) rfl (fun Y h hq => ?_)
  have h : zOk (l, rm_X6_begin, 5, 0, 0) Y G cX6_begin RX6 none := h
  rw [f_X6_begin] at hf
  refine z_sub (lv' := [(0, .ref (G.1 1067)), (1, .int x1)]) [0, 1] rfl ?_
  refine z_aload_n h dX6_begin_0 rfl 0 rfl ?_
  refine z_iload_n h dX6_begin_1 rfl 1 rfl ?_
  refine z_pfI h zC6 (c := 1067) tg_1067 ln_1067 34 rfl ft_6_34 wd_659 rfl (ty := .int) (by decide +kernel) rfl rfl dX6_begin_2 ?_
  refine z_gen (fun σ1 eσ1 => ?_)
  have hf := bd_to eσ1 hf
  refine z_aload_n h dX6_begin_5 rfl 0 rfl ?_
  refine z_iconst h (v := (0 : Int32)) dX6_begin_6 ic_0 ?_
  refine z_pfI h zC6 (c := 1067) tg_1067 ln_1067 36 rfl ft_6_36 wd_660 rfl (ty := .int) (by decide +kernel) rfl rfl dX6_begin_7 ?_
  refine z_gen (fun σ2 eσ2 => ?_)
  have hf := bd_to eσ2 hf
  refine z_aload_n h dX6_begin_10 rfl 0 rfl ?_
  refine z_iconst h (v := (0 : Int32)) dX6_begin_11 ic_0 ?_
  refine z_pfI h zC6 (c := 1067) tg_1067 ln_1067 39 rfl ft_6_39 wd_661 rfl (ty := .int) (by decide +kernel) rfl rfl dX6_begin_12 ?_
  refine z_gen (fun σ3 eσ3 => ?_)
  have hf := bd_to eσ3 hf
  refine z_aload_n h dX6_begin_15 rfl 0 rfl ?_
  refine z_iconst h (v := (0 : Int32)) dX6_begin_16 ic_0 ?_
  refine z_pfI h zC6 (c := 1067) tg_1067 ln_1067 40 rfl ft_6_40 wd_662 rfl (ty := .int) (by decide +kernel) rfl rfl dX6_begin_17 ?_
  refine z_gen (fun σ4 eσ4 => ?_)
  have hf := bd_to eσ4 hf
  refine z_iconst h (v := (0 : Int32)) dX6_begin_20 ic_0 ?_
  refine z_istore_n h dX6_begin_21 rfl (lv' := [(2, .int (0 : Int32)), (0, .ref (G.1 1067)), (1, .int x1)]) rfl rfl ?_
  exact z_sub [1, 2, 0] rfl (k_X6_begin_h22 h hq N x1 _ _ _ hf)
theorem dX6_isNext_0 : decode cX6_isNext 0 = .ok (.aload_n 0, 1) := by decide +kernel
theorem dX6_isNext_1 : decode cX6_isNext 1 = .ok (.dup, 1) := by decide +kernel
theorem dX6_isNext_2 : decode cX6_isNext 2 = .ok (.getfield 252, 3) := by decide +kernel
theorem dX6_isNext_5 : decode cX6_isNext 5 = .ok (.iconst 1, 1) := by decide +kernel
theorem dX6_isNext_6 : decode cX6_isNext 6 = .ok (.iadd, 1) := by decide +kernel
theorem dX6_isNext_7 : decode cX6_isNext 7 = .ok (.putfield 252, 3) := by decide +kernel
theorem dX6_isNext_10 : decode cX6_isNext 10 = .ok (.aload_n 0, 1) := by decide +kernel
theorem dX6_isNext_11 : decode cX6_isNext 11 = .ok (.getfield 252, 3) := by decide +kernel
theorem dX6_isNext_14 : decode cX6_isNext 14 = .ok (.iconst 1, 1) := by decide +kernel
theorem dX6_isNext_15 : decode cX6_isNext 15 = .ok (.aload_n 0, 1) := by decide +kernel
theorem dX6_isNext_16 : decode cX6_isNext 16 = .ok (.getfield 246, 3) := by decide +kernel
theorem dX6_isNext_19 : decode cX6_isNext 19 = .ok (.ishl, 1) := by decide +kernel
theorem dX6_isNext_20 : decode cX6_isNext 20 = .ok (.if_icmp .ne 5, 3) := by decide +kernel
theorem dX6_isNext_23 : decode cX6_isNext 23 = .ok (.iconst 0, 1) := by decide +kernel
theorem dX6_isNext_24 : decode cX6_isNext 24 = .ok (.ireturn, 1) := by decide +kernel
theorem dX6_isNext_25 : decode cX6_isNext 25 = .ok (.iconst 0, 1) := by decide +kernel
theorem dX6_isNext_26 : decode cX6_isNext 26 = .ok (.istore_n 1, 1) := by decide +kernel
theorem dX6_isNext_27 : decode cX6_isNext 27 = .ok (.aload_n 0, 1) := by decide +kernel
theorem dX6_isNext_28 : decode cX6_isNext 28 = .ok (.getfield 252, 3) := by decide +kernel
theorem dX6_isNext_31 : decode cX6_isNext 31 = .ok (.iload_n 1, 1) := by decide +kernel
theorem dX6_isNext_32 : decode cX6_isNext 32 = .ok (.ishr, 1) := by decide +kernel
theorem dX6_isNext_33 : decode cX6_isNext 33 = .ok (.iconst 1, 1) := by decide +kernel
theorem dX6_isNext_34 : decode cX6_isNext 34 = .ok (.iand, 1) := by decide +kernel
theorem dX6_isNext_35 : decode cX6_isNext 35 = .ok (.ifCond .ne 9, 3) := by decide +kernel
theorem dX6_isNext_38 : decode cX6_isNext 38 = .ok (.iinc 1 1, 3) := by decide +kernel
theorem dX6_isNext_41 : decode cX6_isNext 41 = .ok (.goto (-14), 3) := by decide +kernel
theorem dX6_isNext_44 : decode cX6_isNext 44 = .ok (.aload_n 0, 1) := by decide +kernel
theorem dX6_isNext_45 : decode cX6_isNext 45 = .ok (.dup, 1) := by decide +kernel
theorem dX6_isNext_46 : decode cX6_isNext 46 = .ok (.getfield 249, 3) := by decide +kernel
theorem dX6_isNext_49 : decode cX6_isNext 49 = .ok (.iconst 1, 1) := by decide +kernel
theorem dX6_isNext_50 : decode cX6_isNext 50 = .ok (.iload_n 1, 1) := by decide +kernel
theorem dX6_isNext_51 : decode cX6_isNext 51 = .ok (.ishl, 1) := by decide +kernel
theorem dX6_isNext_52 : decode cX6_isNext 52 = .ok (.ixor, 1) := by decide +kernel
theorem dX6_isNext_53 : decode cX6_isNext 53 = .ok (.putfield 249, 3) := by decide +kernel
theorem dX6_isNext_56 : decode cX6_isNext 56 = .ok (.iconst 0, 1) := by decide +kernel
theorem dX6_isNext_57 : decode cX6_isNext 57 = .ok (.istore_n 2, 1) := by decide +kernel
theorem dX6_isNext_58 : decode cX6_isNext 58 = .ok (.iload_n 2, 1) := by decide +kernel
theorem dX6_isNext_59 : decode cX6_isNext 59 = .ok (.bipush 15, 2) := by decide +kernel
theorem dX6_isNext_61 : decode cX6_isNext 61 = .ok (.if_icmp .ge 72, 3) := by decide +kernel
theorem dX6_isNext_64 : decode cX6_isNext 64 = .ok (.aload_n 0, 1) := by decide +kernel
theorem dX6_isNext_65 : decode cX6_isNext 65 = .ok (.getfield 79, 3) := by decide +kernel
theorem dX6_isNext_68 : decode cX6_isNext 68 = .ok (.iload_n 2, 1) := by decide +kernel
theorem dX6_isNext_69 : decode cX6_isNext 69 = .ok (.iaload, 1) := by decide +kernel
theorem dX6_isNext_70 : decode cX6_isNext 70 = .ok (.ifCond .lt 57, 3) := by decide +kernel
theorem dX6_isNext_73 : decode cX6_isNext 73 = .ok (.aload_n 0, 1) := by decide +kernel
theorem dX6_isNext_74 : decode cX6_isNext 74 = .ok (.getfield 95, 3) := by decide +kernel
theorem dX6_isNext_77 : decode cX6_isNext 77 = .ok (.iload_n 2, 1) := by decide +kernel
theorem dX6_isNext_78 : decode cX6_isNext 78 = .ok (.dup2, 1) := by decide +kernel
theorem dX6_isNext_79 : decode cX6_isNext 79 = .ok (.laload, 1) := by decide +kernel
theorem dX6_isNext_80 : decode cX6_isNext 80 = .ok (.aload_n 0, 1) := by decide +kernel
theorem dX6_isNext_81 : decode cX6_isNext 81 = .ok (.getfield 249, 3) := by decide +kernel
theorem dX6_isNext_84 : decode cX6_isNext 84 = .ok (.iload_n 1, 1) := by decide +kernel
theorem dX6_isNext_85 : decode cX6_isNext 85 = .ok (.ishr, 1) := by decide +kernel
theorem dX6_isNext_86 : decode cX6_isNext 86 = .ok (.iconst 1, 1) := by decide +kernel
theorem dX6_isNext_87 : decode cX6_isNext 87 = .ok (.iand, 1) := by decide +kernel
theorem dX6_isNext_88 : decode cX6_isNext 88 = .ok (.iconst 1, 1) := by decide +kernel
theorem dX6_isNext_89 : decode cX6_isNext 89 = .ok (.if_icmp .ne 21, 3) := by decide +kernel
theorem dX6_isNext_92 : decode cX6_isNext 92 = .ok (.ldc2_w 259, 3) := by decide +kernel
theorem dX6_isNext_95 : decode cX6_isNext 95 = .ok (.aload_n 0, 1) := by decide +kernel
theorem dX6_isNext_96 : decode cX6_isNext 96 = .ok (.getfield 92, 3) := by decide +kernel
theorem dX6_isNext_99 : decode cX6_isNext 99 = .ok (.bipush 12, 2) := by decide +kernel
theorem dX6_isNext_101 : decode cX6_isNext 101 = .ok (.iload_n 2, 1) := by decide +kernel
theorem dX6_isNext_102 : decode cX6_isNext 102 = .ok (.imul, 1) := by decide +kernel
theorem dX6_isNext_103 : decode cX6_isNext 103 = .ok (.iload_n 1, 1) := by decide +kernel
theorem dX6_isNext_104 : decode cX6_isNext 104 = .ok (.iadd, 1) := by decide +kernel
theorem dX6_isNext_105 : decode cX6_isNext 105 = .ok (.laload, 1) := by decide +kernel
theorem dX6_isNext_106 : decode cX6_isNext 106 = .ok (.lmul, 1) := by decide +kernel
theorem dX6_isNext_107 : decode cX6_isNext 107 = .ok (.goto 18, 3) := by decide +kernel
theorem dX6_isNext_110 : decode cX6_isNext 110 = .ok (.ldc2_w 261, 3) := by decide +kernel
theorem dX6_isNext_113 : decode cX6_isNext 113 = .ok (.aload_n 0, 1) := by decide +kernel
theorem dX6_isNext_114 : decode cX6_isNext 114 = .ok (.getfield 92, 3) := by decide +kernel
theorem dX6_isNext_117 : decode cX6_isNext 117 = .ok (.bipush 12, 2) := by decide +kernel
theorem dX6_isNext_119 : decode cX6_isNext 119 = .ok (.iload_n 2, 1) := by decide +kernel
theorem dX6_isNext_120 : decode cX6_isNext 120 = .ok (.imul, 1) := by decide +kernel
theorem dX6_isNext_121 : decode cX6_isNext 121 = .ok (.iload_n 1, 1) := by decide +kernel
theorem dX6_isNext_122 : decode cX6_isNext 122 = .ok (.iadd, 1) := by decide +kernel
theorem dX6_isNext_123 : decode cX6_isNext 123 = .ok (.laload, 1) := by decide +kernel
theorem dX6_isNext_124 : decode cX6_isNext 124 = .ok (.lmul, 1) := by decide +kernel
theorem dX6_isNext_125 : decode cX6_isNext 125 = .ok (.ladd, 1) := by decide +kernel
theorem dX6_isNext_126 : decode cX6_isNext 126 = .ok (.lastore, 1) := by decide +kernel
theorem dX6_isNext_127 : decode cX6_isNext 127 = .ok (.iinc 2 1, 3) := by decide +kernel
theorem dX6_isNext_130 : decode cX6_isNext 130 = .ok (.goto (-72), 3) := by decide +kernel
theorem dX6_isNext_133 : decode cX6_isNext 133 = .ok (.iconst 1, 1) := by decide +kernel
theorem dX6_isNext_134 : decode cX6_isNext 134 = .ok (.ireturn, 1) := by decide +kernel
abbrev rm_X6_isNext : Room := { frames := 0, cells := 0, slots := 0, locals := 0 }
noncomputable def f_X6_isNext_b127 (N : Nat) (kb58 : Int32 → ZS → Option (Int32 × ZS)) (x1 : Int32) (x2 : Int32) (σ : ZS) : Option (Int32 × ZS) := bd (x2 + (1 : Int32)) fun v10 => kb58 v10 σ
noncomputable def f_X6_isNext_b125 (N : Nat) (kb58 : Int32 → ZS → Option (Int32 × ZS)) (x1 : Int32) (x2 : Int32) (s1 : Int32) (s2 : Int64) (s3 : Int64) (σ : ZS) : Option (Int32 × ZS) := bd (s2 + s3) fun v14 => ck (inb s1 15) (bd (sJ σ 1093 (s1.toNatClampNeg) v14) fun σ16 => f_X6_isNext_b127 N kb58 x1 x2 σ16)
noncomputable def f_X6_isNext_h58 (N : Nat) (x1 : Int32) : Nat → Int32 → ZS → Option (Int32 × ZS)
  | 0, _, _ => none
  | n + 1, x2, σ => (if (15 : Int32) ≤ x2 then some ((1 : Int32), σ) else ck (inb x2 15) ((if (gI σ 1089 (x2.toNatClampNeg)) < 0 then f_X6_isNext_b127 N (fun x2_ σ_ => f_X6_isNext_h58 N x1 n x2_ σ_) x1 x2 σ else ck (inb x2 15) ((if (((gI σ 1067 39) >>> (x1 &&& 31)) &&& (1 : Int32)) = (1 : Int32) then ck (inb (((12 : Int32) * x2) + x1) 180) (f_X6_isNext_b125 N (fun x2_ σ_ => f_X6_isNext_h58 N x1 n x2_ σ_) x1 x2 x2 (gJ σ 1093 (x2.toNatClampNeg)) ((2 : Int64) * (gJ σ 1092 ((((12 : Int32) * x2) + x1).toNatClampNeg))) σ) else ck (inb (((12 : Int32) * x2) + x1) 180) (f_X6_isNext_b125 N (fun x2_ σ_ => f_X6_isNext_h58 N x1 n x2_ σ_) x1 x2 x2 (gJ σ 1093 (x2.toNatClampNeg)) ((-2 : Int64) * (gJ σ 1092 ((((12 : Int32) * x2) + x1).toNatClampNeg))) σ))))))
noncomputable def f_X6_isNext_h27 (N : Nat) : Nat → Int32 → ZS → Option (Int32 × ZS)
  | 0, _, _ => none
  | n + 1, x1, σ => (if (((gI σ 1067 40) >>> (x1 &&& 31)) &&& (1 : Int32)) = 0 then bd (x1 + (1 : Int32)) fun v18 => f_X6_isNext_h27 N n v18 σ else bd ((gI σ 1067 39) ^^^ ((1 : Int32) <<< (x1 &&& 31))) fun v5 => bd (sI σ 1067 39 v5) fun σ6 => f_X6_isNext_h58 N x1 N (0 : Int32) σ6)
noncomputable def f_X6_isNext (N : Nat) (σ : ZS) : Option (Int32 × ZS) := bd ((gI σ 1067 40) + (1 : Int32)) fun v1 => bd (sI σ 1067 40 v1) fun σ2 => (if (gI σ2 1067 40) = ((1 : Int32) <<< ((gI σ2 1067 36) &&& 31)) then some ((0 : Int32), σ2) else f_X6_isNext_h27 N N (0 : Int32) σ2)
set_option maxHeartbeats 4000000 in
set_option maxRecDepth 100000 in
theorem k_X6_isNext_b127 {l : Launch} {Y : ZY} {G : ZG} {r : Int32} {σ' : ZS} (h : zOk (l, rm_X6_isNext, 3, 0, 0) Y G cX6_isNext RX6 (some .boolean)) (hq : zRet (l, rm_X6_isNext, 3, 0, 0) Y G (some (.int r)) σ') (N : Nat) {kb58 : Int32 → ZS → Option (Int32 × ZS)} (x1 : Int32) (x2 : Int32) (hb58 : ∀ (x2_ : Int32) (σ_ : ZS), kb58 x2_ σ_ = some (r, σ') → Z (l, rm_X6_isNext, 3, 0, 0) Y G σ_ [(0, .ref (G.1 1067)), (1, .int x1), (2, .int x2_)] [] 58) (σ : ZS) (hf : f_X6_isNext_b127 N kb58 x1 x2 σ = some (r, σ')) : Z (l, rm_X6_isNext, 3, 0, 0) Y G σ [(0, .ref (G.1 1067)), (1, .int x1), (2, .int x2)] [] 127 := by
  rw [f_X6_isNext_b127] at hf
  obtain ⟨v10, ev10, hf⟩ := bd_ex hf
  refine z_iinc h (v := v10) (lv' := [(2, .int v10), (0, .ref (G.1 1067)), (1, .int x1)]) dX6_isNext_127 2 rfl (by rw [ev10]; rfl) rfl rfl ?_
  refine z_goto h (tgt := 58) dX6_isNext_130 (by decide) ?_
  exact z_sub [1, 2, 0] rfl (hb58 _ _ hf)
set_option maxHeartbeats 4000000 in
set_option maxRecDepth 100000 in
theorem k_X6_isNext_b125 {l : Launch} {Y : ZY} {G : ZG} {r : Int32} {σ' : ZS} (h : zOk (l, rm_X6_isNext, 3, 0, 0) Y G cX6_isNext RX6 (some .boolean)) (hq : zRet (l, rm_X6_isNext, 3, 0, 0) Y G (some (.int r)) σ') (N : Nat) {kb58 : Int32 → ZS → Option (Int32 × ZS)} (x1 : Int32) (x2 : Int32) (s1 : Int32) (s2 : Int64) (s3 : Int64) (hb58 : ∀ (x2_ : Int32) (σ_ : ZS), kb58 x2_ σ_ = some (r, σ') → Z (l, rm_X6_isNext, 3, 0, 0) Y G σ_ [(0, .ref (G.1 1067)), (1, .int x1), (2, .int x2_)] [] 58) (σ : ZS) (hf : f_X6_isNext_b125 N kb58 x1 x2 s1 s2 s3 σ = some (r, σ')) : Z (l, rm_X6_isNext, 3, 0, 0) Y G σ [(0, .ref (G.1 1067)), (1, .int x1), (2, .int x2)] [.long s3, .long s2, .int s1, .ref (G.1 1093)] 125 := by
  rw [f_X6_isNext_b125] at hf
  refine z_ladd h dX6_isNext_125 ?_
  refine z_topJ (fun v14 ev14 => ?_)
  have hf := bd_to ev14 hf
  obtain ⟨g15, hf⟩ := ck_out hf
  refine z_last h (c := 1093) tg_1093 ln_1093 g15 dX6_isNext_126 ?_
  refine z_gen (fun σ16 eσ16 => ?_)
  have hf := bd_to eσ16 hf
  exact z_sub [0, 1, 2] rfl (k_X6_isNext_b127 h hq N x1 x2 hb58 _ hf)
set_option maxHeartbeats 4000000 in
set_option maxRecDepth 100000 in
theorem k_X6_isNext_h58 {l : Launch} {Y : ZY} {G : ZG} {r : Int32} {σ' : ZS} (h : zOk (l, rm_X6_isNext, 3, 0, 0) Y G cX6_isNext RX6 (some .boolean)) (hq : zRet (l, rm_X6_isNext, 3, 0, 0) Y G (some (.int r)) σ') (N : Nat) (x1 : Int32) : ∀ (n : Nat) (x2 : Int32) (σ : ZS), f_X6_isNext_h58 N x1 n x2 σ = some (r, σ') → Z (l, rm_X6_isNext, 3, 0, 0) Y G σ [(0, .ref (G.1 1067)), (1, .int x1), (2, .int x2)] [] 58 := by
  intro n
  induction n with
  | zero =>
    intro x2 σ hf
    rw [f_X6_isNext_h58] at hf
    cases hf
  | succ n ih =>
    intro x2 σ hf
    rw [f_X6_isNext_h58] at hf
    refine z_iload_n h dX6_isNext_58 rfl 2 rfl ?_
    refine z_bipush h (v := (15 : Int32)) dX6_isNext_59 bp_15 ?_
    refine z_icmp_ge h (tgt := 133) dX6_isNext_61 (by decide) (fun g7 => ?_) (fun g7 => ?_)
    · have hf := it_pos g7 hf
      refine z_iconst h (v := (1 : Int32)) dX6_isNext_133 ic_1 ?_
      exact z_zret h rfl (rt_I hf hq) dX6_isNext_134
    · have hf := it_neg g7 hf
      refine z_aload_n h dX6_isNext_64 rfl 0 rfl ?_
      refine z_gfR h zC6 (d := 1089) (c := 1067) tg_1067 ln_1067 28 rfl ft_6_28 rf_1067_28 wd_111 dX6_isNext_65 ?_
      refine z_iload_n h dX6_isNext_68 rfl 2 rfl ?_
      obtain ⟨g8, hf⟩ := ck_out hf
      refine z_iald h (c := 1089) tg_1089 ln_1089 g8 dX6_isNext_69 ?_
      refine z_if_lt h (tgt := 127) dX6_isNext_70 (by decide) (fun g9 => ?_) (fun g9 => ?_)
      · have hf := it_pos g9 hf
        exact z_sub [0, 1, 2] rfl (k_X6_isNext_b127 h hq N x1 x2 (fun x2_ σ_ hf_ => ih x2_ σ_ hf_) _ hf)
      · have hf := it_neg g9 hf
        refine z_aload_n h dX6_isNext_73 rfl 0 rfl ?_
        refine z_gfR h zC6 (d := 1093) (c := 1067) tg_1067 ln_1067 38 rfl ft_6_38 rf_1067_38 wd_116 dX6_isNext_74 ?_
        refine z_iload_n h dX6_isNext_77 rfl 2 rfl ?_
        refine z_dup2_11 h dX6_isNext_78 rfl rfl ?_
        obtain ⟨g11, hf⟩ := ck_out hf
        refine z_lald h (c := 1093) tg_1093 ln_1093 g11 dX6_isNext_79 ?_
        refine z_aload_n h dX6_isNext_80 rfl 0 rfl ?_
        refine z_gfI h zC6 (c := 1067) tg_1067 ln_1067 39 rfl ft_6_39 wd_661 dX6_isNext_81 ?_
        refine z_iload_n h dX6_isNext_84 rfl 1 rfl ?_
        refine z_ishr h dX6_isNext_85 ?_
        refine z_iconst h (v := (1 : Int32)) dX6_isNext_86 ic_1 ?_
        refine z_iand h dX6_isNext_87 ?_
        refine z_iconst h (v := (1 : Int32)) dX6_isNext_88 ic_1 ?_
        refine z_icmp_ne h (tgt := 110) dX6_isNext_89 (by decide) (fun g12 => ?_) (fun g12 => ?_)
        · have hf := it_neg g12 hf
          refine z_ldc2 h (v := (-2 : Int64)) wd_677 dX6_isNext_110 ?_
          refine z_aload_n h dX6_isNext_113 rfl 0 rfl ?_
          refine z_gfR h zC6 (d := 1092) (c := 1067) tg_1067 ln_1067 37 rfl ft_6_37 rf_1067_37 wd_115 dX6_isNext_114 ?_
          refine z_bipush h (v := (12 : Int32)) dX6_isNext_117 bp_12 ?_
          refine z_iload_n h dX6_isNext_119 rfl 2 rfl ?_
          refine z_imul h dX6_isNext_120 ?_
          refine z_iload_n h dX6_isNext_121 rfl 1 rfl ?_
          refine z_iadd h dX6_isNext_122 ?_
          obtain ⟨g13, hf⟩ := ck_out hf
          refine z_lald h (c := 1092) tg_1092 ln_1092 g13 dX6_isNext_123 ?_
          refine z_lmul h dX6_isNext_124 ?_
          exact z_sub [0, 1, 2] rfl (k_X6_isNext_b125 h hq N x1 x2 x2 (gJ σ 1093 (x2.toNatClampNeg)) ((-2 : Int64) * (gJ σ 1092 ((((12 : Int32) * x2) + x1).toNatClampNeg))) (fun x2_ σ_ hf_ => ih x2_ σ_ hf_) _ hf)
        · have hf := it_pos g12 hf
          refine z_ldc2 h (v := (2 : Int64)) wd_676 dX6_isNext_92 ?_
          refine z_aload_n h dX6_isNext_95 rfl 0 rfl ?_
          refine z_gfR h zC6 (d := 1092) (c := 1067) tg_1067 ln_1067 37 rfl ft_6_37 rf_1067_37 wd_115 dX6_isNext_96 ?_
          refine z_bipush h (v := (12 : Int32)) dX6_isNext_99 bp_12 ?_
          refine z_iload_n h dX6_isNext_101 rfl 2 rfl ?_
          refine z_imul h dX6_isNext_102 ?_
          refine z_iload_n h dX6_isNext_103 rfl 1 rfl ?_
          refine z_iadd h dX6_isNext_104 ?_
          obtain ⟨g17, hf⟩ := ck_out hf
          refine z_lald h (c := 1092) tg_1092 ln_1092 g17 dX6_isNext_105 ?_
          refine z_lmul h dX6_isNext_106 ?_
          refine z_goto h (tgt := 125) dX6_isNext_107 (by decide) ?_
          exact z_sub [0, 1, 2] rfl (k_X6_isNext_b125 h hq N x1 x2 x2 (gJ σ 1093 (x2.toNatClampNeg)) ((2 : Int64) * (gJ σ 1092 ((((12 : Int32) * x2) + x1).toNatClampNeg))) (fun x2_ σ_ hf_ => ih x2_ σ_ hf_) _ hf)
set_option maxHeartbeats 4000000 in
set_option maxRecDepth 100000 in
theorem k_X6_isNext_h27 {l : Launch} {Y : ZY} {G : ZG} {r : Int32} {σ' : ZS} (h : zOk (l, rm_X6_isNext, 3, 0, 0) Y G cX6_isNext RX6 (some .boolean)) (hq : zRet (l, rm_X6_isNext, 3, 0, 0) Y G (some (.int r)) σ') (N : Nat) : ∀ (n : Nat) (x1 : Int32) (σ : ZS), f_X6_isNext_h27 N n x1 σ = some (r, σ') → Z (l, rm_X6_isNext, 3, 0, 0) Y G σ [(0, .ref (G.1 1067)), (1, .int x1)] [] 27 := by
  intro n
  induction n with
  | zero =>
    intro x1 σ hf
    rw [f_X6_isNext_h27] at hf
    cases hf
  | succ n ih =>
    intro x1 σ hf
    rw [f_X6_isNext_h27] at hf
    refine z_aload_n h dX6_isNext_27 rfl 0 rfl ?_
    refine z_gfI h zC6 (c := 1067) tg_1067 ln_1067 40 rfl ft_6_40 wd_662 dX6_isNext_28 ?_
    refine z_iload_n h dX6_isNext_31 rfl 1 rfl ?_
    refine z_ishr h dX6_isNext_32 ?_
    refine z_iconst h (v := (1 : Int32)) dX6_isNext_33 ic_1 ?_
    refine z_iand h dX6_isNext_34 ?_
    refine z_if_ne h (tgt := 44) dX6_isNext_35 (by decide) (fun g4 => ?_) (fun g4 => ?_)
    · have hf := it_neg g4 hf
      refine z_aload_n h dX6_isNext_44 rfl 0 rfl ?_
      refine z_dup h dX6_isNext_45 rfl ?_
      refine z_gfI h zC6 (c := 1067) tg_1067 ln_1067 39 rfl ft_6_39 wd_661 dX6_isNext_46 ?_
      refine z_iconst h (v := (1 : Int32)) dX6_isNext_49 ic_1 ?_
      refine z_iload_n h dX6_isNext_50 rfl 1 rfl ?_
      refine z_ishl h dX6_isNext_51 ?_
      refine z_ixor h dX6_isNext_52 ?_
      refine z_topI (fun v5 ev5 => ?_)
      have hf := bd_to ev5 hf
      refine z_pfI h zC6 (c := 1067) tg_1067 ln_1067 39 rfl ft_6_39 wd_661 rfl (ty := .int) (by decide +kernel) rfl rfl dX6_isNext_53 ?_
      refine z_gen (fun σ6 eσ6 => ?_)
      have hf := bd_to eσ6 hf
      refine z_iconst h (v := (0 : Int32)) dX6_isNext_56 ic_0 ?_
      refine z_istore_n h dX6_isNext_57 rfl (lv' := [(2, .int (0 : Int32)), (0, .ref (G.1 1067)), (1, .int x1)]) rfl rfl ?_
      exact z_sub [1, 2, 0] rfl (k_X6_isNext_h58 h hq N x1 _ _ _ hf)
    · have hf := it_pos g4 hf
      obtain ⟨v18, ev18, hf⟩ := bd_ex hf
      refine z_iinc h (v := v18) (lv' := [(1, .int v18), (0, .ref (G.1 1067))]) dX6_isNext_38 1 rfl (by rw [ev18]; rfl) rfl rfl ?_
      refine z_goto h (tgt := 27) dX6_isNext_41 (by decide) ?_
      exact z_sub [1, 0] rfl (ih _ _ hf)
set_option maxHeartbeats 4000000 in
set_option maxRecDepth 100000 in
theorem c_X6_isNext (l : Launch) (G : ZG) {N : Nat} {σ σ' : ZS} {r : Int32} (hf : f_X6_isNext N σ = some (r, σ')) : zMet l G yX6_isNext cX6_isNext 3 (some .boolean) rm_X6_isNext [.ref (G.1 1067)] σ (some (.int r)) σ' := by
  refine z_met (by decide +kernel) rfl (fun Y h hq => ?_)
  have h : zOk (l, rm_X6_isNext, 3, 0, 0) Y G cX6_isNext RX6 (some .boolean) := h
  rw [f_X6_isNext] at hf
  refine z_sub (lv' := [(0, .ref (G.1 1067))]) [0] rfl ?_
  refine z_aload_n h dX6_isNext_0 rfl 0 rfl ?_
  refine z_dup h dX6_isNext_1 rfl ?_
  refine z_gfI h zC6 (c := 1067) tg_1067 ln_1067 40 rfl ft_6_40 wd_662 dX6_isNext_2 ?_
  refine z_iconst h (v := (1 : Int32)) dX6_isNext_5 ic_1 ?_
  refine z_iadd h dX6_isNext_6 ?_
  refine z_topI (fun v1 ev1 => ?_)
  have hf := bd_to ev1 hf
  refine z_pfI h zC6 (c := 1067) tg_1067 ln_1067 40 rfl ft_6_40 wd_662 rfl (ty := .int) (by decide +kernel) rfl rfl dX6_isNext_7 ?_
  refine z_gen (fun σ2 eσ2 => ?_)
  have hf := bd_to eσ2 hf
  refine z_aload_n h dX6_isNext_10 rfl 0 rfl ?_
  refine z_gfI h zC6 (c := 1067) tg_1067 ln_1067 40 rfl ft_6_40 wd_662 dX6_isNext_11 ?_
  refine z_iconst h (v := (1 : Int32)) dX6_isNext_14 ic_1 ?_
  refine z_aload_n h dX6_isNext_15 rfl 0 rfl ?_
  refine z_gfI h zC6 (c := 1067) tg_1067 ln_1067 36 rfl ft_6_36 wd_660 dX6_isNext_16 ?_
  refine z_ishl h dX6_isNext_19 ?_
  refine z_icmp_ne h (tgt := 25) dX6_isNext_20 (by decide) (fun g3 => ?_) (fun g3 => ?_)
  · have hf := it_neg g3 hf
    refine z_iconst h (v := (0 : Int32)) dX6_isNext_25 ic_0 ?_
    refine z_istore_n h dX6_isNext_26 rfl (lv' := [(1, .int (0 : Int32)), (0, .ref (G.1 1067))]) rfl rfl ?_
    exact z_sub [1, 0] rfl (k_X6_isNext_h27 h hq N _ _ _ hf)
  · have hf := it_pos g3 hf
    refine z_iconst h (v := (0 : Int32)) dX6_isNext_23 ic_0 ?_
    exact z_zret h rfl (rt_I hf hq) dX6_isNext_24
