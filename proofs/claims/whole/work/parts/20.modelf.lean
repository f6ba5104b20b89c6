theorem dX6_restore_0 : decode cX6_restore 0 = .ok (.iload_n 1, 1) := by decide +kernel
theorem dX6_restore_1 : decode cX6_restore 1 = .ok (.iconst 0, 1) := by decide +kernel
theorem dX6_restore_2 : decode cX6_restore 2 = .ok (.iconst 1, 1) := by decide +kernel
theorem dX6_restore_3 : decode cX6_restore 3 = .ok (.invokestatic 137, 3) := by decide +kernel
theorem dX6_restore_6 : decode cX6_restore 6 = .ok (.ifCond .ne 6, 3) := by decide +kernel
theorem dX6_restore_9 : decode cX6_restore 9 = .ok (.bipush (-2), 2) := by decide +kernel
theorem dX6_restore_11 : decode cX6_restore 11 = .ok (.ireturn, 1) := by decide +kernel
theorem dX6_restore_12 : decode cX6_restore 12 = .ok (.aload_n 0, 1) := by decide +kernel
theorem dX6_restore_13 : decode cX6_restore 13 = .ok (.getfield 131, 3) := by decide +kernel
theorem dX6_restore_16 : decode cX6_restore 16 = .ok (.iload_n 1, 1) := by decide +kernel
theorem dX6_restore_17 : decode cX6_restore 17 = .ok (.baload, 1) := by decide +kernel
theorem dX6_restore_18 : decode cX6_restore 18 = .ok (.ifCond .ne 6, 3) := by decide +kernel
theorem dX6_restore_21 : decode cX6_restore 21 = .ok (.bipush (-5), 2) := by decide +kernel
theorem dX6_restore_23 : decode cX6_restore 23 = .ok (.ireturn, 1) := by decide +kernel
theorem dX6_restore_24 : decode cX6_restore 24 = .ok (.bipush 83, 2) := by decide +kernel
theorem dX6_restore_26 : decode cX6_restore 26 = .ok (.iload_n 1, 1) := by decide +kernel
theorem dX6_restore_27 : decode cX6_restore 27 = .ok (.imul, 1) := by decide +kernel
theorem dX6_restore_28 : decode cX6_restore 28 = .ok (.istore_n 2, 1) := by decide +kernel
theorem dX6_restore_29 : decode cX6_restore 29 = .ok (.iconst 0, 1) := by decide +kernel
theorem dX6_restore_30 : decode cX6_restore 30 = .ok (.istore_n 3, 1) := by decide +kernel
theorem dX6_restore_31 : decode cX6_restore 31 = .ok (.iload_n 3, 1) := by decide +kernel
theorem dX6_restore_32 : decode cX6_restore 32 = .ok (.bipush 7, 2) := by decide +kernel
theorem dX6_restore_34 : decode cX6_restore 34 = .ok (.if_icmp .ge 61, 3) := by decide +kernel
theorem dX6_restore_37 : decode cX6_restore 37 = .ok (.aload_n 0, 1) := by decide +kernel
theorem dX6_restore_38 : decode cX6_restore 38 = .ok (.getfield 7, 3) := by decide +kernel
theorem dX6_restore_41 : decode cX6_restore 41 = .ok (.iload_n 3, 1) := by decide +kernel
theorem dX6_restore_42 : decode cX6_restore 42 = .ok (.aload_n 0, 1) := by decide +kernel
theorem dX6_restore_43 : decode cX6_restore 43 = .ok (.getfield 128, 3) := by decide +kernel
theorem dX6_restore_46 : decode cX6_restore 46 = .ok (.iload_n 2, 1) := by decide +kernel
theorem dX6_restore_47 : decode cX6_restore 47 = .ok (.iconst 3, 1) := by decide +kernel
theorem dX6_restore_48 : decode cX6_restore 48 = .ok (.iload_n 3, 1) := by decide +kernel
theorem dX6_restore_49 : decode cX6_restore 49 = .ok (.imul, 1) := by decide +kernel
theorem dX6_restore_50 : decode cX6_restore 50 = .ok (.iadd, 1) := by decide +kernel
theorem dX6_restore_51 : decode cX6_restore 51 = .ok (.iaload, 1) := by decide +kernel
theorem dX6_restore_52 : decode cX6_restore 52 = .ok (.iastore, 1) := by decide +kernel
theorem dX6_restore_53 : decode cX6_restore 53 = .ok (.aload_n 0, 1) := by decide +kernel
theorem dX6_restore_54 : decode cX6_restore 54 = .ok (.getfield 13, 3) := by decide +kernel
theorem dX6_restore_57 : decode cX6_restore 57 = .ok (.iload_n 3, 1) := by decide +kernel
theorem dX6_restore_58 : decode cX6_restore 58 = .ok (.aload_n 0, 1) := by decide +kernel
theorem dX6_restore_59 : decode cX6_restore 59 = .ok (.getfield 128, 3) := by decide +kernel
theorem dX6_restore_62 : decode cX6_restore 62 = .ok (.iload_n 2, 1) := by decide +kernel
theorem dX6_restore_63 : decode cX6_restore 63 = .ok (.iconst 3, 1) := by decide +kernel
theorem dX6_restore_64 : decode cX6_restore 64 = .ok (.iload_n 3, 1) := by decide +kernel
theorem dX6_restore_65 : decode cX6_restore 65 = .ok (.imul, 1) := by decide +kernel
theorem dX6_restore_66 : decode cX6_restore 66 = .ok (.iadd, 1) := by decide +kernel
theorem dX6_restore_67 : decode cX6_restore 67 = .ok (.iconst 1, 1) := by decide +kernel
theorem dX6_restore_68 : decode cX6_restore 68 = .ok (.iadd, 1) := by decide +kernel
theorem dX6_restore_69 : decode cX6_restore 69 = .ok (.iaload, 1) := by decide +kernel
theorem dX6_restore_70 : decode cX6_restore 70 = .ok (.iastore, 1) := by decide +kernel
theorem dX6_restore_71 : decode cX6_restore 71 = .ok (.aload_n 0, 1) := by decide +kernel
theorem dX6_restore_72 : decode cX6_restore 72 = .ok (.getfield 16, 3) := by decide +kernel
theorem dX6_restore_75 : decode cX6_restore 75 = .ok (.iload_n 3, 1) := by decide +kernel
theorem dX6_restore_76 : decode cX6_restore 76 = .ok (.aload_n 0, 1) := by decide +kernel
theorem dX6_restore_77 : decode cX6_restore 77 = .ok (.getfield 128, 3) := by decide +kernel
theorem dX6_restore_80 : decode cX6_restore 80 = .ok (.iload_n 2, 1) := by decide +kernel
theorem dX6_restore_81 : decode cX6_restore 81 = .ok (.iconst 3, 1) := by decide +kernel
theorem dX6_restore_82 : decode cX6_restore 82 = .ok (.iload_n 3, 1) := by decide +kernel
theorem dX6_restore_83 : decode cX6_restore 83 = .ok (.imul, 1) := by decide +kernel
theorem dX6_restore_84 : decode cX6_restore 84 = .ok (.iadd, 1) := by decide +kernel
theorem dX6_restore_85 : decode cX6_restore 85 = .ok (.iconst 2, 1) := by decide +kernel
theorem dX6_restore_86 : decode cX6_restore 86 = .ok (.iadd, 1) := by decide +kernel
theorem dX6_restore_87 : decode cX6_restore 87 = .ok (.iaload, 1) := by decide +kernel
theorem dX6_restore_88 : decode cX6_restore 88 = .ok (.iastore, 1) := by decide +kernel
theorem dX6_restore_89 : decode cX6_restore 89 = .ok (.iinc 3 1, 3) := by decide +kernel
theorem dX6_restore_92 : decode cX6_restore 92 = .ok (.goto (-61), 3) := by decide +kernel
theorem dX6_restore_95 : decode cX6_restore 95 = .ok (.iconst 0, 1) := by decide +kernel
theorem dX6_restore_96 : decode cX6_restore 96 = .ok (.istore_n 3, 1) := by decide +kernel
theorem dX6_restore_97 : decode cX6_restore 97 = .ok (.iload_n 3, 1) := by decide +kernel
theorem dX6_restore_98 : decode cX6_restore 98 = .ok (.bipush 6, 2) := by decide +kernel
theorem dX6_restore_100 : decode cX6_restore 100 = .ok (.if_icmp .ge 66, 3) := by decide +kernel
theorem dX6_restore_103 : decode cX6_restore 103 = .ok (.aload_n 0, 1) := by decide +kernel
theorem dX6_restore_104 : decode cX6_restore 104 = .ok (.getfield 19, 3) := by decide +kernel
theorem dX6_restore_107 : decode cX6_restore 107 = .ok (.iload_n 3, 1) := by decide +kernel
theorem dX6_restore_108 : decode cX6_restore 108 = .ok (.aload_n 0, 1) := by decide +kernel
theorem dX6_restore_109 : decode cX6_restore 109 = .ok (.getfield 128, 3) := by decide +kernel
theorem dX6_restore_112 : decode cX6_restore 112 = .ok (.iload_n 2, 1) := by decide +kernel
theorem dX6_restore_113 : decode cX6_restore 113 = .ok (.bipush 21, 2) := by decide +kernel
theorem dX6_restore_115 : decode cX6_restore 115 = .ok (.iadd, 1) := by decide +kernel
theorem dX6_restore_116 : decode cX6_restore 116 = .ok (.iconst 3, 1) := by decide +kernel
theorem dX6_restore_117 : decode cX6_restore 117 = .ok (.iload_n 3, 1) := by decide +kernel
theorem dX6_restore_118 : decode cX6_restore 118 = .ok (.imul, 1) := by decide +kernel
theorem dX6_restore_119 : decode cX6_restore 119 = .ok (.iadd, 1) := by decide +kernel
theorem dX6_restore_120 : decode cX6_restore 120 = .ok (.iaload, 1) := by decide +kernel
theorem dX6_restore_121 : decode cX6_restore 121 = .ok (.iastore, 1) := by decide +kernel
theorem dX6_restore_122 : decode cX6_restore 122 = .ok (.aload_n 0, 1) := by decide +kernel
theorem dX6_restore_123 : decode cX6_restore 123 = .ok (.getfield 22, 3) := by decide +kernel
theorem dX6_restore_126 : decode cX6_restore 126 = .ok (.iload_n 3, 1) := by decide +kernel
theorem dX6_restore_127 : decode cX6_restore 127 = .ok (.aload_n 0, 1) := by decide +kernel
theorem dX6_restore_128 : decode cX6_restore 128 = .ok (.getfield 128, 3) := by decide +kernel
theorem dX6_restore_131 : decode cX6_restore 131 = .ok (.iload_n 2, 1) := by decide +kernel
theorem dX6_restore_132 : decode cX6_restore 132 = .ok (.bipush 22, 2) := by decide +kernel
theorem dX6_restore_134 : decode cX6_restore 134 = .ok (.iadd, 1) := by decide +kernel
theorem dX6_restore_135 : decode cX6_restore 135 = .ok (.iconst 3, 1) := by decide +kernel
theorem dX6_restore_136 : decode cX6_restore 136 = .ok (.iload_n 3, 1) := by decide +kernel
theorem dX6_restore_137 : decode cX6_restore 137 = .ok (.imul, 1) := by decide +kernel
theorem dX6_restore_138 : decode cX6_restore 138 = .ok (.iadd, 1) := by decide +kernel
theorem dX6_restore_139 : decode cX6_restore 139 = .ok (.iaload, 1) := by decide +kernel
theorem dX6_restore_140 : decode cX6_restore 140 = .ok (.iastore, 1) := by decide +kernel
theorem dX6_restore_141 : decode cX6_restore 141 = .ok (.aload_n 0, 1) := by decide +kernel
theorem dX6_restore_142 : decode cX6_restore 142 = .ok (.getfield 25, 3) := by decide +kernel
theorem dX6_restore_145 : decode cX6_restore 145 = .ok (.iload_n 3, 1) := by decide +kernel
theorem dX6_restore_146 : decode cX6_restore 146 = .ok (.aload_n 0, 1) := by decide +kernel
theorem dX6_restore_147 : decode cX6_restore 147 = .ok (.getfield 128, 3) := by decide +kernel
theorem dX6_restore_150 : decode cX6_restore 150 = .ok (.iload_n 2, 1) := by decide +kernel
theorem dX6_restore_151 : decode cX6_restore 151 = .ok (.bipush 23, 2) := by decide +kernel
theorem dX6_restore_153 : decode cX6_restore 153 = .ok (.iadd, 1) := by decide +kernel
theorem dX6_restore_154 : decode cX6_restore 154 = .ok (.iconst 3, 1) := by decide +kernel
theorem dX6_restore_155 : decode cX6_restore 155 = .ok (.iload_n 3, 1) := by decide +kernel
theorem dX6_restore_156 : decode cX6_restore 156 = .ok (.imul, 1) := by decide +kernel
theorem dX6_restore_157 : decode cX6_restore 157 = .ok (.iadd, 1) := by decide +kernel
theorem dX6_restore_158 : decode cX6_restore 158 = .ok (.iaload, 1) := by decide +kernel
theorem dX6_restore_159 : decode cX6_restore 159 = .ok (.iastore, 1) := by decide +kernel
theorem dX6_restore_160 : decode cX6_restore 160 = .ok (.iinc 3 1, 3) := by decide +kernel
theorem dX6_restore_163 : decode cX6_restore 163 = .ok (.goto (-66), 3) := by decide +kernel
theorem dX6_restore_166 : decode cX6_restore 166 = .ok (.iconst 0, 1) := by decide +kernel
theorem dX6_restore_167 : decode cX6_restore 167 = .ok (.istore_n 3, 1) := by decide +kernel
theorem dX6_restore_168 : decode cX6_restore 168 = .ok (.iload_n 3, 1) := by decide +kernel
theorem dX6_restore_169 : decode cX6_restore 169 = .ok (.bipush 42, 2) := by decide +kernel
theorem dX6_restore_171 : decode cX6_restore 171 = .ok (.if_icmp .ge 26, 3) := by decide +kernel
theorem dX6_restore_174 : decode cX6_restore 174 = .ok (.aload_n 0, 1) := by decide +kernel
theorem dX6_restore_175 : decode cX6_restore 175 = .ok (.getfield 28, 3) := by decide +kernel
theorem dX6_restore_178 : decode cX6_restore 178 = .ok (.iload_n 3, 1) := by decide +kernel
theorem dX6_restore_179 : decode cX6_restore 179 = .ok (.aload_n 0, 1) := by decide +kernel
theorem dX6_restore_180 : decode cX6_restore 180 = .ok (.getfield 128, 3) := by decide +kernel
theorem dX6_restore_183 : decode cX6_restore 183 = .ok (.iload_n 2, 1) := by decide +kernel
theorem dX6_restore_184 : decode cX6_restore 184 = .ok (.bipush 39, 2) := by decide +kernel
theorem dX6_restore_186 : decode cX6_restore 186 = .ok (.iadd, 1) := by decide +kernel
theorem dX6_restore_187 : decode cX6_restore 187 = .ok (.iload_n 3, 1) := by decide +kernel
theorem dX6_restore_188 : decode cX6_restore 188 = .ok (.iadd, 1) := by decide +kernel
theorem dX6_restore_189 : decode cX6_restore 189 = .ok (.iaload, 1) := by decide +kernel
theorem dX6_restore_190 : decode cX6_restore 190 = .ok (.iastore, 1) := by decide +kernel
theorem dX6_restore_191 : decode cX6_restore 191 = .ok (.iinc 3 1, 3) := by decide +kernel
theorem dX6_restore_194 : decode cX6_restore 194 = .ok (.goto (-26), 3) := by decide +kernel
theorem dX6_restore_197 : decode cX6_restore 197 = .ok (.aload_n 0, 1) := by decide +kernel
theorem dX6_restore_198 : decode cX6_restore 198 = .ok (.aload_n 0, 1) := by decide +kernel
theorem dX6_restore_199 : decode cX6_restore 199 = .ok (.getfield 128, 3) := by decide +kernel
theorem dX6_restore_202 : decode cX6_restore 202 = .ok (.iload_n 2, 1) := by decide +kernel
theorem dX6_restore_203 : decode cX6_restore 203 = .ok (.bipush 81, 2) := by decide +kernel
theorem dX6_restore_205 : decode cX6_restore 205 = .ok (.iadd, 1) := by decide +kernel
theorem dX6_restore_206 : decode cX6_restore 206 = .ok (.iaload, 1) := by decide +kernel
theorem dX6_restore_207 : decode cX6_restore 207 = .ok (.putfield 134, 3) := by decide +kernel
theorem dX6_restore_210 : decode cX6_restore 210 = .ok (.aload_n 0, 1) := by decide +kernel
theorem dX6_restore_211 : decode cX6_restore 211 = .ok (.aload_n 0, 1) := by decide +kernel
theorem dX6_restore_212 : decode cX6_restore 212 = .ok (.getfield 128, 3) := by decide +kernel
theorem dX6_restore_215 : decode cX6_restore 215 = .ok (.iload_n 2, 1) := by decide +kernel
theorem dX6_restore_216 : decode cX6_restore 216 = .ok (.bipush 82, 2) := by decide +kernel
theorem dX6_restore_218 : decode cX6_restore 218 = .ok (.iadd, 1) := by decide +kernel
theorem dX6_restore_219 : decode cX6_restore 219 = .ok (.iaload, 1) := by decide +kernel
theorem dX6_restore_220 : decode cX6_restore 220 = .ok (.putfield 141, 3) := by decide +kernel
theorem dX6_restore_223 : decode cX6_restore 223 = .ok (.aload_n 0, 1) := by decide +kernel
theorem dX6_restore_224 : decode cX6_restore 224 = .ok (.iconst 1, 1) := by decide +kernel
theorem dX6_restore_225 : decode cX6_restore 225 = .ok (.putfield 31, 3) := by decide +kernel
theorem dX6_restore_228 : decode cX6_restore 228 = .ok (.aload_n 0, 1) := by decide +kernel
theorem dX6_restore_229 : decode cX6_restore 229 = .ok (.invokevirtual 144, 3) := by decide +kernel
theorem dX6_restore_232 : decode cX6_restore 232 = .ok (.iconst 1, 1) := by decide +kernel
theorem dX6_restore_233 : decode cX6_restore 233 = .ok (.ireturn, 1) := by decide +kernel
abbrev rm_X6_restore : Room := { frames := 1, cells := 0, slots := 0, locals := 30 }
noncomputable def f_X6_restore_h168 (N : Nat) (x2 : Int32) : Nat → Int32 → ZS → Option (Int32 × ZS)
  | 0, _, _ => none
  | n + 1, x3, σ => (if (42 : Int32) ≤ x3 then ck (inb (x2 + (81 : Int32)) 166) (bd (gI σ 1104 ((x2 + (81 : Int32)).toNatClampNeg)) fun v11 => bd (sI σ 1067 0 v11) fun σ12 => ck (inb (x2 + (82 : Int32)) 166) (bd (gI σ12 1104 ((x2 + (82 : Int32)).toNatClampNeg)) fun v14 => bd (sI σ12 1067 4 v14) fun σ15 => bd (sI σ15 1067 9 (1 : Int32)) fun σ16 => obd (f_X6_forget N σ16) fun _ σ18 => some ((1 : Int32), σ18))) else ck (inb ((x2 + (39 : Int32)) + x3) 166) (bd (gI σ 1104 (((x2 + (39 : Int32)) + x3).toNatClampNeg)) fun v20 => ck (inb x3 42) (bd (sI σ 1074 (x3.toNatClampNeg) v20) fun σ22 => bd (x3 + (1 : Int32)) fun v23 => f_X6_restore_h168 N x2 n v23 σ22)))
noncomputable def f_X6_restore_h97 (N : Nat) (x2 : Int32) : Nat → Int32 → ZS → Option (Int32 × ZS)
  | 0, _, _ => none
  | n + 1, x3, σ => (if (6 : Int32) ≤ x3 then f_X6_restore_h168 N x2 N (0 : Int32) σ else ck (inb ((x2 + (21 : Int32)) + ((3 : Int32) * x3)) 166) (bd (gI σ 1104 (((x2 + (21 : Int32)) + ((3 : Int32) * x3)).toNatClampNeg)) fun v25 => ck (inb x3 6) (bd (sI σ 1071 (x3.toNatClampNeg) v25) fun σ27 => ck (inb ((x2 + (22 : Int32)) + ((3 : Int32) * x3)) 166) (bd (gI σ27 1104 (((x2 + (22 : Int32)) + ((3 : Int32) * x3)).toNatClampNeg)) fun v29 => ck (inb x3 6) (bd (sI σ27 1072 (x3.toNatClampNeg) v29) fun σ31 => ck (inb ((x2 + (23 : Int32)) + ((3 : Int32) * x3)) 166) (bd (gI σ31 1104 (((x2 + (23 : Int32)) + ((3 : Int32) * x3)).toNatClampNeg)) fun v33 => ck (inb x3 6) (bd (sI σ31 1073 (x3.toNatClampNeg) v33) fun σ35 => bd (x3 + (1 : Int32)) fun v36 => f_X6_restore_h97 N x2 n v36 σ35)))))))
noncomputable def f_X6_restore_h31 (N : Nat) (x2 : Int32) : Nat → Int32 → ZS → Option (Int32 × ZS)
  | 0, _, _ => none
  | n + 1, x3, σ => (if (7 : Int32) ≤ x3 then f_X6_restore_h97 N x2 N (0 : Int32) σ else ck (inb (x2 + ((3 : Int32) * x3)) 166) (bd (gI σ 1104 ((x2 + ((3 : Int32) * x3)).toNatClampNeg)) fun v38 => ck (inb x3 7) (bd (sI σ 1068 (x3.toNatClampNeg) v38) fun σ40 => ck (inb ((x2 + ((3 : Int32) * x3)) + (1 : Int32)) 166) (bd (gI σ40 1104 (((x2 + ((3 : Int32) * x3)) + (1 : Int32)).toNatClampNeg)) fun v42 => ck (inb x3 7) (bd (sI σ40 1069 (x3.toNatClampNeg) v42) fun σ44 => ck (inb ((x2 + ((3 : Int32) * x3)) + (2 : Int32)) 166) (bd (gI σ44 1104 (((x2 + ((3 : Int32) * x3)) + (2 : Int32)).toNatClampNeg)) fun v46 => ck (inb x3 7) (bd (sI σ44 1070 (x3.toNatClampNeg) v46) fun σ48 => bd (x3 + (1 : Int32)) fun v49 => f_X6_restore_h31 N x2 n v49 σ48)))))))
noncomputable def f_X6_restore (N : Nat) (x1 : Int32) (σ : ZS) : Option (Int32 × ZS) := obd (f_X6_in N x1 (0 : Int32) (1 : Int32) σ) fun v1 σ2 => (if v1 = 0 then some ((-2 : Int32), σ2) else ck (inb x1 2) ((if (gI σ2 1105 (x1.toNatClampNeg)) = 0 then some ((-5 : Int32), σ2) else bd ((83 : Int32) * x1) fun v6 => f_X6_restore_h31 N v6 N (0 : Int32) σ2)))
set_option maxHeartbeats 4000000 in
set_option maxRecDepth 100000 in
theorem k_X6_restore_h168 {l : Launch} {Y : ZY} {G : ZG} {r : Int32} {σ' : ZS} (h : zOk (l, rm_X6_restore, 4, 0, 0) Y G cX6_restore RX6 (some .int)) (hq : zRet (l, rm_X6_restore, 4, 0, 0) Y G (some (.int r)) σ') (N : Nat) (x2 : Int32) : ∀ (n : Nat) (x3 : Int32) (σ : ZS), f_X6_restore_h168 N x2 n x3 σ = some (r, σ') → Z (l, rm_X6_restore, 4, 0, 0) Y G σ [(0, .ref (G.1 1067)), (2, .int x2), (3, .int x3)] [] 168 := by
  intro n
  induction n with
  | zero =>
    intro x3 σ hf
    rw [f_X6_restore_h168] at hf
    cases hf
  | succ n ih =>
    intro x3 σ hf
    rw [f_X6_restore_h168] at hf
    refine z_iload_n h dX6_restore_168 rfl 2 rfl ?_
    refine z_bipush h (v := (42 : Int32)) dX6_restore_169 bp_42 ?_
    refine z_icmp_ge h (tgt := 197) dX6_restore_171 (by decide) (fun g9 => ?_) (fun g9 => ?_)
    · have hf := it_pos g9 hf
      refine z_aload_n h dX6_restore_197 rfl 0 rfl ?_
      refine z_aload_n h dX6_restore_198 rfl 0 rfl ?_
      refine z_gfR h zC6 (d := 1104) (c := 1067) tg_1067 ln_1067 51 rfl ft_6_51 rf_1067_51 wd_127 dX6_restore_199 ?_
      refine z_iload_n h dX6_restore_202 rfl 1 rfl ?_
      refine z_bipush h (v := (81 : Int32)) dX6_restore_203 bp_81 ?_
      refine z_iadd h dX6_restore_205 ?_
      obtain ⟨g10, hf⟩ := ck_out hf
      refine z_iald h (c := 1104) tg_1104 ln_1104 g10 dX6_restore_206 ?_
      refine z_topI (fun v11 ev11 => ?_)
      have hf := bd_to ev11 hf
      refine z_pfI h zC6 (c := 1067) tg_1067 ln_1067 0 rfl ft_6_0 wd_155 rfl (ty := .int) (by decide +kernel) rfl rfl dX6_restore_207 ?_
      refine z_gen (fun σ12 eσ12 => ?_)
      have hf := bd_to eσ12 hf
      refine z_aload_n h dX6_restore_210 rfl 0 rfl ?_
      refine z_aload_n h dX6_restore_211 rfl 0 rfl ?_
      refine z_gfR h zC6 (d := 1104) (c := 1067) tg_1067 ln_1067 51 rfl ft_6_51 rf_1067_51 wd_127 dX6_restore_212 ?_
      refine z_iload_n h dX6_restore_215 rfl 1 rfl ?_
      refine z_bipush h (v := (82 : Int32)) dX6_restore_216 bp_82 ?_
      refine z_iadd h dX6_restore_218 ?_
      obtain ⟨g13, hf⟩ := ck_out hf
      refine z_iald h (c := 1104) tg_1104 ln_1104 g13 dX6_restore_219 ?_
      refine z_topI (fun v14 ev14 => ?_)
      have hf := bd_to ev14 hf
      refine z_pfI h zC6 (c := 1067) tg_1067 ln_1067 4 rfl ft_6_4 wd_200 rfl (ty := .int) (by decide +kernel) rfl rfl dX6_restore_220 ?_
      refine z_gen (fun σ15 eσ15 => ?_)
      have hf := bd_to eσ15 hf
      refine z_aload_n h dX6_restore_223 rfl 0 rfl ?_
      refine z_iconst h (v := (1 : Int32)) dX6_restore_224 ic_1 ?_
      refine z_pfI h zC6 (c := 1067) tg_1067 ln_1067 9 rfl ft_6_9 wd_95 rfl (ty := .boolean) (by decide +kernel) rfl rfl dX6_restore_225 ?_
      refine z_gen (fun σ16 eσ16 => ?_)
      have hf := bd_to eσ16 hf
      refine z_aload_n h dX6_restore_228 rfl 0 rfl ?_
      obtain ⟨v17, σ18, e18, hf⟩ := obd_out hf
      refine z_cV0 h (n := 0) (c_X6_forget l G e18) zC6 tg_1067 ln_1067 rfl rfl wd_159 wd_160 wd_161 wd_5 wd_162 (by decide +kernel) ⟨rfl, rfl⟩ rfl rfl rfl dX6_restore_229 ⟨Nat.zero_le _, Nat.zero_le _⟩ ?_
      refine z_iconst h (v := (1 : Int32)) dX6_restore_232 ic_1 ?_
      exact z_iret h (rt_I hf hq) dX6_restore_233
    · have hf := it_neg g9 hf
      refine z_aload_n h dX6_restore_174 rfl 0 rfl ?_
      refine z_gfR h zC6 (d := 1074) (c := 1067) tg_1067 ln_1067 8 rfl ft_6_8 rf_1067_8 wd_94 dX6_restore_175 ?_
      refine z_iload_n h dX6_restore_178 rfl 2 rfl ?_
      refine z_aload_n h dX6_restore_179 rfl 0 rfl ?_
      refine z_gfR h zC6 (d := 1104) (c := 1067) tg_1067 ln_1067 51 rfl ft_6_51 rf_1067_51 wd_127 dX6_restore_180 ?_
      refine z_iload_n h dX6_restore_183 rfl 1 rfl ?_
      refine z_bipush h (v := (39 : Int32)) dX6_restore_184 bp_39 ?_
      refine z_iadd h dX6_restore_186 ?_
      refine z_iload_n h dX6_restore_187 rfl 2 rfl ?_
      refine z_iadd h dX6_restore_188 ?_
      obtain ⟨g19, hf⟩ := ck_out hf
      refine z_iald h (c := 1104) tg_1104 ln_1104 g19 dX6_restore_189 ?_
      refine z_topI (fun v20 ev20 => ?_)
      have hf := bd_to ev20 hf
      obtain ⟨g21, hf⟩ := ck_out hf
      refine z_iast h (c := 1074) tg_1074 ln_1074 g21 dX6_restore_190 ?_
      refine z_gen (fun σ22 eσ22 => ?_)
      have hf := bd_to eσ22 hf
      obtain ⟨v23, ev23, hf⟩ := bd_ex hf
      refine z_iinc h (v := v23) (lv' := [(3, .int v23), (0, .ref (G.1 1067)), (2, .int x2)]) dX6_restore_191 2 rfl (by rw [ev23]; rfl) rfl rfl ?_
      refine z_goto h (tgt := 168) dX6_restore_194 (by decide) ?_
      exact z_sub [1, 2, 0] rfl (ih _ _ hf)
set_option maxHeartbeats 4000000 in
set_option maxRecDepth 100000 in
theorem k_X6_restore_h97 {l : Launch} {Y : ZY} {G : ZG} {r : Int32} {σ' : ZS} (h : zOk (l, rm_X6_restore, 4, 0, 0) Y G cX6_restore RX6 (some .int)) (hq : zRet (l, rm_X6_restore, 4, 0, 0) Y G (some (.int r)) σ') (N : Nat) (x2 : Int32) : ∀ (n : Nat) (x3 : Int32) (σ : ZS), f_X6_restore_h97 N x2 n x3 σ = some (r, σ') → Z (l, rm_X6_restore, 4, 0, 0) Y G σ [(0, .ref (G.1 1067)), (2, .int x2), (3, .int x3)] [] 97 := by
  intro n
  induction n with
  | zero =>
    intro x3 σ hf
    rw [f_X6_restore_h97] at hf
    cases hf
  | succ n ih =>
    intro x3 σ hf
    rw [f_X6_restore_h97] at hf
    refine z_iload_n h dX6_restore_97 rfl 2 rfl ?_
    refine z_bipush h (v := (6 : Int32)) dX6_restore_98 bp_6 ?_
    refine z_icmp_ge h (tgt := 166) dX6_restore_100 (by decide) (fun g8 => ?_) (fun g8 => ?_)
    · have hf := it_pos g8 hf
      refine z_iconst h (v := (0 : Int32)) dX6_restore_166 ic_0 ?_
      refine z_istore_n h dX6_restore_167 rfl (lv' := [(3, .int (0 : Int32)), (0, .ref (G.1 1067)), (2, .int x2)]) rfl rfl ?_
      exact z_sub [1, 2, 0] rfl (k_X6_restore_h168 h hq N x2 _ _ _ hf)
    · have hf := it_neg g8 hf
      refine z_aload_n h dX6_restore_103 rfl 0 rfl ?_
      refine z_gfR h zC6 (d := 1071) (c := 1067) tg_1067 ln_1067 5 rfl ft_6_5 rf_1067_5 wd_91 dX6_restore_104 ?_
      refine z_iload_n h dX6_restore_107 rfl 2 rfl ?_
      refine z_aload_n h dX6_restore_108 rfl 0 rfl ?_
      refine z_gfR h zC6 (d := 1104) (c := 1067) tg_1067 ln_1067 51 rfl ft_6_51 rf_1067_51 wd_127 dX6_restore_109 ?_
      refine z_iload_n h dX6_restore_112 rfl 1 rfl ?_
      refine z_bipush h (v := (21 : Int32)) dX6_restore_113 bp_21 ?_
      refine z_iadd h dX6_restore_115 ?_
      refine z_iconst h (v := (3 : Int32)) dX6_restore_116 ic_3 ?_
      refine z_iload_n h dX6_restore_117 rfl 2 rfl ?_
      refine z_imul h dX6_restore_118 ?_
      refine z_iadd h dX6_restore_119 ?_
      obtain ⟨g24, hf⟩ := ck_out hf
      refine z_iald h (c := 1104) tg_1104 ln_1104 g24 dX6_restore_120 ?_
      refine z_topI (fun v25 ev25 => ?_)
      have hf := bd_to ev25 hf
      obtain ⟨g26, hf⟩ := ck_out hf
      refine z_iast h (c := 1071) tg_1071 ln_1071 g26 dX6_restore_121 ?_
      refine z_gen (fun σ27 eσ27 => ?_)
      have hf := bd_to eσ27 hf
      refine z_aload_n h dX6_restore_122 rfl 0 rfl ?_
      refine z_gfR h zC6 (d := 1072) (c := 1067) tg_1067 ln_1067 6 rfl ft_6_6 rf_1067_6 wd_92 dX6_restore_123 ?_
      refine z_iload_n h dX6_restore_126 rfl 2 rfl ?_
      refine z_aload_n h dX6_restore_127 rfl 0 rfl ?_
      refine z_gfR h zC6 (d := 1104) (c := 1067) tg_1067 ln_1067 51 rfl ft_6_51 rf_1067_51 wd_127 dX6_restore_128 ?_
      refine z_iload_n h dX6_restore_131 rfl 1 rfl ?_
      refine z_bipush h (v := (22 : Int32)) dX6_restore_132 bp_22 ?_
      refine z_iadd h dX6_restore_134 ?_
      refine z_iconst h (v := (3 : Int32)) dX6_restore_135 ic_3 ?_
      refine z_iload_n h dX6_restore_136 rfl 2 rfl ?_
      refine z_imul h dX6_restore_137 ?_
      refine z_iadd h dX6_restore_138 ?_
      obtain ⟨g28, hf⟩ := ck_out hf
      refine z_iald h (c := 1104) tg_1104 ln_1104 g28 dX6_restore_139 ?_
      refine z_topI (fun v29 ev29 => ?_)
      have hf := bd_to ev29 hf
      obtain ⟨g30, hf⟩ := ck_out hf
      refine z_iast h (c := 1072) tg_1072 ln_1072 g30 dX6_restore_140 ?_
      refine z_gen (fun σ31 eσ31 => ?_)
      have hf := bd_to eσ31 hf
      refine z_aload_n h dX6_restore_141 rfl 0 rfl ?_
      refine z_gfR h zC6 (d := 1073) (c := 1067) tg_1067 ln_1067 7 rfl ft_6_7 rf_1067_7 wd_93 dX6_restore_142 ?_
      refine z_iload_n h dX6_restore_145 rfl 2 rfl ?_
      refine z_aload_n h dX6_restore_146 rfl 0 rfl ?_
      refine z_gfR h zC6 (d := 1104) (c := 1067) tg_1067 ln_1067 51 rfl ft_6_51 rf_1067_51 wd_127 dX6_restore_147 ?_
      refine z_iload_n h dX6_restore_150 rfl 1 rfl ?_
      refine z_bipush h (v := (23 : Int32)) dX6_restore_151 bp_23 ?_
      refine z_iadd h dX6_restore_153 ?_
      refine z_iconst h (v := (3 : Int32)) dX6_restore_154 ic_3 ?_
      refine z_iload_n h dX6_restore_155 rfl 2 rfl ?_
      refine z_imul h dX6_restore_156 ?_
      refine z_iadd h dX6_restore_157 ?_
      obtain ⟨g32, hf⟩ := ck_out hf
      refine z_iald h (c := 1104) tg_1104 ln_1104 g32 dX6_restore_158 ?_
      refine z_topI (fun v33 ev33 => ?_)
      have hf := bd_to ev33 hf
      obtain ⟨g34, hf⟩ := ck_out hf
      refine z_iast h (c := 1073) tg_1073 ln_1073 g34 dX6_restore_159 ?_
      refine z_gen (fun σ35 eσ35 => ?_)
      have hf := bd_to eσ35 hf
      obtain ⟨v36, ev36, hf⟩ := bd_ex hf
      refine z_iinc h (v := v36) (lv' := [(3, .int v36), (0, .ref (G.1 1067)), (2, .int x2)]) dX6_restore_160 2 rfl (by rw [ev36]; rfl) rfl rfl ?_
      refine z_goto h (tgt := 97) dX6_restore_163 (by decide) ?_
      exact z_sub [1, 2, 0] rfl (ih _ _ hf)
set_option maxHeartbeats 4000000 in
set_option maxRecDepth 100000 in
theorem k_X6_restore_h31 {l : Launch} {Y : ZY} {G : ZG} {r : Int32} {σ' : ZS} (h : zOk (l, rm_X6_restore, 4, 0, 0) Y G cX6_restore RX6 (some .int)) (hq : zRet (l, rm_X6_restore, 4, 0, 0) Y G (some (.int r)) σ') (N : Nat) (x2 : Int32) : ∀ (n : Nat) (x3 : Int32) (σ : ZS), f_X6_restore_h31 N x2 n x3 σ = some (r, σ') → Z (l, rm_X6_restore, 4, 0, 0) Y G σ [(0, .ref (G.1 1067)), (2, .int x2), (3, .int x3)] [] 31 := by
  intro n
  induction n with
  | zero =>
    intro x3 σ hf
    rw [f_X6_restore_h31] at hf
    cases hf
  | succ n ih =>
    intro x3 σ hf
    rw [f_X6_restore_h31] at hf
    refine z_iload_n h dX6_restore_31 rfl 2 rfl ?_
    refine z_bipush h (v := (7 : Int32)) dX6_restore_32 bp_7 ?_
    refine z_icmp_ge h (tgt := 95) dX6_restore_34 (by decide) (fun g7 => ?_) (fun g7 => ?_)
    · have hf := it_pos g7 hf
      refine z_iconst h (v := (0 : Int32)) dX6_restore_95 ic_0 ?_
      refine z_istore_n h dX6_restore_96 rfl (lv' := [(3, .int (0 : Int32)), (0, .ref (G.1 1067)), (2, .int x2)]) rfl rfl ?_
      exact z_sub [1, 2, 0] rfl (k_X6_restore_h97 h hq N x2 _ _ _ hf)
    · have hf := it_neg g7 hf
      refine z_aload_n h dX6_restore_37 rfl 0 rfl ?_
      refine z_gfR h zC6 (d := 1068) (c := 1067) tg_1067 ln_1067 1 rfl ft_6_1 rf_1067_1 wd_88 dX6_restore_38 ?_
      refine z_iload_n h dX6_restore_41 rfl 2 rfl ?_
      refine z_aload_n h dX6_restore_42 rfl 0 rfl ?_
      refine z_gfR h zC6 (d := 1104) (c := 1067) tg_1067 ln_1067 51 rfl ft_6_51 rf_1067_51 wd_127 dX6_restore_43 ?_
      refine z_iload_n h dX6_restore_46 rfl 1 rfl ?_
      refine z_iconst h (v := (3 : Int32)) dX6_restore_47 ic_3 ?_
      refine z_iload_n h dX6_restore_48 rfl 2 rfl ?_
      refine z_imul h dX6_restore_49 ?_
      refine z_iadd h dX6_restore_50 ?_
      obtain ⟨g37, hf⟩ := ck_out hf
      refine z_iald h (c := 1104) tg_1104 ln_1104 g37 dX6_restore_51 ?_
      refine z_topI (fun v38 ev38 => ?_)
      have hf := bd_to ev38 hf
      obtain ⟨g39, hf⟩ := ck_out hf
      refine z_iast h (c := 1068) tg_1068 ln_1068 g39 dX6_restore_52 ?_
      refine z_gen (fun σ40 eσ40 => ?_)
      have hf := bd_to eσ40 hf
      refine z_aload_n h dX6_restore_53 rfl 0 rfl ?_
      refine z_gfR h zC6 (d := 1069) (c := 1067) tg_1067 ln_1067 2 rfl ft_6_2 rf_1067_2 wd_89 dX6_restore_54 ?_
      refine z_iload_n h dX6_restore_57 rfl 2 rfl ?_
      refine z_aload_n h dX6_restore_58 rfl 0 rfl ?_
      refine z_gfR h zC6 (d := 1104) (c := 1067) tg_1067 ln_1067 51 rfl ft_6_51 rf_1067_51 wd_127 dX6_restore_59 ?_
      refine z_iload_n h dX6_restore_62 rfl 1 rfl ?_
      refine z_iconst h (v := (3 : Int32)) dX6_restore_63 ic_3 ?_
      refine z_iload_n h dX6_restore_64 rfl 2 rfl ?_
      refine z_imul h dX6_restore_65 ?_
      refine z_iadd h dX6_restore_66 ?_
      refine z_iconst h (v := (1 : Int32)) dX6_restore_67 ic_1 ?_
      refine z_iadd h dX6_restore_68 ?_
      obtain ⟨g41, hf⟩ := ck_out hf
      refine z_iald h (c := 1104) tg_1104 ln_1104 g41 dX6_restore_69 ?_
      refine z_topI (fun v42 ev42 => ?_)
      have hf := bd_to ev42 hf
      obtain ⟨g43, hf⟩ := ck_out hf
      refine z_iast h (c := 1069) tg_1069 ln_1069 g43 dX6_restore_70 ?_
      refine z_gen (fun σ44 eσ44 => ?_)
      have hf := bd_to eσ44 hf
      refine z_aload_n h dX6_restore_71 rfl 0 rfl ?_
      refine z_gfR h zC6 (d := 1070) (c := 1067) tg_1067 ln_1067 3 rfl ft_6_3 rf_1067_3 wd_90 dX6_restore_72 ?_
      refine z_iload_n h dX6_restore_75 rfl 2 rfl ?_
      refine z_aload_n h dX6_restore_76 rfl 0 rfl ?_
      refine z_gfR h zC6 (d := 1104) (c := 1067) tg_1067 ln_1067 51 rfl ft_6_51 rf_1067_51 wd_127 dX6_restore_77 ?_
      refine z_iload_n h dX6_restore_80 rfl 1 rfl ?_
      refine z_iconst h (v := (3 : Int32)) dX6_restore_81 ic_3 ?_
      refine z_iload_n h dX6_restore_82 rfl 2 rfl ?_
      refine z_imul h dX6_restore_83 ?_
      refine z_iadd h dX6_restore_84 ?_
      refine z_iconst h (v := (2 : Int32)) dX6_restore_85 ic_2 ?_
      refine z_iadd h dX6_restore_86 ?_
      obtain ⟨g45, hf⟩ := ck_out hf
      refine z_iald h (c := 1104) tg_1104 ln_1104 g45 dX6_restore_87 ?_
      refine z_topI (fun v46 ev46 => ?_)
      have hf := bd_to ev46 hf
      obtain ⟨g47, hf⟩ := ck_out hf
      refine z_iast h (c := 1070) tg_1070 ln_1070 g47 dX6_restore_88 ?_
      refine z_gen (fun σ48 eσ48 => ?_)
      have hf := bd_to eσ48 hf
      obtain ⟨v49, ev49, hf⟩ := bd_ex hf
      refine z_iinc h (v := v49) (lv' := [(3, .int v49), (0, .ref (G.1 1067)), (2, .int x2)]) dX6_restore_89 2 rfl (by rw [ev49]; rfl) rfl rfl ?_
      refine z_goto h (tgt := 31) dX6_restore_92 (by decide) ?_
      exact z_sub [1, 2, 0] rfl (ih _ _ hf)
set_option maxHeartbeats 4000000 in
set_option maxRecDepth 100000 in
theorem c_X6_restore (l : Launch) (G : ZG) {N : Nat} {x1 : Int32} {σ σ' : ZS} {r : Int32} (hf : f_X6_restore N x1 σ = some (r, σ')) : zMet l G yX6_restore cX6_restore 4 (some .int) rm_X6_restore [.ref (G.1 1067), .int x1] σ (some (.int r)) σ' := by
  refine z_met (by decide +kernel) rfl (fun Y h hq => ?_)
  have h : zOk (l, rm_X6_restore, 4, 0, 0) Y G cX6_restore RX6 (some .int) := h
  rw [f_X6_restore] at hf
  refine z_sub (lv' := [(0, .ref (G.1 1067)), (1, .int x1)]) [0, 1] rfl ?_
  refine z_iload_n h dX6_restore_0 rfl 1 rfl ?_
  refine z_iconst h (v := (0 : Int32)) dX6_restore_1 ic_0 ?_
  refine z_iconst h (v := (1 : Int32)) dX6_restore_2 ic_1 ?_
  obtain ⟨v1, σ2, e2, hf⟩ := obd_out hf
  refine z_cSv h (n := 3) (c_X6_in l G e2) rfl wd_156 wd_157 wd_5 wd_158 (by decide +kernel) ⟨rfl, rfl⟩ rfl rfl rfl dX6_restore_3 ⟨Nat.zero_le _, Nat.zero_le _⟩ ?_
  refine z_if_ne h (tgt := 12) dX6_restore_6 (by decide) (fun g3 => ?_) (fun g3 => ?_)
  · have hf := it_neg g3 hf
    refine z_aload_n h dX6_restore_12 rfl 0 rfl ?_
    refine z_gfR h zC6 (d := 1105) (c := 1067) tg_1067 ln_1067 52 rfl ft_6_52 rf_1067_52 wd_128 dX6_restore_13 ?_
    refine z_iload_n h dX6_restore_16 rfl 1 rfl ?_
    obtain ⟨g4, hf⟩ := ck_out hf
    refine z_zald h (c := 1105) tg_1105 ln_1105 g4 dX6_restore_17 ?_
    refine z_if_ne h (tgt := 24) dX6_restore_18 (by decide) (fun g5 => ?_) (fun g5 => ?_)
    · have hf := it_neg g5 hf
      refine z_bipush h (v := (83 : Int32)) dX6_restore_24 bp_83 ?_
      refine z_iload_n h dX6_restore_26 rfl 1 rfl ?_
      refine z_imul h dX6_restore_27 ?_
      refine z_topI (fun v6 ev6 => ?_)
      have hf := bd_to ev6 hf
      refine z_istore_n h dX6_restore_28 rfl (lv' := [(2, .int v6), (0, .ref (G.1 1067)), (1, .int x1)]) rfl rfl ?_
      refine z_iconst h (v := (0 : Int32)) dX6_restore_29 ic_0 ?_
      refine z_istore_n h dX6_restore_30 rfl (lv' := [(3, .int (0 : Int32)), (2, .int v6), (0, .ref (G.1 1067)), (1, .int x1)]) rfl rfl ?_
      exact z_sub [2, 1, 0] rfl (k_X6_restore_h31 h hq N v6 _ _ _ hf)
    · have hf := it_pos g5 hf
      refine z_bipush h (v := (-5 : Int32)) dX6_restore_21 bp_m5 ?_
      exact z_iret h (rt_I hf hq) dX6_restore_23
  · have hf := it_pos g3 hf
    refine z_bipush h (v := (-2 : Int32)) dX6_restore_9 bp_m2 ?_
    exact z_iret h (rt_I hf hq) dX6_restore_11
