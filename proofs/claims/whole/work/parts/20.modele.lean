theorem dX6_bears_0 : decode cX6_bears 0 = .ok (.iload_n 1, 1) := by decide +kernel
theorem dX6_bears_1 : decode cX6_bears 1 = .ok (.bipush (-99), 2) := by decide +kernel
theorem dX6_bears_3 : decode cX6_bears 3 = .ok (.bipush 99, 2) := by decide +kernel
theorem dX6_bears_5 : decode cX6_bears 5 = .ok (.invokestatic 137, 3) := by decide +kernel
theorem dX6_bears_8 : decode cX6_bears 8 = .ok (.ifCond .eq 24, 3) := by decide +kernel
theorem dX6_bears_11 : decode cX6_bears 11 = .ok (.iload_n 2, 1) := by decide +kernel
theorem dX6_bears_12 : decode cX6_bears 12 = .ok (.bipush (-99), 2) := by decide +kernel
theorem dX6_bears_14 : decode cX6_bears 14 = .ok (.bipush 99, 2) := by decide +kernel
theorem dX6_bears_16 : decode cX6_bears 16 = .ok (.invokestatic 137, 3) := by decide +kernel
theorem dX6_bears_19 : decode cX6_bears 19 = .ok (.ifCond .eq 13, 3) := by decide +kernel
theorem dX6_bears_22 : decode cX6_bears 22 = .ok (.iload_n 3, 1) := by decide +kernel
theorem dX6_bears_23 : decode cX6_bears 23 = .ok (.iconst 1, 1) := by decide +kernel
theorem dX6_bears_24 : decode cX6_bears 24 = .ok (.bipush 99, 2) := by decide +kernel
theorem dX6_bears_26 : decode cX6_bears 26 = .ok (.invokestatic 137, 3) := by decide +kernel
theorem dX6_bears_29 : decode cX6_bears 29 = .ok (.ifCond .ne 6, 3) := by decide +kernel
theorem dX6_bears_32 : decode cX6_bears 32 = .ok (.bipush (-2), 2) := by decide +kernel
theorem dX6_bears_34 : decode cX6_bears 34 = .ok (.ireturn, 1) := by decide +kernel
theorem dX6_bears_35 : decode cX6_bears 35 = .ok (.aload_n 0, 1) := by decide +kernel
theorem dX6_bears_36 : decode cX6_bears 36 = .ok (.invokevirtual 307, 3) := by decide +kernel
theorem dX6_bears_39 : decode cX6_bears 39 = .ok (.ifCond .eq 6, 3) := by decide +kernel
theorem dX6_bears_42 : decode cX6_bears 42 = .ok (.bipush (-3), 2) := by decide +kernel
theorem dX6_bears_44 : decode cX6_bears 44 = .ok (.ireturn, 1) := by decide +kernel
theorem dX6_bears_45 : decode cX6_bears 45 = .ok (.aload_n 0, 1) := by decide +kernel
theorem dX6_bears_46 : decode cX6_bears 46 = .ok (.invokevirtual 283, 3) := by decide +kernel
theorem dX6_bears_49 : decode cX6_bears 49 = .ok (.aload_n 0, 1) := by decide +kernel
theorem dX6_bears_50 : decode cX6_bears 50 = .ok (.iload_n 3, 1) := by decide +kernel
theorem dX6_bears_51 : decode cX6_bears 51 = .ok (.i2l, 1) := by decide +kernel
theorem dX6_bears_52 : decode cX6_bears 52 = .ok (.iload_n 1, 1) := by decide +kernel
theorem dX6_bears_53 : decode cX6_bears 53 = .ok (.i2l, 1) := by decide +kernel
theorem dX6_bears_54 : decode cX6_bears 54 = .ok (.iload_n 2, 1) := by decide +kernel
theorem dX6_bears_55 : decode cX6_bears 55 = .ok (.i2l, 1) := by decide +kernel
theorem dX6_bears_56 : decode cX6_bears 56 = .ok (.iload_n 3, 1) := by decide +kernel
theorem dX6_bears_57 : decode cX6_bears 57 = .ok (.i2l, 1) := by decide +kernel
theorem dX6_bears_58 : decode cX6_bears 58 = .ok (.invokevirtual 286, 3) := by decide +kernel
theorem dX6_bears_61 : decode cX6_bears 61 = .ok (.ifCond .eq 7, 3) := by decide +kernel
theorem dX6_bears_64 : decode cX6_bears 64 = .ok (.iconst 1, 1) := by decide +kernel
theorem dX6_bears_65 : decode cX6_bears 65 = .ok (.goto 4, 3) := by decide +kernel
theorem dX6_bears_68 : decode cX6_bears 68 = .ok (.iconst 0, 1) := by decide +kernel
theorem dX6_bears_69 : decode cX6_bears 69 = .ok (.ireturn, 1) := by decide +kernel
abbrev rm_X6_bears : Room := { frames := 5, cells := 0, slots := 0, locals := 167 }
noncomputable def f_X6_bears (N : Nat) (x1 : Int32) (x2 : Int32) (x3 : Int32) (σ : ZS) : Option (Int32 × ZS) := obd (f_X6_in N x1 (-99 : Int32) (99 : Int32) σ) fun v1 σ2 => (if v1 = 0 then some ((-2 : Int32), σ2) else obd (f_X6_in N x2 (-99 : Int32) (99 : Int32) σ2) fun v4 σ5 => (if v4 = 0 then some ((-2 : Int32), σ5) else obd (f_X6_in N x3 (1 : Int32) (99 : Int32) σ5) fun v7 σ8 => (if v7 = 0 then some ((-2 : Int32), σ8) else obd (f_X6_isLoose N σ8) fun v10 σ11 => (if v10 = 0 then obd (f_X6_layRules N σ11) fun _ σ14 => obd (f_X6_isBorne N (x3.toInt64) (x1.toInt64) (x2.toInt64) (x3.toInt64) σ14) fun v15 σ16 => (if v15 = 0 then some ((0 : Int32), σ16) else some ((1 : Int32), σ16)) else some ((-3 : Int32), σ11)))))
set_option maxHeartbeats 4000000 in
set_option maxRecDepth 100000 in
theorem c_X6_bears (l : Launch) (G : ZG) {N : Nat} {x1 : Int32} {x2 : Int32} {x3 : Int32} {σ σ' : ZS} {r : Int32} (hf : f_X6_bears N x1 x2 x3 σ = some (r, σ')) : zMet l G yX6_bears cX6_bears 4 (some .int) rm_X6_bears [.ref (G.1 1067), .int x1, .int x2, .int x3] σ (some (.int r)) σ' := by
  refine z_met (by decide +kernel) rfl (fun Y h hq => ?_)
  have h : zOk (l, rm_X6_bears, 4, 0, 0) Y G cX6_bears RX6 (some .int) := h
  rw [f_X6_bears] at hf
  refine z_sub (lv' := [(0, .ref (G.1 1067)), (1, .int x1), (2, .int x2), (3, .int x3)]) [0, 1, 2, 3] rfl ?_
  refine z_iload_n h dX6_bears_0 rfl 1 rfl ?_
  refine z_bipush h (v := (-99 : Int32)) dX6_bears_1 bp_m99 ?_
  refine z_bipush h (v := (99 : Int32)) dX6_bears_3 bp_99 ?_
  obtain ⟨v1, σ2, e2, hf⟩ := obd_out hf
  refine z_cSv h (n := 3) (c_X6_in l G e2) rfl wd_156 wd_157 wd_5 wd_158 (by decide +kernel) ⟨rfl, rfl⟩ rfl rfl rfl dX6_bears_5 ⟨Nat.zero_le _, Nat.zero_le _⟩ ?_
  refine z_if_eq h (tgt := 32) dX6_bears_8 (by decide) (fun g3 => ?_) (fun g3 => ?_)
  · have hf := it_pos g3 hf
    refine z_bipush h (v := (-2 : Int32)) dX6_bears_32 bp_m2 ?_
    exact z_iret h (rt_I hf hq) dX6_bears_34
  · have hf := it_neg g3 hf
    refine z_iload_n h dX6_bears_11 rfl 2 rfl ?_
    refine z_bipush h (v := (-99 : Int32)) dX6_bears_12 bp_m99 ?_
    refine z_bipush h (v := (99 : Int32)) dX6_bears_14 bp_99 ?_
    obtain ⟨v4, σ5, e5, hf⟩ := obd_out hf
    refine z_cSv h (n := 3) (c_X6_in l G e5) rfl wd_156 wd_157 wd_5 wd_158 (by decide +kernel) ⟨rfl, rfl⟩ rfl rfl rfl dX6_bears_16 ⟨Nat.zero_le _, Nat.zero_le _⟩ ?_
    refine z_if_eq h (tgt := 32) dX6_bears_19 (by decide) (fun g6 => ?_) (fun g6 => ?_)
    · have hf := it_pos g6 hf
      refine z_bipush h (v := (-2 : Int32)) dX6_bears_32 bp_m2 ?_
      exact z_iret h (rt_I hf hq) dX6_bears_34
    · have hf := it_neg g6 hf
      refine z_iload_n h dX6_bears_22 rfl 3 rfl ?_
      refine z_iconst h (v := (1 : Int32)) dX6_bears_23 ic_1 ?_
      refine z_bipush h (v := (99 : Int32)) dX6_bears_24 bp_99 ?_
      obtain ⟨v7, σ8, e8, hf⟩ := obd_out hf
      refine z_cSv h (n := 3) (c_X6_in l G e8) rfl wd_156 wd_157 wd_5 wd_158 (by decide +kernel) ⟨rfl, rfl⟩ rfl rfl rfl dX6_bears_26 ⟨Nat.zero_le _, Nat.zero_le _⟩ ?_
      refine z_if_ne h (tgt := 35) dX6_bears_29 (by decide) (fun g9 => ?_) (fun g9 => ?_)
      · have hf := it_neg g9 hf
        refine z_aload_n h dX6_bears_35 rfl 0 rfl ?_
        obtain ⟨v10, σ11, e11, hf⟩ := obd_out hf
        refine z_cVv h (n := 0) (c_X6_isLoose l G e11) zC6 tg_1067 ln_1067 rfl rfl wd_426 wd_427 wd_428 wd_5 wd_429 (by decide +kernel) ⟨rfl, rfl⟩ rfl rfl rfl dX6_bears_36 ⟨Nat.zero_le _, Nat.zero_le _⟩ ?_
        refine z_if_eq h (tgt := 45) dX6_bears_39 (by decide) (fun g12 => ?_) (fun g12 => ?_)
        · have hf := it_pos g12 hf
          refine z_aload_n h dX6_bears_45 rfl 0 rfl ?_
          obtain ⟨v13, σ14, e14, hf⟩ := obd_out hf
          refine z_cV0 h (n := 0) (c_X6_layRules l G e14) zC6 tg_1067 ln_1067 rfl rfl wd_627 wd_628 wd_629 wd_5 wd_630 (by decide +kernel) ⟨rfl, rfl⟩ rfl rfl rfl dX6_bears_46 ⟨Nat.zero_le _, Nat.zero_le _⟩ ?_
          refine z_aload_n h dX6_bears_49 rfl 0 rfl ?_
          refine z_iload_n h dX6_bears_50 rfl 3 rfl ?_
          refine z_i2l h dX6_bears_51 ?_
          refine z_iload_n h dX6_bears_52 rfl 1 rfl ?_
          refine z_i2l h dX6_bears_53 ?_
          refine z_iload_n h dX6_bears_54 rfl 2 rfl ?_
          refine z_i2l h dX6_bears_55 ?_
          refine z_iload_n h dX6_bears_56 rfl 3 rfl ?_
          refine z_i2l h dX6_bears_57 ?_
          obtain ⟨v15, σ16, e16, hf⟩ := obd_out hf
          refine z_cVv h (n := 4) (c_X6_isBorne l G e16) zC6 tg_1067 ln_1067 rfl rfl wd_631 wd_632 wd_633 wd_5 wd_634 (by decide +kernel) ⟨rfl, rfl⟩ rfl rfl rfl dX6_bears_58 ⟨Nat.zero_le _, Nat.zero_le _⟩ ?_
          refine z_if_eq h (tgt := 68) dX6_bears_61 (by decide) (fun g17 => ?_) (fun g17 => ?_)
          · have hf := it_pos g17 hf
            refine z_iconst h (v := (0 : Int32)) dX6_bears_68 ic_0 ?_
            exact z_iret h (rt_I hf hq) dX6_bears_69
          · have hf := it_neg g17 hf
            refine z_iconst h (v := (1 : Int32)) dX6_bears_64 ic_1 ?_
            refine z_goto h (tgt := 69) dX6_bears_65 (by decide) ?_
            exact z_iret h (rt_I hf hq) dX6_bears_69
        · have hf := it_neg g12 hf
          refine z_bipush h (v := (-3 : Int32)) dX6_bears_42 bp_m3 ?_
          exact z_iret h (rt_I hf hq) dX6_bears_44
      · have hf := it_pos g9 hf
        refine z_bipush h (v := (-2 : Int32)) dX6_bears_32 bp_m2 ?_
        exact z_iret h (rt_I hf hq) dX6_bears_34
theorem dX6_takeMoment_0 : decode cX6_takeMoment 0 = .ok (.lload_n 3, 1) := by decide +kernel
theorem dX6_takeMoment_1 : decode cX6_takeMoment 1 = .ok (.lload 5, 2) := by decide +kernel
theorem dX6_takeMoment_3 : decode cX6_takeMoment 3 = .ok (.iconst 0, 1) := by decide +kernel
theorem dX6_takeMoment_4 : decode cX6_takeMoment 4 = .ok (.invokestatic 300, 3) := by decide +kernel
theorem dX6_takeMoment_7 : decode cX6_takeMoment 7 = .ok (.lstore 7, 2) := by decide +kernel
theorem dX6_takeMoment_9 : decode cX6_takeMoment 9 = .ok (.lload_n 3, 1) := by decide +kernel
theorem dX6_takeMoment_10 : decode cX6_takeMoment 10 = .ok (.lload 5, 2) := by decide +kernel
theorem dX6_takeMoment_12 : decode cX6_takeMoment 12 = .ok (.iconst 1, 1) := by decide +kernel
theorem dX6_takeMoment_13 : decode cX6_takeMoment 13 = .ok (.invokestatic 300, 3) := by decide +kernel
theorem dX6_takeMoment_16 : decode cX6_takeMoment 16 = .ok (.lstore 9, 2) := by decide +kernel
theorem dX6_takeMoment_18 : decode cX6_takeMoment 18 = .ok (.iload_n 2, 1) := by decide +kernel
theorem dX6_takeMoment_19 : decode cX6_takeMoment 19 = .ok (.ifCond .ne 25, 3) := by decide +kernel
theorem dX6_takeMoment_22 : decode cX6_takeMoment 22 = .ok (.lload 7, 2) := by decide +kernel
theorem dX6_takeMoment_24 : decode cX6_takeMoment 24 = .ok (.lload 9, 2) := by decide +kernel
theorem dX6_takeMoment_26 : decode cX6_takeMoment 26 = .ok (.aload_n 0, 1) := by decide +kernel
theorem dX6_takeMoment_27 : decode cX6_takeMoment 27 = .ok (.getfield 116, 3) := by decide +kernel
theorem dX6_takeMoment_30 : decode cX6_takeMoment 30 = .ok (.iload_n 1, 1) := by decide +kernel
theorem dX6_takeMoment_31 : decode cX6_takeMoment 31 = .ok (.laload, 1) := by decide +kernel
theorem dX6_takeMoment_32 : decode cX6_takeMoment 32 = .ok (.aload_n 0, 1) := by decide +kernel
theorem dX6_takeMoment_33 : decode cX6_takeMoment 33 = .ok (.getfield 119, 3) := by decide +kernel
theorem dX6_takeMoment_36 : decode cX6_takeMoment 36 = .ok (.iload_n 1, 1) := by decide +kernel
theorem dX6_takeMoment_37 : decode cX6_takeMoment 37 = .ok (.laload, 1) := by decide +kernel
theorem dX6_takeMoment_38 : decode cX6_takeMoment 38 = .ok (.invokestatic 296, 3) := by decide +kernel
theorem dX6_takeMoment_41 : decode cX6_takeMoment 41 = .ok (.ifCond .le 19, 3) := by decide +kernel
theorem dX6_takeMoment_44 : decode cX6_takeMoment 44 = .ok (.aload_n 0, 1) := by decide +kernel
theorem dX6_takeMoment_45 : decode cX6_takeMoment 45 = .ok (.getfield 116, 3) := by decide +kernel
theorem dX6_takeMoment_48 : decode cX6_takeMoment 48 = .ok (.iload_n 1, 1) := by decide +kernel
theorem dX6_takeMoment_49 : decode cX6_takeMoment 49 = .ok (.lload 7, 2) := by decide +kernel
theorem dX6_takeMoment_51 : decode cX6_takeMoment 51 = .ok (.lastore, 1) := by decide +kernel
theorem dX6_takeMoment_52 : decode cX6_takeMoment 52 = .ok (.aload_n 0, 1) := by decide +kernel
theorem dX6_takeMoment_53 : decode cX6_takeMoment 53 = .ok (.getfield 119, 3) := by decide +kernel
theorem dX6_takeMoment_56 : decode cX6_takeMoment 56 = .ok (.iload_n 1, 1) := by decide +kernel
theorem dX6_takeMoment_57 : decode cX6_takeMoment 57 = .ok (.lload 9, 2) := by decide +kernel
theorem dX6_takeMoment_59 : decode cX6_takeMoment 59 = .ok (.lastore, 1) := by decide +kernel
theorem dX6_takeMoment_60 : decode cX6_takeMoment 60 = .ok (.iload_n 2, 1) := by decide +kernel
theorem dX6_takeMoment_61 : decode cX6_takeMoment 61 = .ok (.ifCond .ne 25, 3) := by decide +kernel
theorem dX6_takeMoment_64 : decode cX6_takeMoment 64 = .ok (.lload 7, 2) := by decide +kernel
theorem dX6_takeMoment_66 : decode cX6_takeMoment 66 = .ok (.lload 9, 2) := by decide +kernel
theorem dX6_takeMoment_68 : decode cX6_takeMoment 68 = .ok (.aload_n 0, 1) := by decide +kernel
theorem dX6_takeMoment_69 : decode cX6_takeMoment 69 = .ok (.getfield 122, 3) := by decide +kernel
theorem dX6_takeMoment_72 : decode cX6_takeMoment 72 = .ok (.iload_n 1, 1) := by decide +kernel
theorem dX6_takeMoment_73 : decode cX6_takeMoment 73 = .ok (.laload, 1) := by decide +kernel
theorem dX6_takeMoment_74 : decode cX6_takeMoment 74 = .ok (.aload_n 0, 1) := by decide +kernel
theorem dX6_takeMoment_75 : decode cX6_takeMoment 75 = .ok (.getfield 125, 3) := by decide +kernel
theorem dX6_takeMoment_78 : decode cX6_takeMoment 78 = .ok (.iload_n 1, 1) := by decide +kernel
theorem dX6_takeMoment_79 : decode cX6_takeMoment 79 = .ok (.laload, 1) := by decide +kernel
theorem dX6_takeMoment_80 : decode cX6_takeMoment 80 = .ok (.invokestatic 296, 3) := by decide +kernel
theorem dX6_takeMoment_83 : decode cX6_takeMoment 83 = .ok (.ifCond .ge 19, 3) := by decide +kernel
theorem dX6_takeMoment_86 : decode cX6_takeMoment 86 = .ok (.aload_n 0, 1) := by decide +kernel
theorem dX6_takeMoment_87 : decode cX6_takeMoment 87 = .ok (.getfield 122, 3) := by decide +kernel
theorem dX6_takeMoment_90 : decode cX6_takeMoment 90 = .ok (.iload_n 1, 1) := by decide +kernel
theorem dX6_takeMoment_91 : decode cX6_takeMoment 91 = .ok (.lload 7, 2) := by decide +kernel
theorem dX6_takeMoment_93 : decode cX6_takeMoment 93 = .ok (.lastore, 1) := by decide +kernel
theorem dX6_takeMoment_94 : decode cX6_takeMoment 94 = .ok (.aload_n 0, 1) := by decide +kernel
theorem dX6_takeMoment_95 : decode cX6_takeMoment 95 = .ok (.getfield 125, 3) := by decide +kernel
theorem dX6_takeMoment_98 : decode cX6_takeMoment 98 = .ok (.iload_n 1, 1) := by decide +kernel
theorem dX6_takeMoment_99 : decode cX6_takeMoment 99 = .ok (.lload 9, 2) := by decide +kernel
theorem dX6_takeMoment_101 : decode cX6_takeMoment 101 = .ok (.lastore, 1) := by decide +kernel
theorem dX6_takeMoment_102 : decode cX6_takeMoment 102 = .ok (.return_, 1) := by decide +kernel
abbrev rm_X6_takeMoment : Room := { frames := 2, cells := 0, slots := 0, locals := 86 }
noncomputable def f_X6_takeMoment_b86 (N : Nat) (x1 : Int32) (x7 : Int64) (x9 : Int64) (σ : ZS) : Option (Unit × ZS) := ck (inb x1 12) (bd (sJ σ 1102 (x1.toNatClampNeg) x7) fun σ12 => ck (inb x1 12) (bd (sJ σ12 1103 (x1.toNatClampNeg) x9) fun σ14 => some ((), σ14)))
noncomputable def f_X6_takeMoment_b60 (N : Nat) (x1 : Int32) (x2 : Int32) (x7 : Int64) (x9 : Int64) (σ : ZS) : Option (Unit × ZS) := (if x2 = 0 then ck (inb x1 12) (ck (inb x1 12) (obd (f_X6_compare N x7 x9 (gJ σ 1102 (x1.toNatClampNeg)) (gJ σ 1103 (x1.toNatClampNeg)) σ) fun v17 σ18 => (if 0 ≤ v17 then some ((), σ18) else f_X6_takeMoment_b86 N x1 x7 x9 σ18))) else f_X6_takeMoment_b86 N x1 x7 x9 σ)
noncomputable def f_X6_takeMoment_b44 (N : Nat) (x1 : Int32) (x2 : Int32) (x7 : Int64) (x9 : Int64) (σ : ZS) : Option (Unit × ZS) := ck (inb x1 12) (bd (sJ σ 1100 (x1.toNatClampNeg) x7) fun σ7 => ck (inb x1 12) (bd (sJ σ7 1101 (x1.toNatClampNeg) x9) fun σ9 => f_X6_takeMoment_b60 N x1 x2 x7 x9 σ9))
noncomputable def f_X6_takeMoment (N : Nat) (x1 : Int32) (x2 : Int32) (x3 : Int64) (x5 : Int64) (σ : ZS) : Option (Unit × ZS) := obd (f_X6_part N x3 x5 (0 : Int32) σ) fun v1 σ2 => obd (f_X6_part N x3 x5 (1 : Int32) σ2) fun v3 σ4 => (if x2 = 0 then ck (inb x1 12) (ck (inb x1 12) (obd (f_X6_compare N v1 v3 (gJ σ4 1100 (x1.toNatClampNeg)) (gJ σ4 1101 (x1.toNatClampNeg)) σ4) fun v22 σ23 => (if v22 ≤ 0 then f_X6_takeMoment_b60 N x1 x2 v1 v3 σ23 else f_X6_takeMoment_b44 N x1 x2 v1 v3 σ23))) else f_X6_takeMoment_b44 N x1 x2 v1 v3 σ4)
set_option maxHeartbeats 4000000 in
set_option maxRecDepth 100000 in
theorem k_X6_takeMoment_b86 {l : Launch} {Y : ZY} {G : ZG} {σ' : ZS} (h : zOk (l, rm_X6_takeMoment, 11, 0, 0) Y G cX6_takeMoment RX6 none) (hq : zRet (l, rm_X6_takeMoment, 11, 0, 0) Y G none σ') (N : Nat) (x1 : Int32) (x7 : Int64) (x9 : Int64) (σ : ZS) (hf : f_X6_takeMoment_b86 N x1 x7 x9 σ = some ((), σ')) : Z (l, rm_X6_takeMoment, 11, 0, 0) Y G σ [(0, .ref (G.1 1067)), (1, .int x1), (7, .long x7), (9, .long x9)] [] 86 := by
  rw [f_X6_takeMoment_b86] at hf
  refine z_aload_n h dX6_takeMoment_86 rfl 0 rfl ?_
  refine z_gfR h zC6 (d := 1102) (c := 1067) tg_1067 ln_1067 49 rfl ft_6_49 rf_1067_49 wd_125 dX6_takeMoment_87 ?_
  refine z_iload_n h dX6_takeMoment_90 rfl 1 rfl ?_
  refine z_lload h dX6_takeMoment_91 2 rfl ?_
  obtain ⟨g11, hf⟩ := ck_out hf
  refine z_last h (c := 1102) tg_1102 ln_1102 g11 dX6_takeMoment_93 ?_
  refine z_gen (fun σ12 eσ12 => ?_)
  have hf := bd_to eσ12 hf
  refine z_aload_n h dX6_takeMoment_94 rfl 0 rfl ?_
  refine z_gfR h zC6 (d := 1103) (c := 1067) tg_1067 ln_1067 50 rfl ft_6_50 rf_1067_50 wd_126 dX6_takeMoment_95 ?_
  refine z_iload_n h dX6_takeMoment_98 rfl 1 rfl ?_
  refine z_lload h dX6_takeMoment_99 3 rfl ?_
  obtain ⟨g13, hf⟩ := ck_out hf
  refine z_last h (c := 1103) tg_1103 ln_1103 g13 dX6_takeMoment_101 ?_
  refine z_gen (fun σ14 eσ14 => ?_)
  have hf := bd_to eσ14 hf
  exact z_vret h (rt_V hf hq) dX6_takeMoment_102
set_option maxHeartbeats 4000000 in
set_option maxRecDepth 100000 in
theorem k_X6_takeMoment_b60 {l : Launch} {Y : ZY} {G : ZG} {σ' : ZS} (h : zOk (l, rm_X6_takeMoment, 11, 0, 0) Y G cX6_takeMoment RX6 none) (hq : zRet (l, rm_X6_takeMoment, 11, 0, 0) Y G none σ') (N : Nat) (x1 : Int32) (x2 : Int32) (x7 : Int64) (x9 : Int64) (σ : ZS) (hf : f_X6_takeMoment_b60 N x1 x2 x7 x9 σ = some ((), σ')) : Z (l, rm_X6_takeMoment, 11, 0, 0) Y G σ [(0, .ref (G.1 1067)), (1, .int x1), (2, .int x2), (7, .long x7), (9, .long x9)] [] 60 := by
  rw [f_X6_takeMoment_b60] at hf
  refine z_iload_n h dX6_takeMoment_60 rfl 2 rfl ?_
  refine z_if_ne h (tgt := 86) dX6_takeMoment_61 (by decide) (fun g10 => ?_) (fun g10 => ?_)
  · have hf := it_neg g10 hf
    exact z_sub [0, 1, 3, 4] rfl (k_X6_takeMoment_b86 h hq N x1 x7 x9 _ hf)
  · have hf := it_pos g10 hf
    refine z_lload h dX6_takeMoment_64 3 rfl ?_
    refine z_lload h dX6_takeMoment_66 4 rfl ?_
    refine z_aload_n h dX6_takeMoment_68 rfl 0 rfl ?_
    refine z_gfR h zC6 (d := 1102) (c := 1067) tg_1067 ln_1067 49 rfl ft_6_49 rf_1067_49 wd_125 dX6_takeMoment_69 ?_
    refine z_iload_n h dX6_takeMoment_72 rfl 1 rfl ?_
    obtain ⟨g15, hf⟩ := ck_out hf
    refine z_lald h (c := 1102) tg_1102 ln_1102 g15 dX6_takeMoment_73 ?_
    refine z_aload_n h dX6_takeMoment_74 rfl 0 rfl ?_
    refine z_gfR h zC6 (d := 1103) (c := 1067) tg_1067 ln_1067 50 rfl ft_6_50 rf_1067_50 wd_126 dX6_takeMoment_75 ?_
    refine z_iload_n h dX6_takeMoment_78 rfl 1 rfl ?_
    obtain ⟨g16, hf⟩ := ck_out hf
    refine z_lald h (c := 1103) tg_1103 ln_1103 g16 dX6_takeMoment_79 ?_
    obtain ⟨v17, σ18, e18, hf⟩ := obd_out hf
    refine z_cSv h (n := 4) (c_X6_compare l G e18) rfl wd_682 wd_683 wd_5 wd_684 (by decide +kernel) ⟨rfl, rfl⟩ rfl rfl rfl dX6_takeMoment_80 ⟨Nat.zero_le _, Nat.zero_le _⟩ ?_
    refine z_if_ge h (tgt := 102) dX6_takeMoment_83 (by decide) (fun g19 => ?_) (fun g19 => ?_)
    · have hf := it_pos g19 hf
      exact z_vret h (rt_V hf hq) dX6_takeMoment_102
    · have hf := it_neg g19 hf
      exact z_sub [0, 1, 3, 4] rfl (k_X6_takeMoment_b86 h hq N x1 x7 x9 _ hf)
set_option maxHeartbeats 4000000 in
set_option maxRecDepth 100000 in
theorem k_X6_takeMoment_b44 {l : Launch} {Y : ZY} {G : ZG} {σ' : ZS} (h : zOk (l, rm_X6_takeMoment, 11, 0, 0) Y G cX6_takeMoment RX6 none) (hq : zRet (l, rm_X6_takeMoment, 11, 0, 0) Y G none σ') (N : Nat) (x1 : Int32) (x2 : Int32) (x7 : Int64) (x9 : Int64) (σ : ZS) (hf : f_X6_takeMoment_b44 N x1 x2 x7 x9 σ = some ((), σ')) : Z (l, rm_X6_takeMoment, 11, 0, 0) Y G σ [(0, .ref (G.1 1067)), (1, .int x1), (2, .int x2), (7, .long x7), (9, .long x9)] [] 44 := by
  rw [f_X6_takeMoment_b44] at hf
  refine z_aload_n h dX6_takeMoment_44 rfl 0 rfl ?_
  refine z_gfR h zC6 (d := 1100) (c := 1067) tg_1067 ln_1067 47 rfl ft_6_47 rf_1067_47 wd_123 dX6_takeMoment_45 ?_
  refine z_iload_n h dX6_takeMoment_48 rfl 1 rfl ?_
  refine z_lload h dX6_takeMoment_49 3 rfl ?_
  obtain ⟨g6, hf⟩ := ck_out hf
  refine z_last h (c := 1100) tg_1100 ln_1100 g6 dX6_takeMoment_51 ?_
  refine z_gen (fun σ7 eσ7 => ?_)
  have hf := bd_to eσ7 hf
  refine z_aload_n h dX6_takeMoment_52 rfl 0 rfl ?_
  refine z_gfR h zC6 (d := 1101) (c := 1067) tg_1067 ln_1067 48 rfl ft_6_48 rf_1067_48 wd_124 dX6_takeMoment_53 ?_
  refine z_iload_n h dX6_takeMoment_56 rfl 1 rfl ?_
  refine z_lload h dX6_takeMoment_57 4 rfl ?_
  obtain ⟨g8, hf⟩ := ck_out hf
  refine z_last h (c := 1101) tg_1101 ln_1101 g8 dX6_takeMoment_59 ?_
  refine z_gen (fun σ9 eσ9 => ?_)
  have hf := bd_to eσ9 hf
  exact z_sub [0, 1, 2, 3, 4] rfl (k_X6_takeMoment_b60 h hq N x1 x2 x7 x9 _ hf)
set_option maxHeartbeats 4000000 in
set_option maxRecDepth 100000 in
theorem c_X6_takeMoment (l : Launch) (G : ZG) {N : Nat} {x1 : Int32} {x2 : Int32} {x3 : Int64} {x5 : Int64} {σ σ' : ZS} {r : Unit} (hf : f_X6_takeMoment N x1 x2 x3 x5 σ = some (r, σ')) : zMet l G yX6_takeMoment cX6_takeMoment 11 none rm_X6_takeMoment [.ref (G.1 1067), .int x1, .int x2, .long x3, .long x5] σ none σ' := by
  refine z_met (by decide +kernel) rfl (fun Y h hq => ?_)
  have h : zOk (l, rm_X6_takeMoment, 11, 0, 0) Y G cX6_takeMoment RX6 none := h
  rw [f_X6_takeMoment] at hf
  refine z_sub (lv' := [(0, .ref (G.1 1067)), (1, .int x1), (2, .int x2), (3, .long x3), (5, .long x5)]) [0, 1, 2, 3, 4] rfl ?_
  refine z_lload_n h dX6_takeMoment_0 rfl 3 rfl ?_
  refine z_lload h dX6_takeMoment_1 4 rfl ?_
  refine z_iconst h (v := (0 : Int32)) dX6_takeMoment_3 ic_0 ?_
  obtain ⟨v1, σ2, e2, hf⟩ := obd_out hf
  refine z_cSv h (n := 3) (c_X6_part l G e2) rfl wd_551 wd_552 wd_5 wd_553 (by decide +kernel) ⟨rfl, rfl⟩ rfl rfl rfl dX6_takeMoment_4 ⟨Nat.zero_le _, Nat.zero_le _⟩ ?_
  refine z_lstore h dX6_takeMoment_7 (lv' := [(7, .long v1), (0, .ref (G.1 1067)), (1, .int x1), (2, .int x2), (3, .long x3), (5, .long x5)]) rfl rfl ?_
  refine z_lload_n h dX6_takeMoment_9 rfl 4 rfl ?_
  refine z_lload h dX6_takeMoment_10 5 rfl ?_
  refine z_iconst h (v := (1 : Int32)) dX6_takeMoment_12 ic_1 ?_
  obtain ⟨v3, σ4, e4, hf⟩ := obd_out hf
  refine z_cSv h (n := 3) (c_X6_part l G e4) rfl wd_551 wd_552 wd_5 wd_553 (by decide +kernel) ⟨rfl, rfl⟩ rfl rfl rfl dX6_takeMoment_13 ⟨Nat.zero_le _, Nat.zero_le _⟩ ?_
  refine z_lstore h dX6_takeMoment_16 (lv' := [(9, .long v3), (7, .long v1), (0, .ref (G.1 1067)), (1, .int x1), (2, .int x2), (3, .long x3), (5, .long x5)]) rfl rfl ?_
  refine z_iload_n h dX6_takeMoment_18 rfl 4 rfl ?_
  refine z_if_ne h (tgt := 44) dX6_takeMoment_19 (by decide) (fun g5 => ?_) (fun g5 => ?_)
  · have hf := it_neg g5 hf
    exact z_sub [2, 3, 4, 1, 0] rfl (k_X6_takeMoment_b44 h hq N x1 x2 v1 v3 _ hf)
  · have hf := it_pos g5 hf
    refine z_lload h dX6_takeMoment_22 1 rfl ?_
    refine z_lload h dX6_takeMoment_24 0 rfl ?_
    refine z_aload_n h dX6_takeMoment_26 rfl 2 rfl ?_
    refine z_gfR h zC6 (d := 1100) (c := 1067) tg_1067 ln_1067 47 rfl ft_6_47 rf_1067_47 wd_123 dX6_takeMoment_27 ?_
    refine z_iload_n h dX6_takeMoment_30 rfl 3 rfl ?_
    obtain ⟨g20, hf⟩ := ck_out hf
    refine z_lald h (c := 1100) tg_1100 ln_1100 g20 dX6_takeMoment_31 ?_
    refine z_aload_n h dX6_takeMoment_32 rfl 2 rfl ?_
    refine z_gfR h zC6 (d := 1101) (c := 1067) tg_1067 ln_1067 48 rfl ft_6_48 rf_1067_48 wd_124 dX6_takeMoment_33 ?_
    refine z_iload_n h dX6_takeMoment_36 rfl 3 rfl ?_
    obtain ⟨g21, hf⟩ := ck_out hf
    refine z_lald h (c := 1101) tg_1101 ln_1101 g21 dX6_takeMoment_37 ?_
    obtain ⟨v22, σ23, e23, hf⟩ := obd_out hf
    refine z_cSv h (n := 4) (c_X6_compare l G e23) rfl wd_682 wd_683 wd_5 wd_684 (by decide +kernel) ⟨rfl, rfl⟩ rfl rfl rfl dX6_takeMoment_38 ⟨Nat.zero_le _, Nat.zero_le _⟩ ?_
    refine z_if_le h (tgt := 60) dX6_takeMoment_41 (by decide) (fun g24 => ?_) (fun g24 => ?_)
    · have hf := it_pos g24 hf
      exact z_sub [2, 3, 4, 1, 0] rfl (k_X6_takeMoment_b60 h hq N x1 x2 v1 v3 _ hf)
    · have hf := it_neg g24 hf
      exact z_sub [2, 3, 4, 1, 0] rfl (k_X6_takeMoment_b44 h hq N x1 x2 v1 v3 _ hf)
theorem dX6_takeMoments_0 : decode cX6_takeMoments 0 = .ok (.iconst 0, 1) := by decide +kernel
theorem dX6_takeMoments_1 : decode cX6_takeMoments 1 = .ok (.istore_n 2, 1) := by decide +kernel
theorem dX6_takeMoments_2 : decode cX6_takeMoments 2 = .ok (.iload_n 2, 1) := by decide +kernel
theorem dX6_takeMoments_3 : decode cX6_takeMoments 3 = .ok (.aload_n 0, 1) := by decide +kernel
theorem dX6_takeMoments_4 : decode cX6_takeMoments 4 = .ok (.getfield 246, 3) := by decide +kernel
theorem dX6_takeMoments_7 : decode cX6_takeMoments 7 = .ok (.if_icmp .ge 57, 3) := by decide +kernel
theorem dX6_takeMoments_10 : decode cX6_takeMoments 10 = .ok (.aload_n 0, 1) := by decide +kernel
theorem dX6_takeMoments_11 : decode cX6_takeMoments 11 = .ok (.getfield 89, 3) := by decide +kernel
theorem dX6_takeMoments_14 : decode cX6_takeMoments 14 = .ok (.iload_n 2, 1) := by decide +kernel
theorem dX6_takeMoments_15 : decode cX6_takeMoments 15 = .ok (.iaload, 1) := by decide +kernel
theorem dX6_takeMoments_16 : decode cX6_takeMoments 16 = .ok (.istore_n 3, 1) := by decide +kernel
theorem dX6_takeMoments_17 : decode cX6_takeMoments 17 = .ok (.aload_n 0, 1) := by decide +kernel
theorem dX6_takeMoments_18 : decode cX6_takeMoments 18 = .ok (.iload_n 3, 1) := by decide +kernel
theorem dX6_takeMoments_19 : decode cX6_takeMoments 19 = .ok (.iload_n 1, 1) := by decide +kernel
theorem dX6_takeMoments_20 : decode cX6_takeMoments 20 = .ok (.aload_n 0, 1) := by decide +kernel
theorem dX6_takeMoments_21 : decode cX6_takeMoments 21 = .ok (.getfield 249, 3) := by decide +kernel
theorem dX6_takeMoments_24 : decode cX6_takeMoments 24 = .ok (.iload_n 2, 1) := by decide +kernel
theorem dX6_takeMoments_25 : decode cX6_takeMoments 25 = .ok (.ishr, 1) := by decide +kernel
theorem dX6_takeMoments_26 : decode cX6_takeMoments 26 = .ok (.iconst 1, 1) := by decide +kernel
theorem dX6_takeMoments_27 : decode cX6_takeMoments 27 = .ok (.iand, 1) := by decide +kernel
theorem dX6_takeMoments_28 : decode cX6_takeMoments 28 = .ok (.iconst 1, 1) := by decide +kernel
theorem dX6_takeMoments_29 : decode cX6_takeMoments 29 = .ok (.if_icmp .ne 16, 3) := by decide +kernel
theorem dX6_takeMoments_32 : decode cX6_takeMoments 32 = .ok (.aload_n 0, 1) := by decide +kernel
theorem dX6_takeMoments_33 : decode cX6_takeMoments 33 = .ok (.getfield 25, 3) := by decide +kernel
theorem dX6_takeMoments_36 : decode cX6_takeMoments 36 = .ok (.iload_n 3, 1) := by decide +kernel
theorem dX6_takeMoments_37 : decode cX6_takeMoments 37 = .ok (.iconst 2, 1) := by decide +kernel
theorem dX6_takeMoments_38 : decode cX6_takeMoments 38 = .ok (.idiv, 1) := by decide +kernel
theorem dX6_takeMoments_39 : decode cX6_takeMoments 39 = .ok (.iaload, 1) := by decide +kernel
theorem dX6_takeMoments_40 : decode cX6_takeMoments 40 = .ok (.ineg, 1) := by decide +kernel
theorem dX6_takeMoments_41 : decode cX6_takeMoments 41 = .ok (.i2l, 1) := by decide +kernel
theorem dX6_takeMoments_42 : decode cX6_takeMoments 42 = .ok (.goto 12, 3) := by decide +kernel
theorem dX6_takeMoments_45 : decode cX6_takeMoments 45 = .ok (.aload_n 0, 1) := by decide +kernel
theorem dX6_takeMoments_46 : decode cX6_takeMoments 46 = .ok (.getfield 25, 3) := by decide +kernel
theorem dX6_takeMoments_49 : decode cX6_takeMoments 49 = .ok (.iload_n 3, 1) := by decide +kernel
theorem dX6_takeMoments_50 : decode cX6_takeMoments 50 = .ok (.iconst 2, 1) := by decide +kernel
theorem dX6_takeMoments_51 : decode cX6_takeMoments 51 = .ok (.idiv, 1) := by decide +kernel
theorem dX6_takeMoments_52 : decode cX6_takeMoments 52 = .ok (.iaload, 1) := by decide +kernel
theorem dX6_takeMoments_53 : decode cX6_takeMoments 53 = .ok (.i2l, 1) := by decide +kernel
theorem dX6_takeMoments_54 : decode cX6_takeMoments 54 = .ok (.lconst 1, 1) := by decide +kernel
theorem dX6_takeMoments_55 : decode cX6_takeMoments 55 = .ok (.invokevirtual 345, 3) := by decide +kernel
theorem dX6_takeMoments_58 : decode cX6_takeMoments 58 = .ok (.iinc 2 1, 3) := by decide +kernel
theorem dX6_takeMoments_61 : decode cX6_takeMoments 61 = .ok (.goto (-59), 3) := by decide +kernel
theorem dX6_takeMoments_64 : decode cX6_takeMoments 64 = .ok (.iconst 0, 1) := by decide +kernel
theorem dX6_takeMoments_65 : decode cX6_takeMoments 65 = .ok (.istore_n 2, 1) := by decide +kernel
theorem dX6_takeMoments_66 : decode cX6_takeMoments 66 = .ok (.iload_n 2, 1) := by decide +kernel
theorem dX6_takeMoments_67 : decode cX6_takeMoments 67 = .ok (.iconst 2, 1) := by decide +kernel
theorem dX6_takeMoments_68 : decode cX6_takeMoments 68 = .ok (.aload_n 0, 1) := by decide +kernel
theorem dX6_takeMoments_69 : decode cX6_takeMoments 69 = .ok (.getfield 141, 3) := by decide +kernel
theorem dX6_takeMoments_72 : decode cX6_takeMoments 72 = .ok (.imul, 1) := by decide +kernel
theorem dX6_takeMoments_73 : decode cX6_takeMoments 73 = .ok (.if_icmp .ge 85, 3) := by decide +kernel
theorem dX6_takeMoments_76 : decode cX6_takeMoments 76 = .ok (.aload_n 0, 1) := by decide +kernel
theorem dX6_takeMoments_77 : decode cX6_takeMoments 77 = .ok (.getfield 79, 3) := by decide +kernel
theorem dX6_takeMoments_80 : decode cX6_takeMoments 80 = .ok (.iload_n 2, 1) := by decide +kernel
theorem dX6_takeMoments_81 : decode cX6_takeMoments 81 = .ok (.iaload, 1) := by decide +kernel
theorem dX6_takeMoments_82 : decode cX6_takeMoments 82 = .ok (.ifCond .lt 70, 3) := by decide +kernel
theorem dX6_takeMoments_85 : decode cX6_takeMoments 85 = .ok (.aload_n 0, 1) := by decide +kernel
theorem dX6_takeMoments_86 : decode cX6_takeMoments 86 = .ok (.iload_n 2, 1) := by decide +kernel
theorem dX6_takeMoments_87 : decode cX6_takeMoments 87 = .ok (.iconst 2, 1) := by decide +kernel
theorem dX6_takeMoments_88 : decode cX6_takeMoments 88 = .ok (.idiv, 1) := by decide +kernel
theorem dX6_takeMoments_89 : decode cX6_takeMoments 89 = .ok (.invokevirtual 154, 3) := by decide +kernel
theorem dX6_takeMoments_92 : decode cX6_takeMoments 92 = .ok (.i2l, 1) := by decide +kernel
theorem dX6_takeMoments_93 : decode cX6_takeMoments 93 = .ok (.aload_n 0, 1) := by decide +kernel
theorem dX6_takeMoments_94 : decode cX6_takeMoments 94 = .ok (.getfield 95, 3) := by decide +kernel
theorem dX6_takeMoments_97 : decode cX6_takeMoments 97 = .ok (.iload_n 2, 1) := by decide +kernel
theorem dX6_takeMoments_98 : decode cX6_takeMoments 98 = .ok (.laload, 1) := by decide +kernel
theorem dX6_takeMoments_99 : decode cX6_takeMoments 99 = .ok (.lmul, 1) := by decide +kernel
theorem dX6_takeMoments_100 : decode cX6_takeMoments 100 = .ok (.lstore_n 3, 1) := by decide +kernel
theorem dX6_takeMoments_101 : decode cX6_takeMoments 101 = .ok (.aload_n 0, 1) := by decide +kernel
theorem dX6_takeMoments_102 : decode cX6_takeMoments 102 = .ok (.iload_n 2, 1) := by decide +kernel
theorem dX6_takeMoments_103 : decode cX6_takeMoments 103 = .ok (.iload_n 1, 1) := by decide +kernel
theorem dX6_takeMoments_104 : decode cX6_takeMoments 104 = .ok (.aload_n 0, 1) := by decide +kernel
theorem dX6_takeMoments_105 : decode cX6_takeMoments 105 = .ok (.getfield 230, 3) := by decide +kernel
theorem dX6_takeMoments_108 : decode cX6_takeMoments 108 = .ok (.lconst 0, 1) := by decide +kernel
theorem dX6_takeMoments_109 : decode cX6_takeMoments 109 = .ok (.lcmp, 1) := by decide +kernel
theorem dX6_takeMoments_110 : decode cX6_takeMoments 110 = .ok (.ifCond .ge 8, 3) := by decide +kernel
theorem dX6_takeMoments_113 : decode cX6_takeMoments 113 = .ok (.lload_n 3, 1) := by decide +kernel
theorem dX6_takeMoments_114 : decode cX6_takeMoments 114 = .ok (.lneg, 1) := by decide +kernel
theorem dX6_takeMoments_115 : decode cX6_takeMoments 115 = .ok (.goto 4, 3) := by decide +kernel
theorem dX6_takeMoments_118 : decode cX6_takeMoments 118 = .ok (.lload_n 3, 1) := by decide +kernel
theorem dX6_takeMoments_119 : decode cX6_takeMoments 119 = .ok (.ldc2_w 218, 3) := by decide +kernel
theorem dX6_takeMoments_122 : decode cX6_takeMoments 122 = .ok (.aload_n 0, 1) := by decide +kernel
theorem dX6_takeMoments_123 : decode cX6_takeMoments 123 = .ok (.getfield 240, 3) := by decide +kernel
theorem dX6_takeMoments_126 : decode cX6_takeMoments 126 = .ok (.lmul, 1) := by decide +kernel
theorem dX6_takeMoments_127 : decode cX6_takeMoments 127 = .ok (.aload_n 0, 1) := by decide +kernel
theorem dX6_takeMoments_128 : decode cX6_takeMoments 128 = .ok (.getfield 230, 3) := by decide +kernel
theorem dX6_takeMoments_131 : decode cX6_takeMoments 131 = .ok (.lconst 0, 1) := by decide +kernel
theorem dX6_takeMoments_132 : decode cX6_takeMoments 132 = .ok (.lcmp, 1) := by decide +kernel
theorem dX6_takeMoments_133 : decode cX6_takeMoments 133 = .ok (.ifCond .ge 11, 3) := by decide +kernel
theorem dX6_takeMoments_136 : decode cX6_takeMoments 136 = .ok (.aload_n 0, 1) := by decide +kernel
theorem dX6_takeMoments_137 : decode cX6_takeMoments 137 = .ok (.getfield 230, 3) := by decide +kernel
theorem dX6_takeMoments_140 : decode cX6_takeMoments 140 = .ok (.lneg, 1) := by decide +kernel
theorem dX6_takeMoments_141 : decode cX6_takeMoments 141 = .ok (.goto 7, 3) := by decide +kernel
theorem dX6_takeMoments_144 : decode cX6_takeMoments 144 = .ok (.aload_n 0, 1) := by decide +kernel
theorem dX6_takeMoments_145 : decode cX6_takeMoments 145 = .ok (.getfield 230, 3) := by decide +kernel
theorem dX6_takeMoments_148 : decode cX6_takeMoments 148 = .ok (.lmul, 1) := by decide +kernel
theorem dX6_takeMoments_149 : decode cX6_takeMoments 149 = .ok (.invokevirtual 345, 3) := by decide +kernel
theorem dX6_takeMoments_152 : decode cX6_takeMoments 152 = .ok (.iinc 2 1, 3) := by decide +kernel
theorem dX6_takeMoments_155 : decode cX6_takeMoments 155 = .ok (.goto (-89), 3) := by decide +kernel
theorem dX6_takeMoments_158 : decode cX6_takeMoments 158 = .ok (.return_, 1) := by decide +kernel
abbrev rm_X6_takeMoments : Room := { frames := 3, cells := 0, slots := 0, locals := 124 }
noncomputable def f_X6_takeMoments_b152 (N : Nat) (kb66 : Int32 → ZS → Option (Unit × ZS)) (x1 : Int32) (x2 : Int32) (σ : ZS) : Option (Unit × ZS) := bd (x2 + (1 : Int32)) fun v5 => kb66 v5 σ
noncomputable def f_X6_takeMoments_b148 (N : Nat) (kb66 : Int32 → ZS → Option (Unit × ZS)) (x1 : Int32) (x2 : Int32) (s1 : Int32) (s2 : Int32) (s3 : Int64) (s4 : Int64) (s5 : Int64) (σ : ZS) : Option (Unit × ZS) := obd (f_X6_takeMoment N s1 s2 s3 (s4 * s5) σ) fun _ σ13 => f_X6_takeMoments_b152 N kb66 x1 x2 σ13
noncomputable def f_X6_takeMoments_b119 (N : Nat) (kb66 : Int32 → ZS → Option (Unit × ZS)) (x1 : Int32) (x2 : Int32) (s1 : Int32) (s2 : Int32) (s3 : Int64) (σ : ZS) : Option (Unit × ZS) := (if (gJ σ 1067 29) < (0 : Int64) then f_X6_takeMoments_b148 N kb66 x1 x2 s1 s2 s3 ((12 : Int64) * (gJ σ 1067 33)) (-(gJ σ 1067 29)) σ else f_X6_takeMoments_b148 N kb66 x1 x2 s1 s2 s3 ((12 : Int64) * (gJ σ 1067 33)) (gJ σ 1067 29) σ)
noncomputable def f_X6_takeMoments_h66 (N : Nat) (x1 : Int32) : Nat → Int32 → ZS → Option (Unit × ZS)
  | 0, _, _ => none
  | n + 1, x2, σ => (if ((2 : Int32) * (gI σ 1067 4)) ≤ x2 then some ((), σ) else ck (inb x2 15) ((if (gI σ 1089 (x2.toNatClampNeg)) < 0 then f_X6_takeMoments_b152 N (fun x2_ σ_ => f_X6_takeMoments_h66 N x1 n x2_ σ_) x1 x2 σ else obd (f_X6_length N (x2 / (2 : Int32)) σ) fun v6 σ7 => ck (inb x2 15) (bd ((v6.toInt64) * (gJ σ7 1093 (x2.toNatClampNeg))) fun v9 => (if (gJ σ7 1067 29) < (0 : Int64) then f_X6_takeMoments_b119 N (fun x2_ σ_ => f_X6_takeMoments_h66 N x1 n x2_ σ_) x1 x2 x2 x1 (-v9) σ7 else f_X6_takeMoments_b119 N (fun x2_ σ_ => f_X6_takeMoments_h66 N x1 n x2_ σ_) x1 x2 x2 x1 v9 σ7)))))
noncomputable def f_X6_takeMoments_b54 (N : Nat) (kb2 : Int32 → ZS → Option (Unit × ZS)) (x1 : Int32) (x2 : Int32) (s1 : Int32) (s2 : Int32) (s3 : Int64) (σ : ZS) : Option (Unit × ZS) := obd (f_X6_takeMoment N s1 s2 s3 (1 : Int64) σ) fun _ σ19 => bd (x2 + (1 : Int32)) fun v20 => kb2 v20 σ19
noncomputable def f_X6_takeMoments_h2 (N : Nat) (x1 : Int32) : Nat → Int32 → ZS → Option (Unit × ZS)
  | 0, _, _ => none
  | n + 1, x2, σ => (if (gI σ 1067 36) ≤ x2 then f_X6_takeMoments_h66 N x1 N (0 : Int32) σ else ck (inb x2 12) (bd (gI σ 1091 (x2.toNatClampNeg)) fun v15 => (if (((gI σ 1067 39) >>> (x2 &&& 31)) &&& (1 : Int32)) = (1 : Int32) then ck (inb (v15 / (2 : Int32)) 6) (f_X6_takeMoments_b54 N (fun x2_ σ_ => f_X6_takeMoments_h2 N x1 n x2_ σ_) x1 x2 v15 x1 ((-(gI σ 1073 ((v15 / (2 : Int32)).toNatClampNeg))).toInt64) σ) else ck (inb (v15 / (2 : Int32)) 6) (f_X6_takeMoments_b54 N (fun x2_ σ_ => f_X6_takeMoments_h2 N x1 n x2_ σ_) x1 x2 v15 x1 ((gI σ 1073 ((v15 / (2 : Int32)).toNatClampNeg)).toInt64) σ))))
noncomputable def f_X6_takeMoments (N : Nat) (x1 : Int32) (σ : ZS) : Option (Unit × ZS) := f_X6_takeMoments_h2 N x1 N (0 : Int32) σ
set_option maxHeartbeats 4000000 in
set_option maxRecDepth 100000 in
theorem k_X6_takeMoments_b152 {l : Launch} {Y : ZY} {G : ZG} {σ' : ZS} (h : zOk (l, rm_X6_takeMoments, 5, 0, 0) Y G cX6_takeMoments RX6 none) (hq : zRet (l, rm_X6_takeMoments, 5, 0, 0) Y G none σ') (N : Nat) {kb66 : Int32 → ZS → Option (Unit × ZS)} (x1 : Int32) (x2 : Int32) (hb66 : ∀ (x2_ : Int32) (σ_ : ZS), kb66 x2_ σ_ = some ((), σ') → Z (l, rm_X6_takeMoments, 5, 0, 0) Y G σ_ [(0, .ref (G.1 1067)), (1, .int x1), (2, .int x2_)] [] 66) (σ : ZS) (hf : f_X6_takeMoments_b152 N kb66 x1 x2 σ = some ((), σ')) : Z (l, rm_X6_takeMoments, 5, 0, 0) Y G σ [(0, .ref (G.1 1067)), (1, .int x1), (2, .int x2)] [] 152 := by
  rw [f_X6_takeMoments_b152] at hf
  obtain ⟨v5, ev5, hf⟩ := bd_ex hf
  refine z_iinc h (v := v5) (lv' := [(2, .int v5), (0, .ref (G.1 1067)), (1, .int x1)]) dX6_takeMoments_152 2 rfl (by rw [ev5]; rfl) rfl rfl ?_
  refine z_goto h (tgt := 66) dX6_takeMoments_155 (by decide) ?_
  exact z_sub [1, 2, 0] rfl (hb66 _ _ hf)
set_option maxHeartbeats 4000000 in
set_option maxRecDepth 100000 in
theorem k_X6_takeMoments_b148 {l : Launch} {Y : ZY} {G : ZG} {σ' : ZS} (h : zOk (l, rm_X6_takeMoments, 5, 0, 0) Y G cX6_takeMoments RX6 none) (hq : zRet (l, rm_X6_takeMoments, 5, 0, 0) Y G none σ') (N : Nat) {kb66 : Int32 → ZS → Option (Unit × ZS)} (x1 : Int32) (x2 : Int32) (s1 : Int32) (s2 : Int32) (s3 : Int64) (s4 : Int64) (s5 : Int64) (hb66 : ∀ (x2_ : Int32) (σ_ : ZS), kb66 x2_ σ_ = some ((), σ') → Z (l, rm_X6_takeMoments, 5, 0, 0) Y G σ_ [(0, .ref (G.1 1067)), (1, .int x1), (2, .int x2_)] [] 66) (σ : ZS) (hf : f_X6_takeMoments_b148 N kb66 x1 x2 s1 s2 s3 s4 s5 σ = some ((), σ')) : Z (l, rm_X6_takeMoments, 5, 0, 0) Y G σ [(0, .ref (G.1 1067)), (1, .int x1), (2, .int x2)] [.long s5, .long s4, .long s3, .int s2, .int s1, .ref (G.1 1067)] 148 := by
  rw [f_X6_takeMoments_b148] at hf
  refine z_lmul h dX6_takeMoments_148 ?_
  obtain ⟨v12, σ13, e13, hf⟩ := obd_out hf
  refine z_cV0 h (n := 4) (c_X6_takeMoment l G e13) zC6 tg_1067 ln_1067 rfl rfl wd_780 wd_781 wd_782 wd_5 wd_783 (by decide +kernel) ⟨rfl, rfl⟩ rfl rfl rfl dX6_takeMoments_149 ⟨Nat.zero_le _, Nat.zero_le _⟩ ?_
  exact z_sub [0, 1, 2] rfl (k_X6_takeMoments_b152 h hq N x1 x2 hb66 _ hf)
set_option maxHeartbeats 4000000 in
set_option maxRecDepth 100000 in
theorem k_X6_takeMoments_b119 {l : Launch} {Y : ZY} {G : ZG} {σ' : ZS} (h : zOk (l, rm_X6_takeMoments, 5, 0, 0) Y G cX6_takeMoments RX6 none) (hq : zRet (l, rm_X6_takeMoments, 5, 0, 0) Y G none σ') (N : Nat) {kb66 : Int32 → ZS → Option (Unit × ZS)} (x1 : Int32) (x2 : Int32) (s1 : Int32) (s2 : Int32) (s3 : Int64) (hb66 : ∀ (x2_ : Int32) (σ_ : ZS), kb66 x2_ σ_ = some ((), σ') → Z (l, rm_X6_takeMoments, 5, 0, 0) Y G σ_ [(0, .ref (G.1 1067)), (1, .int x1), (2, .int x2_)] [] 66) (σ : ZS) (hf : f_X6_takeMoments_b119 N kb66 x1 x2 s1 s2 s3 σ = some ((), σ')) : Z (l, rm_X6_takeMoments, 5, 0, 0) Y G σ [(0, .ref (G.1 1067)), (1, .int x1), (2, .int x2)] [.long s3, .int s2, .int s1, .ref (G.1 1067)] 119 := by
  rw [f_X6_takeMoments_b119] at hf
  refine z_ldc2 h (v := (12 : Int64)) wd_546 dX6_takeMoments_119 ?_
  refine z_aload_n h dX6_takeMoments_122 rfl 0 rfl ?_
  refine z_gfJ h zC6 (c := 1067) tg_1067 ln_1067 33 rfl ft_6_33 wd_639 dX6_takeMoments_123 ?_
  refine z_lmul h dX6_takeMoments_126 ?_
  refine z_aload_n h dX6_takeMoments_127 rfl 0 rfl ?_
  refine z_gfJ h zC6 (c := 1067) tg_1067 ln_1067 29 rfl ft_6_29 wd_625 dX6_takeMoments_128 ?_
  refine z_lconst h (v := (0 : Int64)) dX6_takeMoments_131 lc_0 ?_
  refine z_lif_ge h (tgt := 144) dX6_takeMoments_132 dX6_takeMoments_133 (by decide) (fun g11 => ?_) (fun g11 => ?_)
  · have hf := it_neg g11 hf
    refine z_aload_n h dX6_takeMoments_144 rfl 0 rfl ?_
    refine z_gfJ h zC6 (c := 1067) tg_1067 ln_1067 29 rfl ft_6_29 wd_625 dX6_takeMoments_145 ?_
    exact z_sub [0, 1, 2] rfl (k_X6_takeMoments_b148 h hq N x1 x2 s1 s2 s3 ((12 : Int64) * (gJ σ 1067 33)) (gJ σ 1067 29) hb66 _ hf)
  · have hf := it_pos g11 hf
    refine z_aload_n h dX6_takeMoments_136 rfl 0 rfl ?_
    refine z_gfJ h zC6 (c := 1067) tg_1067 ln_1067 29 rfl ft_6_29 wd_625 dX6_takeMoments_137 ?_
    refine z_lneg h dX6_takeMoments_140 ?_
    refine z_goto h (tgt := 148) dX6_takeMoments_141 (by decide) ?_
    exact z_sub [0, 1, 2] rfl (k_X6_takeMoments_b148 h hq N x1 x2 s1 s2 s3 ((12 : Int64) * (gJ σ 1067 33)) (-(gJ σ 1067 29)) hb66 _ hf)
set_option maxHeartbeats 4000000 in
set_option maxRecDepth 100000 in
theorem k_X6_takeMoments_h66 {l : Launch} {Y : ZY} {G : ZG} {σ' : ZS} (h : zOk (l, rm_X6_takeMoments, 5, 0, 0) Y G cX6_takeMoments RX6 none) (hq : zRet (l, rm_X6_takeMoments, 5, 0, 0) Y G none σ') (N : Nat) (x1 : Int32) : ∀ (n : Nat) (x2 : Int32) (σ : ZS), f_X6_takeMoments_h66 N x1 n x2 σ = some ((), σ') → Z (l, rm_X6_takeMoments, 5, 0, 0) Y G σ [(0, .ref (G.1 1067)), (1, .int x1), (2, .int x2)] [] 66 := by
  intro n
  induction n with
  | zero =>
    intro x2 σ hf
    rw [f_X6_takeMoments_h66] at hf
    cases hf
  | succ n ih =>
    intro x2 σ hf
    rw [f_X6_takeMoments_h66] at hf
    refine z_iload_n h dX6_takeMoments_66 rfl 2 rfl ?_
    refine z_iconst h (v := (2 : Int32)) dX6_takeMoments_67 ic_2 ?_
    refine z_aload_n h dX6_takeMoments_68 rfl 0 rfl ?_
    refine z_gfI h zC6 (c := 1067) tg_1067 ln_1067 4 rfl ft_6_4 wd_200 dX6_takeMoments_69 ?_
    refine z_imul h dX6_takeMoments_72 ?_
    refine z_icmp_ge h (tgt := 158) dX6_takeMoments_73 (by decide) (fun g2 => ?_) (fun g2 => ?_)
    · have hf := it_pos g2 hf
      exact z_vret h (rt_V hf hq) dX6_takeMoments_158
    · have hf := it_neg g2 hf
      refine z_aload_n h dX6_takeMoments_76 rfl 0 rfl ?_
      refine z_gfR h zC6 (d := 1089) (c := 1067) tg_1067 ln_1067 28 rfl ft_6_28 rf_1067_28 wd_111 dX6_takeMoments_77 ?_
      refine z_iload_n h dX6_takeMoments_80 rfl 2 rfl ?_
      obtain ⟨g3, hf⟩ := ck_out hf
      refine z_iald h (c := 1089) tg_1089 ln_1089 g3 dX6_takeMoments_81 ?_
      refine z_if_lt h (tgt := 152) dX6_takeMoments_82 (by decide) (fun g4 => ?_) (fun g4 => ?_)
      · have hf := it_pos g4 hf
        exact z_sub [0, 1, 2] rfl (k_X6_takeMoments_b152 h hq N x1 x2 (fun x2_ σ_ hf_ => ih x2_ σ_ hf_) _ hf)
      · have hf := it_neg g4 hf
        refine z_aload_n h dX6_takeMoments_85 rfl 0 rfl ?_
        refine z_iload_n h dX6_takeMoments_86 rfl 2 rfl ?_
        refine z_iconst h (v := (2 : Int32)) dX6_takeMoments_87 ic_2 ?_
        refine z_idiv h dX6_takeMoments_88 (by decide) ?_
        obtain ⟨v6, σ7, e7, hf⟩ := obd_out hf
        refine z_cVv h (n := 1) (c_X6_length l G e7) zC6 tg_1067 ln_1067 rfl rfl wd_265 wd_266 wd_267 wd_5 wd_268 (by decide +kernel) ⟨rfl, rfl⟩ rfl rfl rfl dX6_takeMoments_89 ⟨Nat.zero_le _, Nat.zero_le _⟩ ?_
        refine z_i2l h dX6_takeMoments_92 ?_
        refine z_aload_n h dX6_takeMoments_93 rfl 0 rfl ?_
        refine z_gfR h zC6 (d := 1093) (c := 1067) tg_1067 ln_1067 38 rfl ft_6_38 rf_1067_38 wd_116 dX6_takeMoments_94 ?_
        refine z_iload_n h dX6_takeMoments_97 rfl 2 rfl ?_
        obtain ⟨g8, hf⟩ := ck_out hf
        refine z_lald h (c := 1093) tg_1093 ln_1093 g8 dX6_takeMoments_98 ?_
        refine z_lmul h dX6_takeMoments_99 ?_
        refine z_topJ (fun v9 ev9 => ?_)
        have hf := bd_to ev9 hf
        refine z_lstore_n h dX6_takeMoments_100 rfl (lv' := [(3, .long v9), (0, .ref (G.1 1067)), (1, .int x1), (2, .int x2)]) rfl rfl ?_
        refine z_aload_n h dX6_takeMoments_101 rfl 1 rfl ?_
        refine z_iload_n h dX6_takeMoments_102 rfl 3 rfl ?_
        refine z_iload_n h dX6_takeMoments_103 rfl 2 rfl ?_
        refine z_aload_n h dX6_takeMoments_104 rfl 1 rfl ?_
        refine z_gfJ h zC6 (c := 1067) tg_1067 ln_1067 29 rfl ft_6_29 wd_625 dX6_takeMoments_105 ?_
        refine z_lconst h (v := (0 : Int64)) dX6_takeMoments_108 lc_0 ?_
        refine z_lif_ge h (tgt := 118) dX6_takeMoments_109 dX6_takeMoments_110 (by decide) (fun g10 => ?_) (fun g10 => ?_)
        · have hf := it_neg g10 hf
          refine z_lload_n h dX6_takeMoments_118 rfl 0 rfl ?_
          exact z_sub [1, 2, 3] rfl (k_X6_takeMoments_b119 h hq N x1 x2 x2 x1 v9 (fun x2_ σ_ hf_ => ih x2_ σ_ hf_) _ hf)
        · have hf := it_pos g10 hf
          refine z_lload_n h dX6_takeMoments_113 rfl 0 rfl ?_
          refine z_lneg h dX6_takeMoments_114 ?_
          refine z_goto h (tgt := 119) dX6_takeMoments_115 (by decide) ?_
          exact z_sub [1, 2, 3] rfl (k_X6_takeMoments_b119 h hq N x1 x2 x2 x1 (-v9) (fun x2_ σ_ hf_ => ih x2_ σ_ hf_) _ hf)
set_option maxHeartbeats 4000000 in
set_option maxRecDepth 100000 in
theorem k_X6_takeMoments_b54 {l : Launch} {Y : ZY} {G : ZG} {σ' : ZS} (h : zOk (l, rm_X6_takeMoments, 5, 0, 0) Y G cX6_takeMoments RX6 none) (hq : zRet (l, rm_X6_takeMoments, 5, 0, 0) Y G none σ') (N : Nat) {kb2 : Int32 → ZS → Option (Unit × ZS)} (x1 : Int32) (x2 : Int32) (s1 : Int32) (s2 : Int32) (s3 : Int64) (hb2 : ∀ (x2_ : Int32) (σ_ : ZS), kb2 x2_ σ_ = some ((), σ') → Z (l, rm_X6_takeMoments, 5, 0, 0) Y G σ_ [(0, .ref (G.1 1067)), (1, .int x1), (2, .int x2_)] [] 2) (σ : ZS) (hf : f_X6_takeMoments_b54 N kb2 x1 x2 s1 s2 s3 σ = some ((), σ')) : Z (l, rm_X6_takeMoments, 5, 0, 0) Y G σ [(0, .ref (G.1 1067)), (1, .int x1), (2, .int x2)] [.long s3, .int s2, .int s1, .ref (G.1 1067)] 54 := by
  rw [f_X6_takeMoments_b54] at hf
  refine z_lconst h (v := (1 : Int64)) dX6_takeMoments_54 lc_1 ?_
  obtain ⟨v18, σ19, e19, hf⟩ := obd_out hf
  refine z_cV0 h (n := 4) (c_X6_takeMoment l G e19) zC6 tg_1067 ln_1067 rfl rfl wd_780 wd_781 wd_782 wd_5 wd_783 (by decide +kernel) ⟨rfl, rfl⟩ rfl rfl rfl dX6_takeMoments_55 ⟨Nat.zero_le _, Nat.zero_le _⟩ ?_
  obtain ⟨v20, ev20, hf⟩ := bd_ex hf
  refine z_iinc h (v := v20) (lv' := [(2, .int v20), (0, .ref (G.1 1067)), (1, .int x1)]) dX6_takeMoments_58 2 rfl (by rw [ev20]; rfl) rfl rfl ?_
  refine z_goto h (tgt := 2) dX6_takeMoments_61 (by decide) ?_
  exact z_sub [1, 2, 0] rfl (hb2 _ _ hf)
set_option maxHeartbeats 4000000 in
set_option maxRecDepth 100000 in
theorem k_X6_takeMoments_h2 {l : Launch} {Y : ZY} {G : ZG} {σ' : ZS} (h : zOk (l, rm_X6_takeMoments, 5, 0, 0) Y G cX6_takeMoments RX6 none) (hq : zRet (l, rm_X6_takeMoments, 5, 0, 0) Y G none σ') (N : Nat) (x1 : Int32) : ∀ (n : Nat) (x2 : Int32) (σ : ZS), f_X6_takeMoments_h2 N x1 n x2 σ = some ((), σ') → Z (l, rm_X6_takeMoments, 5, 0, 0) Y G σ [(0, .ref (G.1 1067)), (1, .int x1), (2, .int x2)] [] 2 := by
  intro n
  induction n with
  | zero =>
    intro x2 σ hf
    rw [f_X6_takeMoments_h2] at hf
    cases hf
  | succ n ih =>
    intro x2 σ hf
    rw [f_X6_takeMoments_h2] at hf
    refine z_iload_n h dX6_takeMoments_2 rfl 2 rfl ?_
    refine z_aload_n h dX6_takeMoments_3 rfl 0 rfl ?_
    refine z_gfI h zC6 (c := 1067) tg_1067 ln_1067 36 rfl ft_6_36 wd_660 dX6_takeMoments_4 ?_
    refine z_icmp_ge h (tgt := 64) dX6_takeMoments_7 (by decide) (fun g1 => ?_) (fun g1 => ?_)
    · have hf := it_pos g1 hf
      refine z_iconst h (v := (0 : Int32)) dX6_takeMoments_64 ic_0 ?_
      refine z_istore_n h dX6_takeMoments_65 rfl (lv' := [(2, .int (0 : Int32)), (0, .ref (G.1 1067)), (1, .int x1)]) rfl rfl ?_
      exact z_sub [1, 2, 0] rfl (k_X6_takeMoments_h66 h hq N x1 _ _ _ hf)
    · have hf := it_neg g1 hf
      refine z_aload_n h dX6_takeMoments_10 rfl 0 rfl ?_
      refine z_gfR h zC6 (d := 1091) (c := 1067) tg_1067 ln_1067 35 rfl ft_6_35 rf_1067_35 wd_114 dX6_takeMoments_11 ?_
      refine z_iload_n h dX6_takeMoments_14 rfl 2 rfl ?_
      obtain ⟨g14, hf⟩ := ck_out hf
      refine z_iald h (c := 1091) tg_1091 ln_1091 g14 dX6_takeMoments_15 ?_
      refine z_topI (fun v15 ev15 => ?_)
      have hf := bd_to ev15 hf
      refine z_istore_n h dX6_takeMoments_16 rfl (lv' := [(3, .int v15), (0, .ref (G.1 1067)), (1, .int x1), (2, .int x2)]) rfl rfl ?_
      refine z_aload_n h dX6_takeMoments_17 rfl 1 rfl ?_
      refine z_iload_n h dX6_takeMoments_18 rfl 0 rfl ?_
      refine z_iload_n h dX6_takeMoments_19 rfl 2 rfl ?_
      refine z_aload_n h dX6_takeMoments_20 rfl 1 rfl ?_
      refine z_gfI h zC6 (c := 1067) tg_1067 ln_1067 39 rfl ft_6_39 wd_661 dX6_takeMoments_21 ?_
      refine z_iload_n h dX6_takeMoments_24 rfl 3 rfl ?_
      refine z_ishr h dX6_takeMoments_25 ?_
      refine z_iconst h (v := (1 : Int32)) dX6_takeMoments_26 ic_1 ?_
      refine z_iand h dX6_takeMoments_27 ?_
      refine z_iconst h (v := (1 : Int32)) dX6_takeMoments_28 ic_1 ?_
      refine z_icmp_ne h (tgt := 45) dX6_takeMoments_29 (by decide) (fun g16 => ?_) (fun g16 => ?_)
      · have hf := it_neg g16 hf
        refine z_aload_n h dX6_takeMoments_45 rfl 1 rfl ?_
        refine z_gfR h zC6 (d := 1073) (c := 1067) tg_1067 ln_1067 7 rfl ft_6_7 rf_1067_7 wd_93 dX6_takeMoments_46 ?_
        refine z_iload_n h dX6_takeMoments_49 rfl 0 rfl ?_
        refine z_iconst h (v := (2 : Int32)) dX6_takeMoments_50 ic_2 ?_
        refine z_idiv h dX6_takeMoments_51 (by decide) ?_
        obtain ⟨g17, hf⟩ := ck_out hf
        refine z_iald h (c := 1073) tg_1073 ln_1073 g17 dX6_takeMoments_52 ?_
        refine z_i2l h dX6_takeMoments_53 ?_
        exact z_sub [1, 2, 3] rfl (k_X6_takeMoments_b54 h hq N x1 x2 v15 x1 ((gI σ 1073 ((v15 / (2 : Int32)).toNatClampNeg)).toInt64) (fun x2_ σ_ hf_ => ih x2_ σ_ hf_) _ hf)
      · have hf := it_pos g16 hf
        refine z_aload_n h dX6_takeMoments_32 rfl 1 rfl ?_
        refine z_gfR h zC6 (d := 1073) (c := 1067) tg_1067 ln_1067 7 rfl ft_6_7 rf_1067_7 wd_93 dX6_takeMoments_33 ?_
        refine z_iload_n h dX6_takeMoments_36 rfl 0 rfl ?_
        refine z_iconst h (v := (2 : Int32)) dX6_takeMoments_37 ic_2 ?_
        refine z_idiv h dX6_takeMoments_38 (by decide) ?_
        obtain ⟨g21, hf⟩ := ck_out hf
        refine z_iald h (c := 1073) tg_1073 ln_1073 g21 dX6_takeMoments_39 ?_
        refine z_ineg h dX6_takeMoments_40 ?_
        refine z_i2l h dX6_takeMoments_41 ?_
        refine z_goto h (tgt := 54) dX6_takeMoments_42 (by decide) ?_
        exact z_sub [1, 2, 3] rfl (k_X6_takeMoments_b54 h hq N x1 x2 v15 x1 ((-(gI σ 1073 ((v15 / (2 : Int32)).toNatClampNeg))).toInt64) (fun x2_ σ_ hf_ => ih x2_ σ_ hf_) _ hf)
set_option maxHeartbeats 4000000 in
set_option maxRecDepth 100000 in
theorem c_X6_takeMoments (l : Launch) (G : ZG) {N : Nat} {x1 : Int32} {σ σ' : ZS} {r : Unit} (hf : f_X6_takeMoments N x1 σ = some (r, σ')) : zMet l G yX6_takeMoments cX6_takeMoments 5 none rm_X6_takeMoments [.ref (G.1 1067), .int x1] σ none σ' := by
  refine z_met (by decide +kernel) rfl (fun Y h hq => ?_)
  have h : zOk (l, rm_X6_takeMoments, 5, 0, 0) Y G cX6_takeMoments RX6 none := h
  rw [f_X6_takeMoments] at hf
  refine z_sub (lv' := [(0, .ref (G.1 1067)), (1, .int x1)]) [0, 1] rfl ?_
  refine z_iconst h (v := (0 : Int32)) dX6_takeMoments_0 ic_0 ?_
  refine z_istore_n h dX6_takeMoments_1 rfl (lv' := [(2, .int (0 : Int32)), (0, .ref (G.1 1067)), (1, .int x1)]) rfl rfl ?_
  exact z_sub [1, 2, 0] rfl (k_X6_takeMoments_h2 h hq N x1 _ _ _ hf)
theorem dX6_layMoments_0 : decode cX6_layMoments 0 = .ok (.aload_n 0, 1) := by decide +kernel
theorem dX6_layMoments_1 : decode cX6_layMoments 1 = .ok (.invokevirtual 283, 3) := by decide +kernel
theorem dX6_layMoments_4 : decode cX6_layMoments 4 = .ok (.aload_n 0, 1) := by decide +kernel
theorem dX6_layMoments_5 : decode cX6_layMoments 5 = .ok (.getfield 110, 3) := by decide +kernel
theorem dX6_layMoments_8 : decode cX6_layMoments 8 = .ok (.iconst 2, 1) := by decide +kernel
theorem dX6_layMoments_9 : decode cX6_layMoments 9 = .ok (.iload_n 1, 1) := by decide +kernel
theorem dX6_layMoments_10 : decode cX6_layMoments 10 = .ok (.imul, 1) := by decide +kernel
theorem dX6_layMoments_11 : decode cX6_layMoments 11 = .ok (.iload_n 2, 1) := by decide +kernel
theorem dX6_layMoments_12 : decode cX6_layMoments 12 = .ok (.iadd, 1) := by decide +kernel
theorem dX6_layMoments_13 : decode cX6_layMoments 13 = .ok (.laload, 1) := by decide +kernel
theorem dX6_layMoments_14 : decode cX6_layMoments 14 = .ok (.lstore_n 3, 1) := by decide +kernel
theorem dX6_layMoments_15 : decode cX6_layMoments 15 = .ok (.aload_n 0, 1) := by decide +kernel
theorem dX6_layMoments_16 : decode cX6_layMoments 16 = .ok (.getfield 113, 3) := by decide +kernel
theorem dX6_layMoments_19 : decode cX6_layMoments 19 = .ok (.iconst 2, 1) := by decide +kernel
theorem dX6_layMoments_20 : decode cX6_layMoments 20 = .ok (.iload_n 1, 1) := by decide +kernel
theorem dX6_layMoments_21 : decode cX6_layMoments 21 = .ok (.imul, 1) := by decide +kernel
theorem dX6_layMoments_22 : decode cX6_layMoments 22 = .ok (.iload_n 2, 1) := by decide +kernel
theorem dX6_layMoments_23 : decode cX6_layMoments 23 = .ok (.iadd, 1) := by decide +kernel
theorem dX6_layMoments_24 : decode cX6_layMoments 24 = .ok (.laload, 1) := by decide +kernel
theorem dX6_layMoments_25 : decode cX6_layMoments 25 = .ok (.lstore 5, 2) := by decide +kernel
theorem dX6_layMoments_27 : decode cX6_layMoments 27 = .ok (.aload_n 0, 1) := by decide +kernel
theorem dX6_layMoments_28 : decode cX6_layMoments 28 = .ok (.lload 5, 2) := by decide +kernel
theorem dX6_layMoments_30 : decode cX6_layMoments 30 = .ok (.iload_n 1, 1) := by decide +kernel
theorem dX6_layMoments_31 : decode cX6_layMoments 31 = .ok (.iconst 1, 1) := by decide +kernel
theorem dX6_layMoments_32 : decode cX6_layMoments 32 = .ok (.if_icmp .ne 7, 3) := by decide +kernel
theorem dX6_layMoments_35 : decode cX6_layMoments 35 = .ok (.lload_n 3, 1) := by decide +kernel
theorem dX6_layMoments_36 : decode cX6_layMoments 36 = .ok (.goto 4, 3) := by decide +kernel
theorem dX6_layMoments_39 : decode cX6_layMoments 39 = .ok (.lconst 0, 1) := by decide +kernel
theorem dX6_layMoments_40 : decode cX6_layMoments 40 = .ok (.iload_n 1, 1) := by decide +kernel
theorem dX6_layMoments_41 : decode cX6_layMoments 41 = .ok (.iconst 2, 1) := by decide +kernel
theorem dX6_layMoments_42 : decode cX6_layMoments 42 = .ok (.if_icmp .ne 7, 3) := by decide +kernel
theorem dX6_layMoments_45 : decode cX6_layMoments 45 = .ok (.lload_n 3, 1) := by decide +kernel
theorem dX6_layMoments_46 : decode cX6_layMoments 46 = .ok (.goto 4, 3) := by decide +kernel
theorem dX6_layMoments_49 : decode cX6_layMoments 49 = .ok (.lconst 0, 1) := by decide +kernel
theorem dX6_layMoments_50 : decode cX6_layMoments 50 = .ok (.lload 5, 2) := by decide +kernel
theorem dX6_layMoments_52 : decode cX6_layMoments 52 = .ok (.invokevirtual 263, 3) := by decide +kernel
theorem dX6_layMoments_55 : decode cX6_layMoments 55 = .ok (.iconst 0, 1) := by decide +kernel
theorem dX6_layMoments_56 : decode cX6_layMoments 56 = .ok (.istore 7, 2) := by decide +kernel
theorem dX6_layMoments_58 : decode cX6_layMoments 58 = .ok (.iconst 0, 1) := by decide +kernel
theorem dX6_layMoments_59 : decode cX6_layMoments 59 = .ok (.istore 8, 2) := by decide +kernel
theorem dX6_layMoments_61 : decode cX6_layMoments 61 = .ok (.iload 8, 2) := by decide +kernel
theorem dX6_layMoments_63 : decode cX6_layMoments 63 = .ok (.iconst 1, 1) := by decide +kernel
theorem dX6_layMoments_64 : decode cX6_layMoments 64 = .ok (.iconst 2, 1) := by decide +kernel
theorem dX6_layMoments_65 : decode cX6_layMoments 65 = .ok (.aload_n 0, 1) := by decide +kernel
theorem dX6_layMoments_66 : decode cX6_layMoments 66 = .ok (.getfield 141, 3) := by decide +kernel
theorem dX6_layMoments_69 : decode cX6_layMoments 69 = .ok (.imul, 1) := by decide +kernel
theorem dX6_layMoments_70 : decode cX6_layMoments 70 = .ok (.ishl, 1) := by decide +kernel
theorem dX6_layMoments_71 : decode cX6_layMoments 71 = .ok (.if_icmp .ge 77, 3) := by decide +kernel
theorem dX6_layMoments_74 : decode cX6_layMoments 74 = .ok (.iload 8, 2) := by decide +kernel
theorem dX6_layMoments_76 : decode cX6_layMoments 76 = .ok (.invokestatic 267, 3) := by decide +kernel
theorem dX6_layMoments_79 : decode cX6_layMoments 79 = .ok (.aload_n 0, 1) := by decide +kernel
theorem dX6_layMoments_80 : decode cX6_layMoments 80 = .ok (.getfield 165, 3) := by decide +kernel
theorem dX6_layMoments_83 : decode cX6_layMoments 83 = .ok (.if_icmp .ne 59, 3) := by decide +kernel
theorem dX6_layMoments_86 : decode cX6_layMoments 86 = .ok (.aload_n 0, 1) := by decide +kernel
theorem dX6_layMoments_87 : decode cX6_layMoments 87 = .ok (.iload 8, 2) := by decide +kernel
theorem dX6_layMoments_89 : decode cX6_layMoments 89 = .ok (.invokevirtual 270, 3) := by decide +kernel
theorem dX6_layMoments_92 : decode cX6_layMoments 92 = .ok (.ifCond .eq 50, 3) := by decide +kernel
theorem dX6_layMoments_95 : decode cX6_layMoments 95 = .ok (.aload_n 0, 1) := by decide +kernel
theorem dX6_layMoments_96 : decode cX6_layMoments 96 = .ok (.iload 8, 2) := by decide +kernel
theorem dX6_layMoments_98 : decode cX6_layMoments 98 = .ok (.invokevirtual 273, 3) := by decide +kernel
theorem dX6_layMoments_101 : decode cX6_layMoments 101 = .ok (.iconst 1, 1) := by decide +kernel
theorem dX6_layMoments_102 : decode cX6_layMoments 102 = .ok (.istore 9, 2) := by decide +kernel
theorem dX6_layMoments_104 : decode cX6_layMoments 104 = .ok (.iload 9, 2) := by decide +kernel
theorem dX6_layMoments_106 : decode cX6_layMoments 106 = .ok (.ifCond .eq 36, 3) := by decide +kernel
theorem dX6_layMoments_109 : decode cX6_layMoments 109 = .ok (.aload_n 0, 1) := by decide +kernel
theorem dX6_layMoments_110 : decode cX6_layMoments 110 = .ok (.invokevirtual 276, 3) := by decide +kernel
theorem dX6_layMoments_113 : decode cX6_layMoments 113 = .ok (.ifCond .eq 20, 3) := by decide +kernel
theorem dX6_layMoments_116 : decode cX6_layMoments 116 = .ok (.aload_n 0, 1) := by decide +kernel
theorem dX6_layMoments_117 : decode cX6_layMoments 117 = .ok (.iload 7, 2) := by decide +kernel
theorem dX6_layMoments_119 : decode cX6_layMoments 119 = .ok (.ifCond .ne 7, 3) := by decide +kernel
theorem dX6_layMoments_122 : decode cX6_layMoments 122 = .ok (.iconst 1, 1) := by decide +kernel
theorem dX6_layMoments_123 : decode cX6_layMoments 123 = .ok (.goto 4, 3) := by decide +kernel
theorem dX6_layMoments_126 : decode cX6_layMoments 126 = .ok (.iconst 0, 1) := by decide +kernel
theorem dX6_layMoments_127 : decode cX6_layMoments 127 = .ok (.invokevirtual 348, 3) := by decide +kernel
theorem dX6_layMoments_130 : decode cX6_layMoments 130 = .ok (.iconst 1, 1) := by decide +kernel
theorem dX6_layMoments_131 : decode cX6_layMoments 131 = .ok (.istore 7, 2) := by decide +kernel
theorem dX6_layMoments_133 : decode cX6_layMoments 133 = .ok (.aload_n 0, 1) := by decide +kernel
theorem dX6_layMoments_134 : decode cX6_layMoments 134 = .ok (.invokevirtual 280, 3) := by decide +kernel
theorem dX6_layMoments_137 : decode cX6_layMoments 137 = .ok (.istore 9, 2) := by decide +kernel
theorem dX6_layMoments_139 : decode cX6_layMoments 139 = .ok (.goto (-35), 3) := by decide +kernel
theorem dX6_layMoments_142 : decode cX6_layMoments 142 = .ok (.iinc 8 1, 3) := by decide +kernel
theorem dX6_layMoments_145 : decode cX6_layMoments 145 = .ok (.goto (-84), 3) := by decide +kernel
theorem dX6_layMoments_148 : decode cX6_layMoments 148 = .ok (.return_, 1) := by decide +kernel
abbrev rm_X6_layMoments : Room := { frames := 4, cells := 0, slots := 0, locals := 156 }
noncomputable def f_X6_layMoments_b142 (N : Nat) (kb61 : Int32 → Int32 → ZS → Option (Unit × ZS)) (x7 : Int32) (x8 : Int32) (σ : ZS) : Option (Unit × ZS) := bd (x8 + (1 : Int32)) fun v15 => kb61 x7 v15 σ
noncomputable def f_X6_layMoments_b133 (N : Nat) (kb104 : Int32 → Int32 → ZS → Option (Unit × ZS)) (x7 : Int32) (x8 : Int32) (σ : ZS) : Option (Unit × ZS) := obd (f_X6_isNext N σ) fun v25 σ26 => kb104 x7 v25 σ26
noncomputable def f_X6_layMoments_b127 (N : Nat) (kb104 : Int32 → Int32 → ZS → Option (Unit × ZS)) (x8 : Int32) (s1 : Int32) (σ : ZS) : Option (Unit × ZS) := obd (f_X6_takeMoments N s1 σ) fun _ σ29 => f_X6_layMoments_b133 N kb104 (1 : Int32) x8 σ29
noncomputable def f_X6_layMoments_h104 (N : Nat) (kb61 : Int32 → Int32 → ZS → Option (Unit × ZS)) (x8 : Int32) : Nat → Int32 → Int32 → ZS → Option (Unit × ZS)
  | 0, _, _, _ => none
  | n + 1, x7, x9, σ => (if x9 = 0 then f_X6_layMoments_b142 N kb61 x7 x8 σ else obd (f_X6_isWithin N σ) fun v22 σ23 => (if v22 = 0 then f_X6_layMoments_b133 N (fun x7_ x9_ σ_ => f_X6_layMoments_h104 N kb61 x8 n x7_ x9_ σ_) x7 x8 σ23 else (if x7 = 0 then f_X6_layMoments_b127 N (fun x7_ x9_ σ_ => f_X6_layMoments_h104 N kb61 x8 n x7_ x9_ σ_) x8 (1 : Int32) σ23 else f_X6_layMoments_b127 N (fun x7_ x9_ σ_ => f_X6_layMoments_h104 N kb61 x8 n x7_ x9_ σ_) x8 (0 : Int32) σ23)))
noncomputable def f_X6_layMoments_h61 (N : Nat) : Nat → Int32 → Int32 → ZS → Option (Unit × ZS)
  | 0, _, _, _ => none
  | n + 1, x7, x8, σ => (if ((1 : Int32) <<< (((2 : Int32) * (gI σ 1067 4)) &&& 31)) ≤ x8 then some ((), σ) else obd (f_X6_bits N x8 σ) fun v12 σ13 => (if v12 = (gI σ13 1067 10) then obd (f_X6_isSolved N x8 σ13) fun v16 σ17 => (if v16 = 0 then f_X6_layMoments_b142 N (fun x7_ x8_ σ_ => f_X6_layMoments_h61 N n x7_ x8_ σ_) x7 x8 σ17 else obd (f_X6_begin N x8 σ17) fun _ σ20 => f_X6_layMoments_h104 N (fun x7_ x8_ σ_ => f_X6_layMoments_h61 N n x7_ x8_ σ_) x8 N x7 (1 : Int32) σ20) else f_X6_layMoments_b142 N (fun x7_ x8_ σ_ => f_X6_layMoments_h61 N n x7_ x8_ σ_) x7 x8 σ13))
noncomputable def f_X6_layMoments_b50 (N : Nat) (x5 : Int64) (s1 : Int64) (s2 : Int64) (s3 : Int64) (σ : ZS) : Option (Unit × ZS) := obd (f_X6_take N s1 s2 s3 x5 σ) fun _ σ10 => f_X6_layMoments_h61 N N (0 : Int32) (0 : Int32) σ10
noncomputable def f_X6_layMoments_b40 (N : Nat) (x1 : Int32) (x3 : Int64) (x5 : Int64) (s1 : Int64) (s2 : Int64) (σ : ZS) : Option (Unit × ZS) := (if x1 = (2 : Int32) then f_X6_layMoments_b50 N x5 s1 s2 x3 σ else f_X6_layMoments_b50 N x5 s1 s2 (0 : Int64) σ)
noncomputable def f_X6_layMoments (N : Nat) (x1 : Int32) (x2 : Int32) (σ : ZS) : Option (Unit × ZS) := obd (f_X6_layRules N σ) fun _ σ2 => ck (inb (((2 : Int32) * x1) + x2) 6) (bd (gJ σ2 1098 ((((2 : Int32) * x1) + x2).toNatClampNeg)) fun v4 => ck (inb (((2 : Int32) * x1) + x2) 6) (bd (gJ σ2 1099 ((((2 : Int32) * x1) + x2).toNatClampNeg)) fun v6 => (if x1 = (1 : Int32) then f_X6_layMoments_b40 N x1 v4 v6 v6 v4 σ2 else f_X6_layMoments_b40 N x1 v4 v6 v6 (0 : Int64) σ2)))
set_option maxHeartbeats 4000000 in
set_option maxRecDepth 100000 in
theorem k_X6_layMoments_b142 {l : Launch} {Y : ZY} {G : ZG} {σ' : ZS} (h : zOk (l, rm_X6_layMoments, 10, 0, 0) Y G cX6_layMoments RX6 none) (hq : zRet (l, rm_X6_layMoments, 10, 0, 0) Y G none σ') (N : Nat) {kb61 : Int32 → Int32 → ZS → Option (Unit × ZS)} (x7 : Int32) (x8 : Int32) (hb61 : ∀ (x7_ : Int32) (x8_ : Int32) (σ_ : ZS), kb61 x7_ x8_ σ_ = some ((), σ') → Z (l, rm_X6_layMoments, 10, 0, 0) Y G σ_ [(0, .ref (G.1 1067)), (7, .int x7_), (8, .int x8_)] [] 61) (σ : ZS) (hf : f_X6_layMoments_b142 N kb61 x7 x8 σ = some ((), σ')) : Z (l, rm_X6_layMoments, 10, 0, 0) Y G σ [(0, .ref (G.1 1067)), (7, .int x7), (8, .int x8)] [] 142 := by
  rw [f_X6_layMoments_b142] at hf
  obtain ⟨v15, ev15, hf⟩ := bd_ex hf
  refine z_iinc h (v := v15) (lv' := [(8, .int v15), (0, .ref (G.1 1067)), (7, .int x7)]) dX6_layMoments_142 2 rfl (by rw [ev15]; rfl) rfl rfl ?_
  refine z_goto h (tgt := 61) dX6_layMoments_145 (by decide) ?_
  exact z_sub [1, 2, 0] rfl (hb61 _ _ _ hf)
set_option maxHeartbeats 4000000 in
set_option maxRecDepth 100000 in
theorem k_X6_layMoments_b133 {l : Launch} {Y : ZY} {G : ZG} {σ' : ZS} (h : zOk (l, rm_X6_layMoments, 10, 0, 0) Y G cX6_layMoments RX6 none) (hq : zRet (l, rm_X6_layMoments, 10, 0, 0) Y G none σ') (N : Nat) {kb104 : Int32 → Int32 → ZS → Option (Unit × ZS)} (x7 : Int32) (x8 : Int32) (hb104 : ∀ (x7_ : Int32) (x9_ : Int32) (σ_ : ZS), kb104 x7_ x9_ σ_ = some ((), σ') → Z (l, rm_X6_layMoments, 10, 0, 0) Y G σ_ [(0, .ref (G.1 1067)), (7, .int x7_), (8, .int x8), (9, .int x9_)] [] 104) (σ : ZS) (hf : f_X6_layMoments_b133 N kb104 x7 x8 σ = some ((), σ')) : Z (l, rm_X6_layMoments, 10, 0, 0) Y G σ [(0, .ref (G.1 1067)), (7, .int x7), (8, .int x8)] [] 133 := by
  rw [f_X6_layMoments_b133] at hf
  refine z_aload_n h dX6_layMoments_133 rfl 0 rfl ?_
  obtain ⟨v25, σ26, e26, hf⟩ := obd_out hf
  refine z_cVv h (n := 0) (c_X6_isNext l G e26) zC6 tg_1067 ln_1067 rfl rfl wd_672 wd_673 wd_674 wd_5 wd_675 (by decide +kernel) ⟨rfl, rfl⟩ rfl rfl rfl dX6_layMoments_134 ⟨Nat.zero_le _, Nat.zero_le _⟩ ?_
  refine z_istore h dX6_layMoments_137 (lv' := [(9, .int v25), (0, .ref (G.1 1067)), (7, .int x7), (8, .int x8)]) rfl rfl ?_
  refine z_goto h (tgt := 104) dX6_layMoments_139 (by decide) ?_
  exact z_sub [1, 2, 3, 0] rfl (hb104 _ _ _ hf)
set_option maxHeartbeats 4000000 in
set_option maxRecDepth 100000 in
theorem k_X6_layMoments_b127 {l : Launch} {Y : ZY} {G : ZG} {σ' : ZS} (h : zOk (l, rm_X6_layMoments, 10, 0, 0) Y G cX6_layMoments RX6 none) (hq : zRet (l, rm_X6_layMoments, 10, 0, 0) Y G none σ') (N : Nat) {kb104 : Int32 → Int32 → ZS → Option (Unit × ZS)} (x8 : Int32) (s1 : Int32) (hb104 : ∀ (x7_ : Int32) (x9_ : Int32) (σ_ : ZS), kb104 x7_ x9_ σ_ = some ((), σ') → Z (l, rm_X6_layMoments, 10, 0, 0) Y G σ_ [(0, .ref (G.1 1067)), (7, .int x7_), (8, .int x8), (9, .int x9_)] [] 104) (σ : ZS) (hf : f_X6_layMoments_b127 N kb104 x8 s1 σ = some ((), σ')) : Z (l, rm_X6_layMoments, 10, 0, 0) Y G σ [(0, .ref (G.1 1067)), (8, .int x8)] [.int s1, .ref (G.1 1067)] 127 := by
  rw [f_X6_layMoments_b127] at hf
  obtain ⟨v28, σ29, e29, hf⟩ := obd_out hf
  refine z_cV0 h (n := 1) (c_X6_takeMoments l G e29) zC6 tg_1067 ln_1067 rfl rfl wd_776 wd_777 wd_778 wd_5 wd_779 (by decide +kernel) ⟨rfl, rfl⟩ rfl rfl rfl dX6_layMoments_127 ⟨Nat.zero_le _, Nat.zero_le _⟩ ?_
  refine z_iconst h (v := (1 : Int32)) dX6_layMoments_130 ic_1 ?_
  refine z_istore h dX6_layMoments_131 (lv' := [(7, .int (1 : Int32)), (0, .ref (G.1 1067)), (8, .int x8)]) rfl rfl ?_
  exact z_sub [1, 0, 2] rfl (k_X6_layMoments_b133 h hq N (1 : Int32) x8 hb104 _ hf)
set_option maxHeartbeats 4000000 in
set_option maxRecDepth 100000 in
theorem k_X6_layMoments_h104 {l : Launch} {Y : ZY} {G : ZG} {σ' : ZS} (h : zOk (l, rm_X6_layMoments, 10, 0, 0) Y G cX6_layMoments RX6 none) (hq : zRet (l, rm_X6_layMoments, 10, 0, 0) Y G none σ') (N : Nat) {kb61 : Int32 → Int32 → ZS → Option (Unit × ZS)} (x8 : Int32) (hb61 : ∀ (x7_ : Int32) (x8_ : Int32) (σ_ : ZS), kb61 x7_ x8_ σ_ = some ((), σ') → Z (l, rm_X6_layMoments, 10, 0, 0) Y G σ_ [(0, .ref (G.1 1067)), (7, .int x7_), (8, .int x8_)] [] 61) : ∀ (n : Nat) (x7 : Int32) (x9 : Int32) (σ : ZS), f_X6_layMoments_h104 N kb61 x8 n x7 x9 σ = some ((), σ') → Z (l, rm_X6_layMoments, 10, 0, 0) Y G σ [(0, .ref (G.1 1067)), (7, .int x7), (8, .int x8), (9, .int x9)] [] 104 := by
  intro n
  induction n with
  | zero =>
    intro x7 x9 σ hf
    rw [f_X6_layMoments_h104] at hf
    cases hf
  | succ n ih =>
    intro x7 x9 σ hf
    rw [f_X6_layMoments_h104] at hf
    refine z_iload h dX6_layMoments_104 3 rfl ?_
    refine z_if_eq h (tgt := 142) dX6_layMoments_106 (by decide) (fun g21 => ?_) (fun g21 => ?_)
    · have hf := it_pos g21 hf
      exact z_sub [0, 1, 2] rfl (k_X6_layMoments_b142 h hq N x7 x8 hb61 _ hf)
    · have hf := it_neg g21 hf
      refine z_aload_n h dX6_layMoments_109 rfl 0 rfl ?_
      obtain ⟨v22, σ23, e23, hf⟩ := obd_out hf
      refine z_cVv h (n := 0) (c_X6_isWithin l G e23) zC6 tg_1067 ln_1067 rfl rfl wd_668 wd_669 wd_670 wd_5 wd_671 (by decide +kernel) ⟨rfl, rfl⟩ rfl rfl rfl dX6_layMoments_110 ⟨Nat.zero_le _, Nat.zero_le _⟩ ?_
      refine z_if_eq h (tgt := 133) dX6_layMoments_113 (by decide) (fun g24 => ?_) (fun g24 => ?_)
      · have hf := it_pos g24 hf
        exact z_sub [0, 1, 2] rfl (k_X6_layMoments_b133 h hq N x7 x8 (fun x7_ x9_ σ_ hf_ => ih x7_ x9_ σ_ hf_) _ hf)
      · have hf := it_neg g24 hf
        refine z_aload_n h dX6_layMoments_116 rfl 0 rfl ?_
        refine z_iload h dX6_layMoments_117 1 rfl ?_
        refine z_if_ne h (tgt := 126) dX6_layMoments_119 (by decide) (fun g27 => ?_) (fun g27 => ?_)
        · have hf := it_neg g27 hf
          refine z_iconst h (v := (0 : Int32)) dX6_layMoments_126 ic_0 ?_
          exact z_sub [0, 2] rfl (k_X6_layMoments_b127 h hq N x8 (0 : Int32) (fun x7_ x9_ σ_ hf_ => ih x7_ x9_ σ_ hf_) _ hf)
        · have hf := it_pos g27 hf
          refine z_iconst h (v := (1 : Int32)) dX6_layMoments_122 ic_1 ?_
          refine z_goto h (tgt := 127) dX6_layMoments_123 (by decide) ?_
          exact z_sub [0, 2] rfl (k_X6_layMoments_b127 h hq N x8 (1 : Int32) (fun x7_ x9_ σ_ hf_ => ih x7_ x9_ σ_ hf_) _ hf)
set_option maxHeartbeats 4000000 in
set_option maxRecDepth 100000 in
theorem k_X6_layMoments_h61 {l : Launch} {Y : ZY} {G : ZG} {σ' : ZS} (h : zOk (l, rm_X6_layMoments, 10, 0, 0) Y G cX6_layMoments RX6 none) (hq : zRet (l, rm_X6_layMoments, 10, 0, 0) Y G none σ') (N : Nat) : ∀ (n : Nat) (x7 : Int32) (x8 : Int32) (σ : ZS), f_X6_layMoments_h61 N n x7 x8 σ = some ((), σ') → Z (l, rm_X6_layMoments, 10, 0, 0) Y G σ [(0, .ref (G.1 1067)), (7, .int x7), (8, .int x8)] [] 61 := by
  intro n
  induction n with
  | zero =>
    intro x7 x8 σ hf
    rw [f_X6_layMoments_h61] at hf
    cases hf
  | succ n ih =>
    intro x7 x8 σ hf
    rw [f_X6_layMoments_h61] at hf
    refine z_iload h dX6_layMoments_61 2 rfl ?_
    refine z_iconst h (v := (1 : Int32)) dX6_layMoments_63 ic_1 ?_
    refine z_iconst h (v := (2 : Int32)) dX6_layMoments_64 ic_2 ?_
    refine z_aload_n h dX6_layMoments_65 rfl 0 rfl ?_
    refine z_gfI h zC6 (c := 1067) tg_1067 ln_1067 4 rfl ft_6_4 wd_200 dX6_layMoments_66 ?_
    refine z_imul h dX6_layMoments_69 ?_
    refine z_ishl h dX6_layMoments_70 ?_
    refine z_icmp_ge h (tgt := 148) dX6_layMoments_71 (by decide) (fun g11 => ?_) (fun g11 => ?_)
    · have hf := it_pos g11 hf
      exact z_vret h (rt_V hf hq) dX6_layMoments_148
    · have hf := it_neg g11 hf
      refine z_iload h dX6_layMoments_74 2 rfl ?_
      obtain ⟨v12, σ13, e13, hf⟩ := obd_out hf
      refine z_cSv h (n := 1) (c_X6_bits l G e13) rfl wd_640 wd_641 wd_5 wd_642 (by decide +kernel) ⟨rfl, rfl⟩ rfl rfl rfl dX6_layMoments_76 ⟨Nat.zero_le _, Nat.zero_le _⟩ ?_
      refine z_aload_n h dX6_layMoments_79 rfl 0 rfl ?_
      refine z_gfI h zC6 (c := 1067) tg_1067 ln_1067 10 rfl ft_6_10 wd_424 dX6_layMoments_80 ?_
      refine z_icmp_ne h (tgt := 142) dX6_layMoments_83 (by decide) (fun g14 => ?_) (fun g14 => ?_)
      · have hf := it_neg g14 hf
        exact z_sub [0, 1, 2] rfl (k_X6_layMoments_b142 h hq N x7 x8 (fun x7_ x8_ σ_ hf_ => ih x7_ x8_ σ_ hf_) _ hf)
      · have hf := it_pos g14 hf
        refine z_aload_n h dX6_layMoments_86 rfl 0 rfl ?_
        refine z_iload h dX6_layMoments_87 2 rfl ?_
        obtain ⟨v16, σ17, e17, hf⟩ := obd_out hf
        refine z_cVv h (n := 1) (c_X6_isSolved l G e17) zC6 tg_1067 ln_1067 rfl rfl wd_643 wd_644 wd_645 wd_5 wd_646 (by decide +kernel) ⟨rfl, rfl⟩ rfl rfl rfl dX6_layMoments_89 ⟨Nat.zero_le _, Nat.zero_le _⟩ ?_
        refine z_if_eq h (tgt := 142) dX6_layMoments_92 (by decide) (fun g18 => ?_) (fun g18 => ?_)
        · have hf := it_pos g18 hf
          exact z_sub [0, 1, 2] rfl (k_X6_layMoments_b142 h hq N x7 x8 (fun x7_ x8_ σ_ hf_ => ih x7_ x8_ σ_ hf_) _ hf)
        · have hf := it_neg g18 hf
          refine z_aload_n h dX6_layMoments_95 rfl 0 rfl ?_
          refine z_iload h dX6_layMoments_96 2 rfl ?_
          obtain ⟨v19, σ20, e20, hf⟩ := obd_out hf
          refine z_cV0 h (n := 1) (c_X6_begin l G e20) zC6 tg_1067 ln_1067 rfl rfl wd_655 wd_656 wd_657 wd_5 wd_658 (by decide +kernel) ⟨rfl, rfl⟩ rfl rfl rfl dX6_layMoments_98 ⟨Nat.zero_le _, Nat.zero_le _⟩ ?_
          refine z_iconst h (v := (1 : Int32)) dX6_layMoments_101 ic_1 ?_
          refine z_istore h dX6_layMoments_102 (lv' := [(9, .int (1 : Int32)), (0, .ref (G.1 1067)), (7, .int x7), (8, .int x8)]) rfl rfl ?_
          exact z_sub [1, 2, 3, 0] rfl (k_X6_layMoments_h104 h hq N x8 (fun x7_ x8_ σ_ hf_ => ih x7_ x8_ σ_ hf_) _ _ _ _ hf)
set_option maxHeartbeats 4000000 in
set_option maxRecDepth 100000 in
theorem k_X6_layMoments_b50 {l : Launch} {Y : ZY} {G : ZG} {σ' : ZS} (h : zOk (l, rm_X6_layMoments, 10, 0, 0) Y G cX6_layMoments RX6 none) (hq : zRet (l, rm_X6_layMoments, 10, 0, 0) Y G none σ') (N : Nat) (x5 : Int64) (s1 : Int64) (s2 : Int64) (s3 : Int64) (σ : ZS) (hf : f_X6_layMoments_b50 N x5 s1 s2 s3 σ = some ((), σ')) : Z (l, rm_X6_layMoments, 10, 0, 0) Y G σ [(0, .ref (G.1 1067)), (5, .long x5)] [.long s3, .long s2, .long s1, .ref (G.1 1067)] 50 := by
  rw [f_X6_layMoments_b50] at hf
  refine z_lload h dX6_layMoments_50 1 rfl ?_
  obtain ⟨v9, σ10, e10, hf⟩ := obd_out hf
  refine z_cV0 h (n := 4) (c_X6_take l G e10) zC6 tg_1067 ln_1067 rfl rfl wd_635 wd_636 wd_637 wd_5 wd_638 (by decide +kernel) ⟨rfl, rfl⟩ rfl rfl rfl dX6_layMoments_52 ⟨Nat.zero_le _, Nat.zero_le _⟩ ?_
  refine z_iconst h (v := (0 : Int32)) dX6_layMoments_55 ic_0 ?_
  refine z_istore h dX6_layMoments_56 (lv' := [(7, .int (0 : Int32)), (0, .ref (G.1 1067)), (5, .long x5)]) rfl rfl ?_
  refine z_iconst h (v := (0 : Int32)) dX6_layMoments_58 ic_0 ?_
  refine z_istore h dX6_layMoments_59 (lv' := [(8, .int (0 : Int32)), (7, .int (0 : Int32)), (0, .ref (G.1 1067)), (5, .long x5)]) rfl rfl ?_
  exact z_sub [2, 1, 0] rfl (k_X6_layMoments_h61 h hq N _ _ _ _ hf)
set_option maxHeartbeats 4000000 in
set_option maxRecDepth 100000 in
theorem k_X6_layMoments_b40 {l : Launch} {Y : ZY} {G : ZG} {σ' : ZS} (h : zOk (l, rm_X6_layMoments, 10, 0, 0) Y G cX6_layMoments RX6 none) (hq : zRet (l, rm_X6_layMoments, 10, 0, 0) Y G none σ') (N : Nat) (x1 : Int32) (x3 : Int64) (x5 : Int64) (s1 : Int64) (s2 : Int64) (σ : ZS) (hf : f_X6_layMoments_b40 N x1 x3 x5 s1 s2 σ = some ((), σ')) : Z (l, rm_X6_layMoments, 10, 0, 0) Y G σ [(0, .ref (G.1 1067)), (1, .int x1), (3, .long x3), (5, .long x5)] [.long s2, .long s1, .ref (G.1 1067)] 40 := by
  rw [f_X6_layMoments_b40] at hf
  refine z_iload_n h dX6_layMoments_40 rfl 1 rfl ?_
  refine z_iconst h (v := (2 : Int32)) dX6_layMoments_41 ic_2 ?_
  refine z_icmp_ne h (tgt := 49) dX6_layMoments_42 (by decide) (fun g8 => ?_) (fun g8 => ?_)
  · have hf := it_neg g8 hf
    refine z_lconst h (v := (0 : Int64)) dX6_layMoments_49 lc_0 ?_
    exact z_sub [0, 3] rfl (k_X6_layMoments_b50 h hq N x5 s1 s2 (0 : Int64) _ hf)
  · have hf := it_pos g8 hf
    refine z_lload_n h dX6_layMoments_45 rfl 2 rfl ?_
    refine z_goto h (tgt := 50) dX6_layMoments_46 (by decide) ?_
    exact z_sub [0, 3] rfl (k_X6_layMoments_b50 h hq N x5 s1 s2 x3 _ hf)
set_option maxHeartbeats 4000000 in
set_option maxRecDepth 100000 in
theorem c_X6_layMoments (l : Launch) (G : ZG) {N : Nat} {x1 : Int32} {x2 : Int32} {σ σ' : ZS} {r : Unit} (hf : f_X6_layMoments N x1 x2 σ = some (r, σ')) : zMet l G yX6_layMoments cX6_layMoments 10 none rm_X6_layMoments [.ref (G.1 1067), .int x1, .int x2] σ none σ' := by
  refine z_met (by decide +kernel) rfl (fun Y h hq => ?_)
  have h : zOk (l, rm_X6_layMoments, 10, 0, 0) Y G cX6_layMoments RX6 none := h
  rw [f_X6_layMoments] at hf
  refine z_sub (lv' := [(0, .ref (G.1 1067)), (1, .int x1), (2, .int x2)]) [0, 1, 2] rfl ?_
  refine z_aload_n h dX6_layMoments_0 rfl 0 rfl ?_
  obtain ⟨v1, σ2, e2, hf⟩ := obd_out hf
  refine z_cV0 h (n := 0) (c_X6_layRules l G e2) zC6 tg_1067 ln_1067 rfl rfl wd_627 wd_628 wd_629 wd_5 wd_630 (by decide +kernel) ⟨rfl, rfl⟩ rfl rfl rfl dX6_layMoments_1 ⟨Nat.zero_le _, Nat.zero_le _⟩ ?_
  refine z_aload_n h dX6_layMoments_4 rfl 0 rfl ?_
  refine z_gfR h zC6 (d := 1098) (c := 1067) tg_1067 ln_1067 45 rfl ft_6_45 rf_1067_45 wd_121 dX6_layMoments_5 ?_
  refine z_iconst h (v := (2 : Int32)) dX6_layMoments_8 ic_2 ?_
  refine z_iload_n h dX6_layMoments_9 rfl 1 rfl ?_
  refine z_imul h dX6_layMoments_10 ?_
  refine z_iload_n h dX6_layMoments_11 rfl 2 rfl ?_
  refine z_iadd h dX6_layMoments_12 ?_
  obtain ⟨g3, hf⟩ := ck_out hf
  refine z_lald h (c := 1098) tg_1098 ln_1098 g3 dX6_layMoments_13 ?_
  refine z_topJ (fun v4 ev4 => ?_)
  have hf := bd_to ev4 hf
  refine z_lstore_n h dX6_layMoments_14 rfl (lv' := [(3, .long v4), (0, .ref (G.1 1067)), (1, .int x1), (2, .int x2)]) rfl rfl ?_
  refine z_aload_n h dX6_layMoments_15 rfl 1 rfl ?_
  refine z_gfR h zC6 (d := 1099) (c := 1067) tg_1067 ln_1067 46 rfl ft_6_46 rf_1067_46 wd_122 dX6_layMoments_16 ?_
  refine z_iconst h (v := (2 : Int32)) dX6_layMoments_19 ic_2 ?_
  refine z_iload_n h dX6_layMoments_20 rfl 2 rfl ?_
  refine z_imul h dX6_layMoments_21 ?_
  refine z_iload_n h dX6_layMoments_22 rfl 3 rfl ?_
  refine z_iadd h dX6_layMoments_23 ?_
  obtain ⟨g5, hf⟩ := ck_out hf
  refine z_lald h (c := 1099) tg_1099 ln_1099 g5 dX6_layMoments_24 ?_
  refine z_topJ (fun v6 ev6 => ?_)
  have hf := bd_to ev6 hf
  refine z_lstore h dX6_layMoments_25 (lv' := [(5, .long v6), (3, .long v4), (0, .ref (G.1 1067)), (1, .int x1), (2, .int x2)]) rfl rfl ?_
  refine z_aload_n h dX6_layMoments_27 rfl 2 rfl ?_
  refine z_lload h dX6_layMoments_28 0 rfl ?_
  refine z_iload_n h dX6_layMoments_30 rfl 3 rfl ?_
  refine z_iconst h (v := (1 : Int32)) dX6_layMoments_31 ic_1 ?_
  refine z_icmp_ne h (tgt := 39) dX6_layMoments_32 (by decide) (fun g7 => ?_) (fun g7 => ?_)
  · have hf := it_neg g7 hf
    refine z_lconst h (v := (0 : Int64)) dX6_layMoments_39 lc_0 ?_
    exact z_sub [2, 3, 1, 0] rfl (k_X6_layMoments_b40 h hq N x1 v4 v6 v6 (0 : Int64) _ hf)
  · have hf := it_pos g7 hf
    refine z_lload_n h dX6_layMoments_35 rfl 1 rfl ?_
    refine z_goto h (tgt := 40) dX6_layMoments_36 (by decide) ?_
    exact z_sub [2, 3, 1, 0] rfl (k_X6_layMoments_b40 h hq N x1 v4 v6 v6 v4 _ hf)
theorem dX6_moment_0 : decode cX6_moment 0 = .ok (.aload_n 0, 1) := by decide +kernel
theorem dX6_moment_1 : decode cX6_moment 1 = .ok (.iload_n 3, 1) := by decide +kernel
theorem dX6_moment_2 : decode cX6_moment 2 = .ok (.invokevirtual 321, 3) := by decide +kernel
theorem dX6_moment_5 : decode cX6_moment 5 = .ok (.ifCond .ne 7, 3) := by decide +kernel
theorem dX6_moment_8 : decode cX6_moment 8 = .ok (.ldc2_w 324, 3) := by decide +kernel
theorem dX6_moment_11 : decode cX6_moment 11 = .ok (.lreturn, 1) := by decide +kernel
theorem dX6_moment_12 : decode cX6_moment 12 = .ok (.iload_n 1, 1) := by decide +kernel
theorem dX6_moment_13 : decode cX6_moment 13 = .ok (.invokestatic 329, 3) := by decide +kernel
theorem dX6_moment_16 : decode cX6_moment 16 = .ok (.ifCond .eq 22, 3) := by decide +kernel
theorem dX6_moment_19 : decode cX6_moment 19 = .ok (.iload_n 2, 1) := by decide +kernel
theorem dX6_moment_20 : decode cX6_moment 20 = .ok (.iconst 0, 1) := by decide +kernel
theorem dX6_moment_21 : decode cX6_moment 21 = .ok (.iconst 1, 1) := by decide +kernel
theorem dX6_moment_22 : decode cX6_moment 22 = .ok (.invokestatic 137, 3) := by decide +kernel
theorem dX6_moment_25 : decode cX6_moment 25 = .ok (.ifCond .eq 13, 3) := by decide +kernel
theorem dX6_moment_28 : decode cX6_moment 28 = .ok (.iload 4, 2) := by decide +kernel
theorem dX6_moment_30 : decode cX6_moment 30 = .ok (.iconst 0, 1) := by decide +kernel
theorem dX6_moment_31 : decode cX6_moment 31 = .ok (.iconst 3, 1) := by decide +kernel
theorem dX6_moment_32 : decode cX6_moment 32 = .ok (.invokestatic 137, 3) := by decide +kernel
theorem dX6_moment_35 : decode cX6_moment 35 = .ok (.ifCond .ne 7, 3) := by decide +kernel
theorem dX6_moment_38 : decode cX6_moment 38 = .ok (.ldc2_w 317, 3) := by decide +kernel
theorem dX6_moment_41 : decode cX6_moment 41 = .ok (.lreturn, 1) := by decide +kernel
theorem dX6_moment_42 : decode cX6_moment 42 = .ok (.aload_n 0, 1) := by decide +kernel
theorem dX6_moment_43 : decode cX6_moment 43 = .ok (.iload_n 1, 1) := by decide +kernel
theorem dX6_moment_44 : decode cX6_moment 44 = .ok (.invokevirtual 334, 3) := by decide +kernel
theorem dX6_moment_47 : decode cX6_moment 47 = .ok (.istore 5, 2) := by decide +kernel
theorem dX6_moment_49 : decode cX6_moment 49 = .ok (.iload 5, 2) := by decide +kernel
theorem dX6_moment_51 : decode cX6_moment 51 = .ok (.ifCond .eq 11, 3) := by decide +kernel
theorem dX6_moment_54 : decode cX6_moment 54 = .ok (.ldc2_w 337, 3) := by decide +kernel
theorem dX6_moment_57 : decode cX6_moment 57 = .ok (.iload 5, 2) := by decide +kernel
theorem dX6_moment_59 : decode cX6_moment 59 = .ok (.i2l, 1) := by decide +kernel
theorem dX6_moment_60 : decode cX6_moment 60 = .ok (.ladd, 1) := by decide +kernel
theorem dX6_moment_61 : decode cX6_moment 61 = .ok (.lreturn, 1) := by decide +kernel
theorem dX6_moment_62 : decode cX6_moment 62 = .ok (.aload_n 0, 1) := by decide +kernel
theorem dX6_moment_63 : decode cX6_moment 63 = .ok (.iload_n 1, 1) := by decide +kernel
theorem dX6_moment_64 : decode cX6_moment 64 = .ok (.iload_n 2, 1) := by decide +kernel
theorem dX6_moment_65 : decode cX6_moment 65 = .ok (.invokevirtual 352, 3) := by decide +kernel
theorem dX6_moment_68 : decode cX6_moment 68 = .ok (.iload 4, 2) := by decide +kernel
theorem dX6_moment_70 : decode cX6_moment 70 = .ok (.ifCond .ne 12, 3) := by decide +kernel
theorem dX6_moment_73 : decode cX6_moment 73 = .ok (.aload_n 0, 1) := by decide +kernel
theorem dX6_moment_74 : decode cX6_moment 74 = .ok (.getfield 116, 3) := by decide +kernel
theorem dX6_moment_77 : decode cX6_moment 77 = .ok (.iload_n 3, 1) := by decide +kernel
theorem dX6_moment_78 : decode cX6_moment 78 = .ok (.laload, 1) := by decide +kernel
theorem dX6_moment_79 : decode cX6_moment 79 = .ok (.goto 39, 3) := by decide +kernel
theorem dX6_moment_82 : decode cX6_moment 82 = .ok (.iload 4, 2) := by decide +kernel
theorem dX6_moment_84 : decode cX6_moment 84 = .ok (.iconst 1, 1) := by decide +kernel
theorem dX6_moment_85 : decode cX6_moment 85 = .ok (.if_icmp .ne 12, 3) := by decide +kernel
theorem dX6_moment_88 : decode cX6_moment 88 = .ok (.aload_n 0, 1) := by decide +kernel
theorem dX6_moment_89 : decode cX6_moment 89 = .ok (.getfield 119, 3) := by decide +kernel
theorem dX6_moment_92 : decode cX6_moment 92 = .ok (.iload_n 3, 1) := by decide +kernel
theorem dX6_moment_93 : decode cX6_moment 93 = .ok (.laload, 1) := by decide +kernel
theorem dX6_moment_94 : decode cX6_moment 94 = .ok (.goto 24, 3) := by decide +kernel
theorem dX6_moment_97 : decode cX6_moment 97 = .ok (.iload 4, 2) := by decide +kernel
theorem dX6_moment_99 : decode cX6_moment 99 = .ok (.iconst 2, 1) := by decide +kernel
theorem dX6_moment_100 : decode cX6_moment 100 = .ok (.if_icmp .ne 12, 3) := by decide +kernel
theorem dX6_moment_103 : decode cX6_moment 103 = .ok (.aload_n 0, 1) := by decide +kernel
theorem dX6_moment_104 : decode cX6_moment 104 = .ok (.getfield 122, 3) := by decide +kernel
theorem dX6_moment_107 : decode cX6_moment 107 = .ok (.iload_n 3, 1) := by decide +kernel
theorem dX6_moment_108 : decode cX6_moment 108 = .ok (.laload, 1) := by decide +kernel
theorem dX6_moment_109 : decode cX6_moment 109 = .ok (.goto 9, 3) := by decide +kernel
theorem dX6_moment_112 : decode cX6_moment 112 = .ok (.aload_n 0, 1) := by decide +kernel
theorem dX6_moment_113 : decode cX6_moment 113 = .ok (.getfield 125, 3) := by decide +kernel
theorem dX6_moment_116 : decode cX6_moment 116 = .ok (.iload_n 3, 1) := by decide +kernel
theorem dX6_moment_117 : decode cX6_moment 117 = .ok (.laload, 1) := by decide +kernel
theorem dX6_moment_118 : decode cX6_moment 118 = .ok (.lreturn, 1) := by decide +kernel
abbrev rm_X6_moment : Room := { frames := 6, cells := 0, slots := 0, locals := 215 }
noncomputable def f_X6_moment (N : Nat) (x1 : Int32) (x2 : Int32) (x3 : Int32) (x4 : Int32) (σ : ZS) : Option (Int64 × ZS) := obd (f_X6_isEnd N x3 σ) fun v1 σ2 => (if v1 = 0 then some ((-4000000000000000001 : Int64), σ2) else obd (f_X6_isCase N x1 σ2) fun v4 σ5 => (if v4 = 0 then some ((-4000000000000000002 : Int64), σ5) else obd (f_X6_in N x2 (0 : Int32) (1 : Int32) σ5) fun v7 σ8 => (if v7 = 0 then some ((-4000000000000000002 : Int64), σ8) else obd (f_X6_in N x4 (0 : Int32) (3 : Int32) σ8) fun v10 σ11 => (if v10 = 0 then some ((-4000000000000000002 : Int64), σ11) else obd (f_X6_refusal N x1 σ11) fun v13 σ14 => (if v13 = 0 then obd (f_X6_layMoments N x1 x2 σ14) fun _ σ17 => (if x4 = 0 then ck (inb x3 12) (some (gJ σ17 1100 (x3.toNatClampNeg), σ17)) else (if x4 = (1 : Int32) then ck (inb x3 12) (some (gJ σ17 1101 (x3.toNatClampNeg), σ17)) else (if x4 = (2 : Int32) then ck (inb x3 12) (some (gJ σ17 1102 (x3.toNatClampNeg), σ17)) else ck (inb x3 12) (some (gJ σ17 1103 (x3.toNatClampNeg), σ17))))) else some ((-4000000000000000000 : Int64) + (v13.toInt64), σ14))))))
set_option maxHeartbeats 4000000 in
set_option maxRecDepth 100000 in
theorem c_X6_moment (l : Launch) (G : ZG) {N : Nat} {x1 : Int32} {x2 : Int32} {x3 : Int32} {x4 : Int32} {σ σ' : ZS} {r : Int64} (hf : f_X6_moment N x1 x2 x3 x4 σ = some (r, σ')) : zMet l G yX6_moment cX6_moment 6 (some .long) rm_X6_moment [.ref (G.1 1067), .int x1, .int x2, .int x3, .int x4] σ (some (.long r)) σ' := by
  refine z_met (by decide +kernel) rfl (fun Y h hq => ?_)
  have h : zOk (l, rm_X6_moment, 6, 0, 0) Y G cX6_moment RX6 (some .long) := h
  rw [f_X6_moment] at hf
  refine z_sub (lv' := [(0, .ref (G.1 1067)), (1, .int x1), (2, .int x2), (3, .int x3), (4, .int x4)]) [0, 1, 2, 3, 4] rfl ?_
  refine z_aload_n h dX6_moment_0 rfl 0 rfl ?_
  refine z_iload_n h dX6_moment_1 rfl 3 rfl ?_
  obtain ⟨v1, σ2, e2, hf⟩ := obd_out hf
  refine z_cVv h (n := 1) (c_X6_isEnd l G e2) zC6 tg_1067 ln_1067 rfl rfl wd_537 wd_538 wd_539 wd_5 wd_540 (by decide +kernel) ⟨rfl, rfl⟩ rfl rfl rfl dX6_moment_2 ⟨Nat.zero_le _, Nat.zero_le _⟩ ?_
  refine z_if_ne h (tgt := 12) dX6_moment_5 (by decide) (fun g3 => ?_) (fun g3 => ?_)
  · have hf := it_neg g3 hf
    refine z_iload_n h dX6_moment_12 rfl 1 rfl ?_
    obtain ⟨v4, σ5, e5, hf⟩ := obd_out hf
    refine z_cSv h (n := 1) (c_X6_isCase l G e5) rfl wd_582 wd_583 wd_5 wd_584 (by decide +kernel) ⟨rfl, rfl⟩ rfl rfl rfl dX6_moment_13 ⟨Nat.zero_le _, Nat.zero_le _⟩ ?_
    refine z_if_eq h (tgt := 38) dX6_moment_16 (by decide) (fun g6 => ?_) (fun g6 => ?_)
    · have hf := it_pos g6 hf
      refine z_ldc2 h (v := (-4000000000000000002 : Int64)) wd_534 dX6_moment_38 ?_
      exact z_lret h (rt_J hf hq) dX6_moment_41
    · have hf := it_neg g6 hf
      refine z_iload_n h dX6_moment_19 rfl 2 rfl ?_
      refine z_iconst h (v := (0 : Int32)) dX6_moment_20 ic_0 ?_
      refine z_iconst h (v := (1 : Int32)) dX6_moment_21 ic_1 ?_
      obtain ⟨v7, σ8, e8, hf⟩ := obd_out hf
      refine z_cSv h (n := 3) (c_X6_in l G e8) rfl wd_156 wd_157 wd_5 wd_158 (by decide +kernel) ⟨rfl, rfl⟩ rfl rfl rfl dX6_moment_22 ⟨Nat.zero_le _, Nat.zero_le _⟩ ?_
      refine z_if_eq h (tgt := 38) dX6_moment_25 (by decide) (fun g9 => ?_) (fun g9 => ?_)
      · have hf := it_pos g9 hf
        refine z_ldc2 h (v := (-4000000000000000002 : Int64)) wd_534 dX6_moment_38 ?_
        exact z_lret h (rt_J hf hq) dX6_moment_41
      · have hf := it_neg g9 hf
        refine z_iload h dX6_moment_28 4 rfl ?_
        refine z_iconst h (v := (0 : Int32)) dX6_moment_30 ic_0 ?_
        refine z_iconst h (v := (3 : Int32)) dX6_moment_31 ic_3 ?_
        obtain ⟨v10, σ11, e11, hf⟩ := obd_out hf
        refine z_cSv h (n := 3) (c_X6_in l G e11) rfl wd_156 wd_157 wd_5 wd_158 (by decide +kernel) ⟨rfl, rfl⟩ rfl rfl rfl dX6_moment_32 ⟨Nat.zero_le _, Nat.zero_le _⟩ ?_
        refine z_if_ne h (tgt := 42) dX6_moment_35 (by decide) (fun g12 => ?_) (fun g12 => ?_)
        · have hf := it_neg g12 hf
          refine z_aload_n h dX6_moment_42 rfl 0 rfl ?_
          refine z_iload_n h dX6_moment_43 rfl 1 rfl ?_
          obtain ⟨v13, σ14, e14, hf⟩ := obd_out hf
          refine z_cVv h (n := 1) (c_X6_refusal l G e14) zC6 tg_1067 ln_1067 rfl rfl wd_703 wd_704 wd_705 wd_5 wd_706 (by decide +kernel) ⟨rfl, rfl⟩ rfl rfl rfl dX6_moment_44 ⟨Nat.zero_le _, Nat.zero_le _⟩ ?_
          refine z_istore h dX6_moment_47 (lv' := [(5, .int v13), (0, .ref (G.1 1067)), (1, .int x1), (2, .int x2), (3, .int x3), (4, .int x4)]) rfl rfl ?_
          refine z_iload h dX6_moment_49 0 rfl ?_
          refine z_if_eq h (tgt := 62) dX6_moment_51 (by decide) (fun g15 => ?_) (fun g15 => ?_)
          · have hf := it_pos g15 hf
            refine z_aload_n h dX6_moment_62 rfl 1 rfl ?_
            refine z_iload_n h dX6_moment_63 rfl 2 rfl ?_
            refine z_iload_n h dX6_moment_64 rfl 3 rfl ?_
            obtain ⟨v16, σ17, e17, hf⟩ := obd_out hf
            refine z_cV0 h (n := 2) (c_X6_layMoments l G e17) zC6 tg_1067 ln_1067 rfl rfl wd_772 wd_773 wd_774 wd_5 wd_775 (by decide +kernel) ⟨rfl, rfl⟩ rfl rfl rfl dX6_moment_65 ⟨Nat.zero_le _, Nat.zero_le _⟩ ?_
            refine z_iload h dX6_moment_68 5 rfl ?_
            refine z_if_ne h (tgt := 82) dX6_moment_70 (by decide) (fun g18 => ?_) (fun g18 => ?_)
            · have hf := it_neg g18 hf
              refine z_iload h dX6_moment_82 5 rfl ?_
              refine z_iconst h (v := (1 : Int32)) dX6_moment_84 ic_1 ?_
              refine z_icmp_ne h (tgt := 97) dX6_moment_85 (by decide) (fun g19 => ?_) (fun g19 => ?_)
              · have hf := it_neg g19 hf
                refine z_iload h dX6_moment_97 5 rfl ?_
                refine z_iconst h (v := (2 : Int32)) dX6_moment_99 ic_2 ?_
                refine z_icmp_ne h (tgt := 112) dX6_moment_100 (by decide) (fun g20 => ?_) (fun g20 => ?_)
                · have hf := it_neg g20 hf
                  refine z_aload_n h dX6_moment_112 rfl 1 rfl ?_
                  refine z_gfR h zC6 (d := 1103) (c := 1067) tg_1067 ln_1067 50 rfl ft_6_50 rf_1067_50 wd_126 dX6_moment_113 ?_
                  refine z_iload_n h dX6_moment_116 rfl 4 rfl ?_
                  obtain ⟨g21, hf⟩ := ck_out hf
                  refine z_lald h (c := 1103) tg_1103 ln_1103 g21 dX6_moment_117 ?_
                  exact z_lret h (rt_J hf hq) dX6_moment_118
                · have hf := it_pos g20 hf
                  refine z_aload_n h dX6_moment_103 rfl 1 rfl ?_
                  refine z_gfR h zC6 (d := 1102) (c := 1067) tg_1067 ln_1067 49 rfl ft_6_49 rf_1067_49 wd_125 dX6_moment_104 ?_
                  refine z_iload_n h dX6_moment_107 rfl 4 rfl ?_
                  obtain ⟨g22, hf⟩ := ck_out hf
                  refine z_lald h (c := 1102) tg_1102 ln_1102 g22 dX6_moment_108 ?_
                  refine z_goto h (tgt := 118) dX6_moment_109 (by decide) ?_
                  exact z_lret h (rt_J hf hq) dX6_moment_118
              · have hf := it_pos g19 hf
                refine z_aload_n h dX6_moment_88 rfl 1 rfl ?_
                refine z_gfR h zC6 (d := 1101) (c := 1067) tg_1067 ln_1067 48 rfl ft_6_48 rf_1067_48 wd_124 dX6_moment_89 ?_
                refine z_iload_n h dX6_moment_92 rfl 4 rfl ?_
                obtain ⟨g23, hf⟩ := ck_out hf
                refine z_lald h (c := 1101) tg_1101 ln_1101 g23 dX6_moment_93 ?_
                refine z_goto h (tgt := 118) dX6_moment_94 (by decide) ?_
                exact z_lret h (rt_J hf hq) dX6_moment_118
            · have hf := it_pos g18 hf
              refine z_aload_n h dX6_moment_73 rfl 1 rfl ?_
              refine z_gfR h zC6 (d := 1100) (c := 1067) tg_1067 ln_1067 47 rfl ft_6_47 rf_1067_47 wd_123 dX6_moment_74 ?_
              refine z_iload_n h dX6_moment_77 rfl 4 rfl ?_
              obtain ⟨g24, hf⟩ := ck_out hf
              refine z_lald h (c := 1100) tg_1100 ln_1100 g24 dX6_moment_78 ?_
              refine z_goto h (tgt := 118) dX6_moment_79 (by decide) ?_
              exact z_lret h (rt_J hf hq) dX6_moment_118
          · have hf := it_neg g15 hf
            refine z_ldc2 h (v := (-4000000000000000000 : Int64)) wd_702 dX6_moment_54 ?_
            refine z_iload h dX6_moment_57 0 rfl ?_
            refine z_i2l h dX6_moment_59 ?_
            refine z_ladd h dX6_moment_60 ?_
            exact z_lret h (rt_J hf hq) dX6_moment_61
        · have hf := it_pos g12 hf
          refine z_ldc2 h (v := (-4000000000000000002 : Int64)) wd_534 dX6_moment_38 ?_
          exact z_lret h (rt_J hf hq) dX6_moment_41
  · have hf := it_pos g3 hf
    refine z_ldc2 h (v := (-4000000000000000001 : Int64)) wd_536 dX6_moment_8 ?_
    exact z_lret h (rt_J hf hq) dX6_moment_11
theorem dX6_yields_0 : decode cX6_yields 0 = .ok (.iload_n 1, 1) := by decide +kernel
theorem dX6_yields_1 : decode cX6_yields 1 = .ok (.invokestatic 329, 3) := by decide +kernel
theorem dX6_yields_4 : decode cX6_yields 4 = .ok (.ifCond .eq 12, 3) := by decide +kernel
theorem dX6_yields_7 : decode cX6_yields 7 = .ok (.iload_n 2, 1) := by decide +kernel
theorem dX6_yields_8 : decode cX6_yields 8 = .ok (.iconst 0, 1) := by decide +kernel
theorem dX6_yields_9 : decode cX6_yields 9 = .ok (.iconst 1, 1) := by decide +kernel
theorem dX6_yields_10 : decode cX6_yields 10 = .ok (.invokestatic 137, 3) := by decide +kernel
theorem dX6_yields_13 : decode cX6_yields 13 = .ok (.ifCond .ne 6, 3) := by decide +kernel
theorem dX6_yields_16 : decode cX6_yields 16 = .ok (.bipush (-2), 2) := by decide +kernel
theorem dX6_yields_18 : decode cX6_yields 18 = .ok (.ireturn, 1) := by decide +kernel
theorem dX6_yields_19 : decode cX6_yields 19 = .ok (.aload_n 0, 1) := by decide +kernel
theorem dX6_yields_20 : decode cX6_yields 20 = .ok (.iload_n 1, 1) := by decide +kernel
theorem dX6_yields_21 : decode cX6_yields 21 = .ok (.invokevirtual 334, 3) := by decide +kernel
theorem dX6_yields_24 : decode cX6_yields 24 = .ok (.istore_n 3, 1) := by decide +kernel
theorem dX6_yields_25 : decode cX6_yields 25 = .ok (.iload_n 3, 1) := by decide +kernel
theorem dX6_yields_26 : decode cX6_yields 26 = .ok (.ifCond .eq 5, 3) := by decide +kernel
theorem dX6_yields_29 : decode cX6_yields 29 = .ok (.iload_n 3, 1) := by decide +kernel
theorem dX6_yields_30 : decode cX6_yields 30 = .ok (.ireturn, 1) := by decide +kernel
theorem dX6_yields_31 : decode cX6_yields 31 = .ok (.aload_n 0, 1) := by decide +kernel
theorem dX6_yields_32 : decode cX6_yields 32 = .ok (.iload_n 1, 1) := by decide +kernel
theorem dX6_yields_33 : decode cX6_yields 33 = .ok (.iload_n 2, 1) := by decide +kernel
theorem dX6_yields_34 : decode cX6_yields 34 = .ok (.invokevirtual 352, 3) := by decide +kernel
theorem dX6_yields_37 : decode cX6_yields 37 = .ok (.iconst 0, 1) := by decide +kernel
theorem dX6_yields_38 : decode cX6_yields 38 = .ok (.istore 4, 2) := by decide +kernel
theorem dX6_yields_40 : decode cX6_yields 40 = .ok (.iconst 0, 1) := by decide +kernel
theorem dX6_yields_41 : decode cX6_yields 41 = .ok (.istore 5, 2) := by decide +kernel
theorem dX6_yields_43 : decode cX6_yields 43 = .ok (.iload 5, 2) := by decide +kernel
theorem dX6_yields_45 : decode cX6_yields 45 = .ok (.iconst 2, 1) := by decide +kernel
theorem dX6_yields_46 : decode cX6_yields 46 = .ok (.aload_n 0, 1) := by decide +kernel
theorem dX6_yields_47 : decode cX6_yields 47 = .ok (.getfield 141, 3) := by decide +kernel
theorem dX6_yields_50 : decode cX6_yields 50 = .ok (.imul, 1) := by decide +kernel
theorem dX6_yields_51 : decode cX6_yields 51 = .ok (.if_icmp .ge 77, 3) := by decide +kernel
theorem dX6_yields_54 : decode cX6_yields 54 = .ok (.aload_n 0, 1) := by decide +kernel
theorem dX6_yields_55 : decode cX6_yields 55 = .ok (.getfield 25, 3) := by decide +kernel
theorem dX6_yields_58 : decode cX6_yields 58 = .ok (.iload 5, 2) := by decide +kernel
theorem dX6_yields_60 : decode cX6_yields 60 = .ok (.iconst 2, 1) := by decide +kernel
theorem dX6_yields_61 : decode cX6_yields 61 = .ok (.idiv, 1) := by decide +kernel
theorem dX6_yields_62 : decode cX6_yields 62 = .ok (.iaload, 1) := by decide +kernel
theorem dX6_yields_63 : decode cX6_yields 63 = .ok (.i2l, 1) := by decide +kernel
theorem dX6_yields_64 : decode cX6_yields 64 = .ok (.lstore 6, 2) := by decide +kernel
theorem dX6_yields_66 : decode cX6_yields 66 = .ok (.iload 4, 2) := by decide +kernel
theorem dX6_yields_68 : decode cX6_yields 68 = .ok (.aload_n 0, 1) := by decide +kernel
theorem dX6_yields_69 : decode cX6_yields 69 = .ok (.getfield 116, 3) := by decide +kernel
theorem dX6_yields_72 : decode cX6_yields 72 = .ok (.iload 5, 2) := by decide +kernel
theorem dX6_yields_74 : decode cX6_yields 74 = .ok (.laload, 1) := by decide +kernel
theorem dX6_yields_75 : decode cX6_yields 75 = .ok (.lload 6, 2) := by decide +kernel
theorem dX6_yields_77 : decode cX6_yields 77 = .ok (.lneg, 1) := by decide +kernel
theorem dX6_yields_78 : decode cX6_yields 78 = .ok (.aload_n 0, 1) := by decide +kernel
theorem dX6_yields_79 : decode cX6_yields 79 = .ok (.getfield 119, 3) := by decide +kernel
theorem dX6_yields_82 : decode cX6_yields 82 = .ok (.iload 5, 2) := by decide +kernel
theorem dX6_yields_84 : decode cX6_yields 84 = .ok (.laload, 1) := by decide +kernel
theorem dX6_yields_85 : decode cX6_yields 85 = .ok (.lmul, 1) := by decide +kernel
theorem dX6_yields_86 : decode cX6_yields 86 = .ok (.lcmp, 1) := by decide +kernel
theorem dX6_yields_87 : decode cX6_yields 87 = .ok (.ifCond .eq 24, 3) := by decide +kernel
theorem dX6_yields_90 : decode cX6_yields 90 = .ok (.aload_n 0, 1) := by decide +kernel
theorem dX6_yields_91 : decode cX6_yields 91 = .ok (.getfield 122, 3) := by decide +kernel
theorem dX6_yields_94 : decode cX6_yields 94 = .ok (.iload 5, 2) := by decide +kernel
theorem dX6_yields_96 : decode cX6_yields 96 = .ok (.laload, 1) := by decide +kernel
theorem dX6_yields_97 : decode cX6_yields 97 = .ok (.lload 6, 2) := by decide +kernel
theorem dX6_yields_99 : decode cX6_yields 99 = .ok (.aload_n 0, 1) := by decide +kernel
theorem dX6_yields_100 : decode cX6_yields 100 = .ok (.getfield 125, 3) := by decide +kernel
theorem dX6_yields_103 : decode cX6_yields 103 = .ok (.iload 5, 2) := by decide +kernel
theorem dX6_yields_105 : decode cX6_yields 105 = .ok (.laload, 1) := by decide +kernel
theorem dX6_yields_106 : decode cX6_yields 106 = .ok (.lmul, 1) := by decide +kernel
theorem dX6_yields_107 : decode cX6_yields 107 = .ok (.lcmp, 1) := by decide +kernel
theorem dX6_yields_108 : decode cX6_yields 108 = .ok (.ifCond .ne 10, 3) := by decide +kernel
theorem dX6_yields_111 : decode cX6_yields 111 = .ok (.iconst 1, 1) := by decide +kernel
theorem dX6_yields_112 : decode cX6_yields 112 = .ok (.iload 5, 2) := by decide +kernel
theorem dX6_yields_114 : decode cX6_yields 114 = .ok (.ishl, 1) := by decide +kernel
theorem dX6_yields_115 : decode cX6_yields 115 = .ok (.goto 4, 3) := by decide +kernel
theorem dX6_yields_118 : decode cX6_yields 118 = .ok (.iconst 0, 1) := by decide +kernel
theorem dX6_yields_119 : decode cX6_yields 119 = .ok (.ior, 1) := by decide +kernel
theorem dX6_yields_120 : decode cX6_yields 120 = .ok (.istore 4, 2) := by decide +kernel
theorem dX6_yields_122 : decode cX6_yields 122 = .ok (.iinc 5 1, 3) := by decide +kernel
theorem dX6_yields_125 : decode cX6_yields 125 = .ok (.goto (-82), 3) := by decide +kernel
theorem dX6_yields_128 : decode cX6_yields 128 = .ok (.iload 4, 2) := by decide +kernel
theorem dX6_yields_130 : decode cX6_yields 130 = .ok (.ireturn, 1) := by decide +kernel
abbrev rm_X6_yields : Room := { frames := 6, cells := 0, slots := 0, locals := 215 }
noncomputable def f_X6_yields_b119 (N : Nat) (kb43 : Int32 → Int32 → ZS → Option (Int32 × ZS)) (x5 : Int32) (s0 : Int32) (s1 : Int32) (σ : ZS) : Option (Int32 × ZS) := bd (s0 ||| s1) fun v18 => bd (x5 + (1 : Int32)) fun v19 => kb43 v18 v19 σ
noncomputable def f_X6_yields_b111 (N : Nat) (kb43 : Int32 → Int32 → ZS → Option (Int32 × ZS)) (x5 : Int32) (s0 : Int32) (σ : ZS) : Option (Int32 × ZS) := f_X6_yields_b119 N kb43 x5 s0 ((1 : Int32) <<< (x5 &&& 31)) σ
noncomputable def f_X6_yields_h43 (N : Nat) : Nat → Int32 → Int32 → ZS → Option (Int32 × ZS)
  | 0, _, _, _ => none
  | n + 1, x4, x5, σ => (if ((2 : Int32) * (gI σ 1067 4)) ≤ x5 then some (x4, σ) else ck (inb (x5 / (2 : Int32)) 6) (bd ((gI σ 1073 ((x5 / (2 : Int32)).toNatClampNeg)).toInt64) fun v14 => ck (inb x5 12) (ck (inb x5 12) ((if (gJ σ 1100 (x5.toNatClampNeg)) = ((-v14) * (gJ σ 1101 (x5.toNatClampNeg))) then f_X6_yields_b111 N (fun x4_ x5_ σ_ => f_X6_yields_h43 N n x4_ x5_ σ_) x5 x4 σ else ck (inb x5 12) (ck (inb x5 12) ((if (gJ σ 1102 (x5.toNatClampNeg)) = (v14 * (gJ σ 1103 (x5.toNatClampNeg))) then f_X6_yields_b111 N (fun x4_ x5_ σ_ => f_X6_yields_h43 N n x4_ x5_ σ_) x5 x4 σ else f_X6_yields_b119 N (fun x4_ x5_ σ_ => f_X6_yields_h43 N n x4_ x5_ σ_) x5 x4 (0 : Int32) σ))))))))
noncomputable def f_X6_yields (N : Nat) (x1 : Int32) (x2 : Int32) (σ : ZS) : Option (Int32 × ZS) := obd (f_X6_isCase N x1 σ) fun v1 σ2 => (if v1 = 0 then some ((-2 : Int32), σ2) else obd (f_X6_in N x2 (0 : Int32) (1 : Int32) σ2) fun v4 σ5 => (if v4 = 0 then some ((-2 : Int32), σ5) else obd (f_X6_refusal N x1 σ5) fun v7 σ8 => (if v7 = 0 then obd (f_X6_layMoments N x1 x2 σ8) fun _ σ11 => f_X6_yields_h43 N N (0 : Int32) (0 : Int32) σ11 else some (v7, σ8))))
set_option maxHeartbeats 4000000 in
set_option maxRecDepth 100000 in
theorem k_X6_yields_b119 {l : Launch} {Y : ZY} {G : ZG} {r : Int32} {σ' : ZS} (h : zOk (l, rm_X6_yields, 8, 0, 0) Y G cX6_yields RX6 (some .int)) (hq : zRet (l, rm_X6_yields, 8, 0, 0) Y G (some (.int r)) σ') (N : Nat) {kb43 : Int32 → Int32 → ZS → Option (Int32 × ZS)} (x5 : Int32) (s0 : Int32) (s1 : Int32) (hb43 : ∀ (x4_ : Int32) (x5_ : Int32) (σ_ : ZS), kb43 x4_ x5_ σ_ = some (r, σ') → Z (l, rm_X6_yields, 8, 0, 0) Y G σ_ [(0, .ref (G.1 1067)), (4, .int x4_), (5, .int x5_)] [] 43) (σ : ZS) (hf : f_X6_yields_b119 N kb43 x5 s0 s1 σ = some (r, σ')) : Z (l, rm_X6_yields, 8, 0, 0) Y G σ [(0, .ref (G.1 1067)), (5, .int x5)] [.int s1, .int s0] 119 := by
  rw [f_X6_yields_b119] at hf
  refine z_ior h dX6_yields_119 ?_
  refine z_topI (fun v18 ev18 => ?_)
  have hf := bd_to ev18 hf
  refine z_istore h dX6_yields_120 (lv' := [(4, .int v18), (0, .ref (G.1 1067)), (5, .int x5)]) rfl rfl ?_
  obtain ⟨v19, ev19, hf⟩ := bd_ex hf
  refine z_iinc h (v := v19) (lv' := [(5, .int v19), (4, .int v18), (0, .ref (G.1 1067))]) dX6_yields_122 2 rfl (by rw [ev19]; rfl) rfl rfl ?_
  refine z_goto h (tgt := 43) dX6_yields_125 (by decide) ?_
  exact z_sub [2, 1, 0] rfl (hb43 _ _ _ hf)
set_option maxHeartbeats 4000000 in
set_option maxRecDepth 100000 in
theorem k_X6_yields_b111 {l : Launch} {Y : ZY} {G : ZG} {r : Int32} {σ' : ZS} (h : zOk (l, rm_X6_yields, 8, 0, 0) Y G cX6_yields RX6 (some .int)) (hq : zRet (l, rm_X6_yields, 8, 0, 0) Y G (some (.int r)) σ') (N : Nat) {kb43 : Int32 → Int32 → ZS → Option (Int32 × ZS)} (x5 : Int32) (s0 : Int32) (hb43 : ∀ (x4_ : Int32) (x5_ : Int32) (σ_ : ZS), kb43 x4_ x5_ σ_ = some (r, σ') → Z (l, rm_X6_yields, 8, 0, 0) Y G σ_ [(0, .ref (G.1 1067)), (4, .int x4_), (5, .int x5_)] [] 43) (σ : ZS) (hf : f_X6_yields_b111 N kb43 x5 s0 σ = some (r, σ')) : Z (l, rm_X6_yields, 8, 0, 0) Y G σ [(0, .ref (G.1 1067)), (5, .int x5)] [.int s0] 111 := by
  rw [f_X6_yields_b111] at hf
  refine z_iconst h (v := (1 : Int32)) dX6_yields_111 ic_1 ?_
  refine z_iload h dX6_yields_112 1 rfl ?_
  refine z_ishl h dX6_yields_114 ?_
  refine z_goto h (tgt := 119) dX6_yields_115 (by decide) ?_
  exact z_sub [0, 1] rfl (k_X6_yields_b119 h hq N x5 s0 ((1 : Int32) <<< (x5 &&& 31)) hb43 _ hf)
set_option maxHeartbeats 4000000 in
set_option maxRecDepth 100000 in
theorem k_X6_yields_h43 {l : Launch} {Y : ZY} {G : ZG} {r : Int32} {σ' : ZS} (h : zOk (l, rm_X6_yields, 8, 0, 0) Y G cX6_yields RX6 (some .int)) (hq : zRet (l, rm_X6_yields, 8, 0, 0) Y G (some (.int r)) σ') (N : Nat) : ∀ (n : Nat) (x4 : Int32) (x5 : Int32) (σ : ZS), f_X6_yields_h43 N n x4 x5 σ = some (r, σ') → Z (l, rm_X6_yields, 8, 0, 0) Y G σ [(0, .ref (G.1 1067)), (4, .int x4), (5, .int x5)] [] 43 := by
  intro n
  induction n with
  | zero =>
    intro x4 x5 σ hf
    rw [f_X6_yields_h43] at hf
    cases hf
  | succ n ih =>
    intro x4 x5 σ hf
    rw [f_X6_yields_h43] at hf
    refine z_iload h dX6_yields_43 2 rfl ?_
    refine z_iconst h (v := (2 : Int32)) dX6_yields_45 ic_2 ?_
    refine z_aload_n h dX6_yields_46 rfl 0 rfl ?_
    refine z_gfI h zC6 (c := 1067) tg_1067 ln_1067 4 rfl ft_6_4 wd_200 dX6_yields_47 ?_
    refine z_imul h dX6_yields_50 ?_
    refine z_icmp_ge h (tgt := 128) dX6_yields_51 (by decide) (fun g12 => ?_) (fun g12 => ?_)
    · have hf := it_pos g12 hf
      refine z_iload h dX6_yields_128 1 rfl ?_
      exact z_iret h (rt_I hf hq) dX6_yields_130
    · have hf := it_neg g12 hf
      refine z_aload_n h dX6_yields_54 rfl 0 rfl ?_
      refine z_gfR h zC6 (d := 1073) (c := 1067) tg_1067 ln_1067 7 rfl ft_6_7 rf_1067_7 wd_93 dX6_yields_55 ?_
      refine z_iload h dX6_yields_58 2 rfl ?_
      refine z_iconst h (v := (2 : Int32)) dX6_yields_60 ic_2 ?_
      refine z_idiv h dX6_yields_61 (by decide) ?_
      obtain ⟨g13, hf⟩ := ck_out hf
      refine z_iald h (c := 1073) tg_1073 ln_1073 g13 dX6_yields_62 ?_
      refine z_i2l h dX6_yields_63 ?_
      refine z_topJ (fun v14 ev14 => ?_)
      have hf := bd_to ev14 hf
      refine z_lstore h dX6_yields_64 (lv' := [(6, .long v14), (0, .ref (G.1 1067)), (4, .int x4), (5, .int x5)]) rfl rfl ?_
      refine z_iload h dX6_yields_66 2 rfl ?_
      refine z_aload_n h dX6_yields_68 rfl 1 rfl ?_
      refine z_gfR h zC6 (d := 1100) (c := 1067) tg_1067 ln_1067 47 rfl ft_6_47 rf_1067_47 wd_123 dX6_yields_69 ?_
      refine z_iload h dX6_yields_72 3 rfl ?_
      obtain ⟨g15, hf⟩ := ck_out hf
      refine z_lald h (c := 1100) tg_1100 ln_1100 g15 dX6_yields_74 ?_
      refine z_lload h dX6_yields_75 0 rfl ?_
      refine z_lneg h dX6_yields_77 ?_
      refine z_aload_n h dX6_yields_78 rfl 1 rfl ?_
      refine z_gfR h zC6 (d := 1101) (c := 1067) tg_1067 ln_1067 48 rfl ft_6_48 rf_1067_48 wd_124 dX6_yields_79 ?_
      refine z_iload h dX6_yields_82 3 rfl ?_
      obtain ⟨g16, hf⟩ := ck_out hf
      refine z_lald h (c := 1101) tg_1101 ln_1101 g16 dX6_yields_84 ?_
      refine z_lmul h dX6_yields_85 ?_
      refine z_lif_eq h (tgt := 111) dX6_yields_86 dX6_yields_87 (by decide) (fun g17 => ?_) (fun g17 => ?_)
      · have hf := it_pos g17 hf
        exact z_sub [1, 3] rfl (k_X6_yields_b111 h hq N x5 x4 (fun x4_ x5_ σ_ hf_ => ih x4_ x5_ σ_ hf_) _ hf)
      · have hf := it_neg g17 hf
        refine z_aload_n h dX6_yields_90 rfl 1 rfl ?_
        refine z_gfR h zC6 (d := 1102) (c := 1067) tg_1067 ln_1067 49 rfl ft_6_49 rf_1067_49 wd_125 dX6_yields_91 ?_
        refine z_iload h dX6_yields_94 3 rfl ?_
        obtain ⟨g20, hf⟩ := ck_out hf
        refine z_lald h (c := 1102) tg_1102 ln_1102 g20 dX6_yields_96 ?_
        refine z_lload h dX6_yields_97 0 rfl ?_
        refine z_aload_n h dX6_yields_99 rfl 1 rfl ?_
        refine z_gfR h zC6 (d := 1103) (c := 1067) tg_1067 ln_1067 50 rfl ft_6_50 rf_1067_50 wd_126 dX6_yields_100 ?_
        refine z_iload h dX6_yields_103 3 rfl ?_
        obtain ⟨g21, hf⟩ := ck_out hf
        refine z_lald h (c := 1103) tg_1103 ln_1103 g21 dX6_yields_105 ?_
        refine z_lmul h dX6_yields_106 ?_
        refine z_lif_ne h (tgt := 118) dX6_yields_107 dX6_yields_108 (by decide) (fun g22 => ?_) (fun g22 => ?_)
        · have hf := it_neg g22 hf
          refine z_iconst h (v := (0 : Int32)) dX6_yields_118 ic_0 ?_
          exact z_sub [1, 3] rfl (k_X6_yields_b119 h hq N x5 x4 (0 : Int32) (fun x4_ x5_ σ_ hf_ => ih x4_ x5_ σ_ hf_) _ hf)
        · have hf := it_pos g22 hf
          exact z_sub [1, 3] rfl (k_X6_yields_b111 h hq N x5 x4 (fun x4_ x5_ σ_ hf_ => ih x4_ x5_ σ_ hf_) _ hf)
set_option maxHeartbeats 4000000 in
set_option maxRecDepth 100000 in
theorem c_X6_yields (l : Launch) (G : ZG) {N : Nat} {x1 : Int32} {x2 : Int32} {σ σ' : ZS} {r : Int32} (hf : f_X6_yields N x1 x2 σ = some (r, σ')) : zMet l G yX6_yields cX6_yields 8 (some .int) rm_X6_yields [.ref (G.1 1067), .int x1, .int x2] σ (some (.int r)) σ' := by
  refine z_met (by decide +kernel) rfl (fun Y h hq => ?_)
  have h : zOk (l, rm_X6_yields, 8, 0, 0) Y G cX6_yields RX6 (some .int) := h
  rw [f_X6_yields] at hf
  refine z_sub (lv' := [(0, .ref (G.1 1067)), (1, .int x1), (2, .int x2)]) [0, 1, 2] rfl ?_
  refine z_iload_n h dX6_yields_0 rfl 1 rfl ?_
  obtain ⟨v1, σ2, e2, hf⟩ := obd_out hf
  refine z_cSv h (n := 1) (c_X6_isCase l G e2) rfl wd_582 wd_583 wd_5 wd_584 (by decide +kernel) ⟨rfl, rfl⟩ rfl rfl rfl dX6_yields_1 ⟨Nat.zero_le _, Nat.zero_le _⟩ ?_
  refine z_if_eq h (tgt := 16) dX6_yields_4 (by decide) (fun g3 => ?_) (fun g3 => ?_)
  · have hf := it_pos g3 hf
    refine z_bipush h (v := (-2 : Int32)) dX6_yields_16 bp_m2 ?_
    exact z_iret h (rt_I hf hq) dX6_yields_18
  · have hf := it_neg g3 hf
    refine z_iload_n h dX6_yields_7 rfl 2 rfl ?_
    refine z_iconst h (v := (0 : Int32)) dX6_yields_8 ic_0 ?_
    refine z_iconst h (v := (1 : Int32)) dX6_yields_9 ic_1 ?_
    obtain ⟨v4, σ5, e5, hf⟩ := obd_out hf
    refine z_cSv h (n := 3) (c_X6_in l G e5) rfl wd_156 wd_157 wd_5 wd_158 (by decide +kernel) ⟨rfl, rfl⟩ rfl rfl rfl dX6_yields_10 ⟨Nat.zero_le _, Nat.zero_le _⟩ ?_
    refine z_if_ne h (tgt := 19) dX6_yields_13 (by decide) (fun g6 => ?_) (fun g6 => ?_)
    · have hf := it_neg g6 hf
      refine z_aload_n h dX6_yields_19 rfl 0 rfl ?_
      refine z_iload_n h dX6_yields_20 rfl 1 rfl ?_
      obtain ⟨v7, σ8, e8, hf⟩ := obd_out hf
      refine z_cVv h (n := 1) (c_X6_refusal l G e8) zC6 tg_1067 ln_1067 rfl rfl wd_703 wd_704 wd_705 wd_5 wd_706 (by decide +kernel) ⟨rfl, rfl⟩ rfl rfl rfl dX6_yields_21 ⟨Nat.zero_le _, Nat.zero_le _⟩ ?_
      refine z_istore_n h dX6_yields_24 rfl (lv' := [(3, .int v7), (0, .ref (G.1 1067)), (1, .int x1), (2, .int x2)]) rfl rfl ?_
      refine z_iload_n h dX6_yields_25 rfl 0 rfl ?_
      refine z_if_eq h (tgt := 31) dX6_yields_26 (by decide) (fun g9 => ?_) (fun g9 => ?_)
      · have hf := it_pos g9 hf
        refine z_aload_n h dX6_yields_31 rfl 1 rfl ?_
        refine z_iload_n h dX6_yields_32 rfl 2 rfl ?_
        refine z_iload_n h dX6_yields_33 rfl 3 rfl ?_
        obtain ⟨v10, σ11, e11, hf⟩ := obd_out hf
        refine z_cV0 h (n := 2) (c_X6_layMoments l G e11) zC6 tg_1067 ln_1067 rfl rfl wd_772 wd_773 wd_774 wd_5 wd_775 (by decide +kernel) ⟨rfl, rfl⟩ rfl rfl rfl dX6_yields_34 ⟨Nat.zero_le _, Nat.zero_le _⟩ ?_
        refine z_iconst h (v := (0 : Int32)) dX6_yields_37 ic_0 ?_
        refine z_istore h dX6_yields_38 (lv' := [(4, .int (0 : Int32)), (3, .int v7), (0, .ref (G.1 1067)), (1, .int x1), (2, .int x2)]) rfl rfl ?_
        refine z_iconst h (v := (0 : Int32)) dX6_yields_40 ic_0 ?_
        refine z_istore h dX6_yields_41 (lv' := [(5, .int (0 : Int32)), (4, .int (0 : Int32)), (3, .int v7), (0, .ref (G.1 1067)), (1, .int x1), (2, .int x2)]) rfl rfl ?_
        exact z_sub [3, 1, 0] rfl (k_X6_yields_h43 h hq N _ _ _ _ hf)
      · have hf := it_neg g9 hf
        refine z_iload_n h dX6_yields_29 rfl 0 rfl ?_
        exact z_iret h (rt_I hf hq) dX6_yields_30
    · have hf := it_pos g6 hf
      refine z_bipush h (v := (-2 : Int32)) dX6_yields_16 bp_m2 ?_
      exact z_iret h (rt_I hf hq) dX6_yields_18
theorem dX6_binding_0 : decode cX6_binding 0 = .ok (.iload_n 1, 1) := by decide +kernel
theorem dX6_binding_1 : decode cX6_binding 1 = .ok (.invokestatic 329, 3) := by decide +kernel
theorem dX6_binding_4 : decode cX6_binding 4 = .ok (.ifCond .eq 21, 3) := by decide +kernel
theorem dX6_binding_7 : decode cX6_binding 7 = .ok (.iload_n 2, 1) := by decide +kernel
theorem dX6_binding_8 : decode cX6_binding 8 = .ok (.iconst 0, 1) := by decide +kernel
theorem dX6_binding_9 : decode cX6_binding 9 = .ok (.iconst 1, 1) := by decide +kernel
theorem dX6_binding_10 : decode cX6_binding 10 = .ok (.invokestatic 137, 3) := by decide +kernel
theorem dX6_binding_13 : decode cX6_binding 13 = .ok (.ifCond .eq 12, 3) := by decide +kernel
theorem dX6_binding_16 : decode cX6_binding 16 = .ok (.iload_n 3, 1) := by decide +kernel
theorem dX6_binding_17 : decode cX6_binding 17 = .ok (.iconst 0, 1) := by decide +kernel
theorem dX6_binding_18 : decode cX6_binding 18 = .ok (.iconst 1, 1) := by decide +kernel
theorem dX6_binding_19 : decode cX6_binding 19 = .ok (.invokestatic 137, 3) := by decide +kernel
theorem dX6_binding_22 : decode cX6_binding 22 = .ok (.ifCond .ne 6, 3) := by decide +kernel
theorem dX6_binding_25 : decode cX6_binding 25 = .ok (.bipush (-2), 2) := by decide +kernel
theorem dX6_binding_27 : decode cX6_binding 27 = .ok (.ireturn, 1) := by decide +kernel
theorem dX6_binding_28 : decode cX6_binding 28 = .ok (.aload_n 0, 1) := by decide +kernel
theorem dX6_binding_29 : decode cX6_binding 29 = .ok (.iload_n 1, 1) := by decide +kernel
theorem dX6_binding_30 : decode cX6_binding 30 = .ok (.invokevirtual 334, 3) := by decide +kernel
theorem dX6_binding_33 : decode cX6_binding 33 = .ok (.istore 4, 2) := by decide +kernel
theorem dX6_binding_35 : decode cX6_binding 35 = .ok (.iload 4, 2) := by decide +kernel
theorem dX6_binding_37 : decode cX6_binding 37 = .ok (.ifCond .eq 6, 3) := by decide +kernel
theorem dX6_binding_40 : decode cX6_binding 40 = .ok (.iload 4, 2) := by decide +kernel
theorem dX6_binding_42 : decode cX6_binding 42 = .ok (.ireturn, 1) := by decide +kernel
theorem dX6_binding_43 : decode cX6_binding 43 = .ok (.aload_n 0, 1) := by decide +kernel
theorem dX6_binding_44 : decode cX6_binding 44 = .ok (.getfield 110, 3) := by decide +kernel
theorem dX6_binding_47 : decode cX6_binding 47 = .ok (.iconst 2, 1) := by decide +kernel
theorem dX6_binding_48 : decode cX6_binding 48 = .ok (.iload_n 1, 1) := by decide +kernel
theorem dX6_binding_49 : decode cX6_binding 49 = .ok (.imul, 1) := by decide +kernel
theorem dX6_binding_50 : decode cX6_binding 50 = .ok (.iload_n 2, 1) := by decide +kernel
theorem dX6_binding_51 : decode cX6_binding 51 = .ok (.iadd, 1) := by decide +kernel
theorem dX6_binding_52 : decode cX6_binding 52 = .ok (.laload, 1) := by decide +kernel
theorem dX6_binding_53 : decode cX6_binding 53 = .ok (.lstore 5, 2) := by decide +kernel
theorem dX6_binding_55 : decode cX6_binding 55 = .ok (.aload_n 0, 1) := by decide +kernel
theorem dX6_binding_56 : decode cX6_binding 56 = .ok (.getfield 113, 3) := by decide +kernel
theorem dX6_binding_59 : decode cX6_binding 59 = .ok (.iconst 2, 1) := by decide +kernel
theorem dX6_binding_60 : decode cX6_binding 60 = .ok (.iload_n 1, 1) := by decide +kernel
theorem dX6_binding_61 : decode cX6_binding 61 = .ok (.imul, 1) := by decide +kernel
theorem dX6_binding_62 : decode cX6_binding 62 = .ok (.iload_n 2, 1) := by decide +kernel
theorem dX6_binding_63 : decode cX6_binding 63 = .ok (.iadd, 1) := by decide +kernel
theorem dX6_binding_64 : decode cX6_binding 64 = .ok (.laload, 1) := by decide +kernel
theorem dX6_binding_65 : decode cX6_binding 65 = .ok (.lstore 7, 2) := by decide +kernel
theorem dX6_binding_67 : decode cX6_binding 67 = .ok (.iconst 0, 1) := by decide +kernel
theorem dX6_binding_68 : decode cX6_binding 68 = .ok (.istore 9, 2) := by decide +kernel
theorem dX6_binding_70 : decode cX6_binding 70 = .ok (.bipush (-6), 2) := by decide +kernel
theorem dX6_binding_72 : decode cX6_binding 72 = .ok (.istore 10, 2) := by decide +kernel
theorem dX6_binding_74 : decode cX6_binding 74 = .ok (.aload_n 0, 1) := by decide +kernel
theorem dX6_binding_75 : decode cX6_binding 75 = .ok (.getfield 196, 3) := by decide +kernel
theorem dX6_binding_78 : decode cX6_binding 78 = .ok (.iconst 1, 1) := by decide +kernel
theorem dX6_binding_79 : decode cX6_binding 79 = .ok (.isub, 1) := by decide +kernel
theorem dX6_binding_80 : decode cX6_binding 80 = .ok (.istore 11, 2) := by decide +kernel
theorem dX6_binding_82 : decode cX6_binding 82 = .ok (.iload 11, 2) := by decide +kernel
theorem dX6_binding_84 : decode cX6_binding 84 = .ok (.ifCond .lt 70, 3) := by decide +kernel
theorem dX6_binding_87 : decode cX6_binding 87 = .ok (.aload_n 0, 1) := by decide +kernel
theorem dX6_binding_88 : decode cX6_binding 88 = .ok (.iload 11, 2) := by decide +kernel
theorem dX6_binding_90 : decode cX6_binding 90 = .ok (.invokevirtual 326, 3) := by decide +kernel
theorem dX6_binding_93 : decode cX6_binding 93 = .ok (.lload 7, 2) := by decide +kernel
theorem dX6_binding_95 : decode cX6_binding 95 = .ok (.aload_n 0, 1) := by decide +kernel
theorem dX6_binding_96 : decode cX6_binding 96 = .ok (.getfield 70, 3) := by decide +kernel
theorem dX6_binding_99 : decode cX6_binding 99 = .ok (.iconst 0, 1) := by decide +kernel
theorem dX6_binding_100 : decode cX6_binding 100 = .ok (.laload, 1) := by decide +kernel
theorem dX6_binding_101 : decode cX6_binding 101 = .ok (.lmul, 1) := by decide +kernel
theorem dX6_binding_102 : decode cX6_binding 102 = .ok (.lload 5, 2) := by decide +kernel
theorem dX6_binding_104 : decode cX6_binding 104 = .ok (.aload_n 0, 1) := by decide +kernel
theorem dX6_binding_105 : decode cX6_binding 105 = .ok (.getfield 70, 3) := by decide +kernel
theorem dX6_binding_108 : decode cX6_binding 108 = .ok (.iload_n 1, 1) := by decide +kernel
theorem dX6_binding_109 : decode cX6_binding 109 = .ok (.laload, 1) := by decide +kernel
theorem dX6_binding_110 : decode cX6_binding 110 = .ok (.lmul, 1) := by decide +kernel
theorem dX6_binding_111 : decode cX6_binding 111 = .ok (.ladd, 1) := by decide +kernel
theorem dX6_binding_112 : decode cX6_binding 112 = .ok (.lstore 12, 2) := by decide +kernel
theorem dX6_binding_114 : decode cX6_binding 114 = .ok (.lload 12, 2) := by decide +kernel
theorem dX6_binding_116 : decode cX6_binding 116 = .ok (.lload 7, 2) := by decide +kernel
theorem dX6_binding_118 : decode cX6_binding 118 = .ok (.aload_n 0, 1) := by decide +kernel
theorem dX6_binding_119 : decode cX6_binding 119 = .ok (.getfield 214, 3) := by decide +kernel
theorem dX6_binding_122 : decode cX6_binding 122 = .ok (.lmul, 1) := by decide +kernel
theorem dX6_binding_123 : decode cX6_binding 123 = .ok (.lcmp, 1) := by decide +kernel
theorem dX6_binding_124 : decode cX6_binding 124 = .ok (.ifCond .eq 17, 3) := by decide +kernel
theorem dX6_binding_127 : decode cX6_binding 127 = .ok (.lload 12, 2) := by decide +kernel
theorem dX6_binding_129 : decode cX6_binding 129 = .ok (.lneg, 1) := by decide +kernel
theorem dX6_binding_130 : decode cX6_binding 130 = .ok (.lload 7, 2) := by decide +kernel
theorem dX6_binding_132 : decode cX6_binding 132 = .ok (.aload_n 0, 1) := by decide +kernel
theorem dX6_binding_133 : decode cX6_binding 133 = .ok (.getfield 214, 3) := by decide +kernel
theorem dX6_binding_136 : decode cX6_binding 136 = .ok (.lmul, 1) := by decide +kernel
theorem dX6_binding_137 : decode cX6_binding 137 = .ok (.lcmp, 1) := by decide +kernel
theorem dX6_binding_138 : decode cX6_binding 138 = .ok (.ifCond .ne 10, 3) := by decide +kernel
theorem dX6_binding_141 : decode cX6_binding 141 = .ok (.iinc 9 1, 3) := by decide +kernel
theorem dX6_binding_144 : decode cX6_binding 144 = .ok (.iload 11, 2) := by decide +kernel
theorem dX6_binding_146 : decode cX6_binding 146 = .ok (.istore 10, 2) := by decide +kernel
theorem dX6_binding_148 : decode cX6_binding 148 = .ok (.iinc 11 (-1), 3) := by decide +kernel
theorem dX6_binding_151 : decode cX6_binding 151 = .ok (.goto (-69), 3) := by decide +kernel
theorem dX6_binding_154 : decode cX6_binding 154 = .ok (.iload_n 3, 1) := by decide +kernel
theorem dX6_binding_155 : decode cX6_binding 155 = .ok (.ifCond .ne 8, 3) := by decide +kernel
theorem dX6_binding_158 : decode cX6_binding 158 = .ok (.iload 9, 2) := by decide +kernel
theorem dX6_binding_160 : decode cX6_binding 160 = .ok (.goto 5, 3) := by decide +kernel
theorem dX6_binding_163 : decode cX6_binding 163 = .ok (.iload 10, 2) := by decide +kernel
theorem dX6_binding_165 : decode cX6_binding 165 = .ok (.ireturn, 1) := by decide +kernel
abbrev rm_X6_binding : Room := { frames := 6, cells := 0, slots := 0, locals := 215 }
noncomputable def f_X6_binding_b148 (N : Nat) (kb82 : Int32 → Int32 → Int32 → ZS → Option (Int32 × ZS)) (x1 : Int32) (x3 : Int32) (x5 : Int64) (x7 : Int64) (x9 : Int32) (x10 : Int32) (x11 : Int32) (σ : ZS) : Option (Int32 × ZS) := bd (x11 + (-1 : Int32)) fun v27 => kb82 x9 x10 v27 σ
noncomputable def f_X6_binding_b141 (N : Nat) (kb82 : Int32 → Int32 → Int32 → ZS → Option (Int32 × ZS)) (x1 : Int32) (x3 : Int32) (x5 : Int64) (x7 : Int64) (x9 : Int32) (x11 : Int32) (σ : ZS) : Option (Int32 × ZS) := bd (x9 + (1 : Int32)) fun v26 => f_X6_binding_b148 N kb82 x1 x3 x5 x7 v26 x11 x11 σ
noncomputable def f_X6_binding_h82 (N : Nat) (x1 : Int32) (x3 : Int32) (x5 : Int64) (x7 : Int64) : Nat → Int32 → Int32 → Int32 → ZS → Option (Int32 × ZS)
  | 0, _, _, _, _ => none
  | n + 1, x9, x10, x11, σ => (if x11 < 0 then (if x3 = 0 then some (x9, σ) else some (x10, σ)) else obd (f_X6_layOne N x11 σ) fun _ σ21 => ck (inb (0 : Int32) 3) (ck (inb x1 3) (bd ((x7 * (gJ σ21 1086 ((0 : Int32).toNatClampNeg))) + (x5 * (gJ σ21 1086 (x1.toNatClampNeg)))) fun v24 => (if v24 = (x7 * (gJ σ21 1067 25)) then f_X6_binding_b141 N (fun x9_ x10_ x11_ σ_ => f_X6_binding_h82 N x1 x3 x5 x7 n x9_ x10_ x11_ σ_) x1 x3 x5 x7 x9 x11 σ21 else (if (-v24) = (x7 * (gJ σ21 1067 25)) then f_X6_binding_b141 N (fun x9_ x10_ x11_ σ_ => f_X6_binding_h82 N x1 x3 x5 x7 n x9_ x10_ x11_ σ_) x1 x3 x5 x7 x9 x11 σ21 else f_X6_binding_b148 N (fun x9_ x10_ x11_ σ_ => f_X6_binding_h82 N x1 x3 x5 x7 n x9_ x10_ x11_ σ_) x1 x3 x5 x7 x9 x10 x11 σ21)))))
noncomputable def f_X6_binding (N : Nat) (x1 : Int32) (x2 : Int32) (x3 : Int32) (σ : ZS) : Option (Int32 × ZS) := obd (f_X6_isCase N x1 σ) fun v1 σ2 => (if v1 = 0 then some ((-2 : Int32), σ2) else obd (f_X6_in N x2 (0 : Int32) (1 : Int32) σ2) fun v4 σ5 => (if v4 = 0 then some ((-2 : Int32), σ5) else obd (f_X6_in N x3 (0 : Int32) (1 : Int32) σ5) fun v7 σ8 => (if v7 = 0 then some ((-2 : Int32), σ8) else obd (f_X6_refusal N x1 σ8) fun v10 σ11 => (if v10 = 0 then ck (inb (((2 : Int32) * x1) + x2) 6) (bd (gJ σ11 1098 ((((2 : Int32) * x1) + x2).toNatClampNeg)) fun v14 => ck (inb (((2 : Int32) * x1) + x2) 6) (bd (gJ σ11 1099 ((((2 : Int32) * x1) + x2).toNatClampNeg)) fun v16 => bd ((gI σ11 1067 17) - (1 : Int32)) fun v17 => f_X6_binding_h82 N x1 x3 v14 v16 N (0 : Int32) (-6 : Int32) v17 σ11)) else some (v10, σ11)))))
set_option maxHeartbeats 4000000 in
set_option maxRecDepth 100000 in
theorem k_X6_binding_b148 {l : Launch} {Y : ZY} {G : ZG} {r : Int32} {σ' : ZS} (h : zOk (l, rm_X6_binding, 14, 0, 0) Y G cX6_binding RX6 (some .int)) (hq : zRet (l, rm_X6_binding, 14, 0, 0) Y G (some (.int r)) σ') (N : Nat) {kb82 : Int32 → Int32 → Int32 → ZS → Option (Int32 × ZS)} (x1 : Int32) (x3 : Int32) (x5 : Int64) (x7 : Int64) (x9 : Int32) (x10 : Int32) (x11 : Int32) (hb82 : ∀ (x9_ : Int32) (x10_ : Int32) (x11_ : Int32) (σ_ : ZS), kb82 x9_ x10_ x11_ σ_ = some (r, σ') → Z (l, rm_X6_binding, 14, 0, 0) Y G σ_ [(0, .ref (G.1 1067)), (1, .int x1), (3, .int x3), (5, .long x5), (7, .long x7), (9, .int x9_), (10, .int x10_), (11, .int x11_)] [] 82) (σ : ZS) (hf : f_X6_binding_b148 N kb82 x1 x3 x5 x7 x9 x10 x11 σ = some (r, σ')) : Z (l, rm_X6_binding, 14, 0, 0) Y G σ [(0, .ref (G.1 1067)), (1, .int x1), (3, .int x3), (5, .long x5), (7, .long x7), (9, .int x9), (10, .int x10), (11, .int x11)] [] 148 := by
  rw [f_X6_binding_b148] at hf
  obtain ⟨v27, ev27, hf⟩ := bd_ex hf
  refine z_iinc h (v := v27) (lv' := [(11, .int v27), (0, .ref (G.1 1067)), (1, .int x1), (3, .int x3), (5, .long x5), (7, .long x7), (9, .int x9), (10, .int x10)]) dX6_binding_148 7 rfl (by rw [ev27]; rfl) rfl rfl ?_
  refine z_goto h (tgt := 82) dX6_binding_151 (by decide) ?_
  exact z_sub [1, 2, 3, 4, 5, 6, 7, 0] rfl (hb82 _ _ _ _ hf)
set_option maxHeartbeats 4000000 in
set_option maxRecDepth 100000 in
theorem k_X6_binding_b141 {l : Launch} {Y : ZY} {G : ZG} {r : Int32} {σ' : ZS} (h : zOk (l, rm_X6_binding, 14, 0, 0) Y G cX6_binding RX6 (some .int)) (hq : zRet (l, rm_X6_binding, 14, 0, 0) Y G (some (.int r)) σ') (N : Nat) {kb82 : Int32 → Int32 → Int32 → ZS → Option (Int32 × ZS)} (x1 : Int32) (x3 : Int32) (x5 : Int64) (x7 : Int64) (x9 : Int32) (x11 : Int32) (hb82 : ∀ (x9_ : Int32) (x10_ : Int32) (x11_ : Int32) (σ_ : ZS), kb82 x9_ x10_ x11_ σ_ = some (r, σ') → Z (l, rm_X6_binding, 14, 0, 0) Y G σ_ [(0, .ref (G.1 1067)), (1, .int x1), (3, .int x3), (5, .long x5), (7, .long x7), (9, .int x9_), (10, .int x10_), (11, .int x11_)] [] 82) (σ : ZS) (hf : f_X6_binding_b141 N kb82 x1 x3 x5 x7 x9 x11 σ = some (r, σ')) : Z (l, rm_X6_binding, 14, 0, 0) Y G σ [(0, .ref (G.1 1067)), (1, .int x1), (3, .int x3), (5, .long x5), (7, .long x7), (9, .int x9), (11, .int x11)] [] 141 := by
  rw [f_X6_binding_b141] at hf
  obtain ⟨v26, ev26, hf⟩ := bd_ex hf
  refine z_iinc h (v := v26) (lv' := [(9, .int v26), (0, .ref (G.1 1067)), (1, .int x1), (3, .int x3), (5, .long x5), (7, .long x7), (11, .int x11)]) dX6_binding_141 5 rfl (by rw [ev26]; rfl) rfl rfl ?_
  refine z_iload h dX6_binding_144 6 rfl ?_
  refine z_istore h dX6_binding_146 (lv' := [(10, .int x11), (9, .int v26), (0, .ref (G.1 1067)), (1, .int x1), (3, .int x3), (5, .long x5), (7, .long x7), (11, .int x11)]) rfl rfl ?_
  exact z_sub [2, 3, 4, 5, 6, 1, 0, 7] rfl (k_X6_binding_b148 h hq N x1 x3 x5 x7 v26 x11 x11 hb82 _ hf)
set_option maxHeartbeats 4000000 in
set_option maxRecDepth 100000 in
theorem k_X6_binding_h82 {l : Launch} {Y : ZY} {G : ZG} {r : Int32} {σ' : ZS} (h : zOk (l, rm_X6_binding, 14, 0, 0) Y G cX6_binding RX6 (some .int)) (hq : zRet (l, rm_X6_binding, 14, 0, 0) Y G (some (.int r)) σ') (N : Nat) (x1 : Int32) (x3 : Int32) (x5 : Int64) (x7 : Int64) : ∀ (n : Nat) (x9 : Int32) (x10 : Int32) (x11 : Int32) (σ : ZS), f_X6_binding_h82 N x1 x3 x5 x7 n x9 x10 x11 σ = some (r, σ') → Z (l, rm_X6_binding, 14, 0, 0) Y G σ [(0, .ref (G.1 1067)), (1, .int x1), (3, .int x3), (5, .long x5), (7, .long x7), (9, .int x9), (10, .int x10), (11, .int x11)] [] 82 := by
  intro n
  induction n with
  | zero =>
    intro x9 x10 x11 σ hf
    rw [f_X6_binding_h82] at hf
    cases hf
  | succ n ih =>
    intro x9 x10 x11 σ hf
    rw [f_X6_binding_h82] at hf
    refine z_iload h dX6_binding_82 7 rfl ?_
    refine z_if_lt h (tgt := 154) dX6_binding_84 (by decide) (fun g18 => ?_) (fun g18 => ?_)
    · have hf := it_pos g18 hf
      refine z_iload_n h dX6_binding_154 rfl 2 rfl ?_
      refine z_if_ne h (tgt := 163) dX6_binding_155 (by decide) (fun g19 => ?_) (fun g19 => ?_)
      · have hf := it_neg g19 hf
        refine z_iload h dX6_binding_163 6 rfl ?_
        exact z_iret h (rt_I hf hq) dX6_binding_165
      · have hf := it_pos g19 hf
        refine z_iload h dX6_binding_158 5 rfl ?_
        refine z_goto h (tgt := 165) dX6_binding_160 (by decide) ?_
        exact z_iret h (rt_I hf hq) dX6_binding_165
    · have hf := it_neg g18 hf
      refine z_aload_n h dX6_binding_87 rfl 0 rfl ?_
      refine z_iload h dX6_binding_88 7 rfl ?_
      obtain ⟨v20, σ21, e21, hf⟩ := obd_out hf
      refine z_cV0 h (n := 1) (c_X6_layOne l G e21) zC6 tg_1067 ln_1067 rfl rfl wd_541 wd_542 wd_543 wd_5 wd_544 (by decide +kernel) ⟨rfl, rfl⟩ rfl rfl rfl dX6_binding_90 ⟨Nat.zero_le _, Nat.zero_le _⟩ ?_
      refine z_lload h dX6_binding_93 4 rfl ?_
      refine z_aload_n h dX6_binding_95 rfl 0 rfl ?_
      refine z_gfR h zC6 (d := 1086) (c := 1067) tg_1067 ln_1067 24 rfl ft_6_24 rf_1067_24 wd_108 dX6_binding_96 ?_
      refine z_iconst h (v := (0 : Int32)) dX6_binding_99 ic_0 ?_
      obtain ⟨g22, hf⟩ := ck_out hf
      refine z_lald h (c := 1086) tg_1086 ln_1086 g22 dX6_binding_100 ?_
      refine z_lmul h dX6_binding_101 ?_
      refine z_lload h dX6_binding_102 3 rfl ?_
      refine z_aload_n h dX6_binding_104 rfl 0 rfl ?_
      refine z_gfR h zC6 (d := 1086) (c := 1067) tg_1067 ln_1067 24 rfl ft_6_24 rf_1067_24 wd_108 dX6_binding_105 ?_
      refine z_iload_n h dX6_binding_108 rfl 1 rfl ?_
      obtain ⟨g23, hf⟩ := ck_out hf
      refine z_lald h (c := 1086) tg_1086 ln_1086 g23 dX6_binding_109 ?_
      refine z_lmul h dX6_binding_110 ?_
      refine z_ladd h dX6_binding_111 ?_
      refine z_topJ (fun v24 ev24 => ?_)
      have hf := bd_to ev24 hf
      refine z_lstore h dX6_binding_112 (lv' := [(12, .long v24), (0, .ref (G.1 1067)), (1, .int x1), (3, .int x3), (5, .long x5), (7, .long x7), (9, .int x9), (10, .int x10), (11, .int x11)]) rfl rfl ?_
      refine z_lload h dX6_binding_114 0 rfl ?_
      refine z_lload h dX6_binding_116 5 rfl ?_
      refine z_aload_n h dX6_binding_118 rfl 1 rfl ?_
      refine z_gfJ h zC6 (c := 1067) tg_1067 ln_1067 25 rfl ft_6_25 wd_545 dX6_binding_119 ?_
      refine z_lmul h dX6_binding_122 ?_
      refine z_lif_eq h (tgt := 141) dX6_binding_123 dX6_binding_124 (by decide) (fun g25 => ?_) (fun g25 => ?_)
      · have hf := it_pos g25 hf
        exact z_sub [1, 2, 3, 4, 5, 6, 8] rfl (k_X6_binding_b141 h hq N x1 x3 x5 x7 x9 x11 (fun x9_ x10_ x11_ σ_ hf_ => ih x9_ x10_ x11_ σ_ hf_) _ hf)
      · have hf := it_neg g25 hf
        refine z_lload h dX6_binding_127 0 rfl ?_
        refine z_lneg h dX6_binding_129 ?_
        refine z_lload h dX6_binding_130 5 rfl ?_
        refine z_aload_n h dX6_binding_132 rfl 1 rfl ?_
        refine z_gfJ h zC6 (c := 1067) tg_1067 ln_1067 25 rfl ft_6_25 wd_545 dX6_binding_133 ?_
        refine z_lmul h dX6_binding_136 ?_
        refine z_lif_ne h (tgt := 148) dX6_binding_137 dX6_binding_138 (by decide) (fun g28 => ?_) (fun g28 => ?_)
        · have hf := it_neg g28 hf
          exact z_sub [1, 2, 3, 4, 5, 6, 7, 8] rfl (k_X6_binding_b148 h hq N x1 x3 x5 x7 x9 x10 x11 (fun x9_ x10_ x11_ σ_ hf_ => ih x9_ x10_ x11_ σ_ hf_) _ hf)
        · have hf := it_pos g28 hf
          exact z_sub [1, 2, 3, 4, 5, 6, 8] rfl (k_X6_binding_b141 h hq N x1 x3 x5 x7 x9 x11 (fun x9_ x10_ x11_ σ_ hf_ => ih x9_ x10_ x11_ σ_ hf_) _ hf)
set_option maxHeartbeats 4000000 in
set_option maxRecDepth 100000 in
theorem c_X6_binding (l : Launch) (G : ZG) {N : Nat} {x1 : Int32} {x2 : Int32} {x3 : Int32} {σ σ' : ZS} {r : Int32} (hf : f_X6_binding N x1 x2 x3 σ = some (r, σ')) : zMet l G yX6_binding cX6_binding 14 (some .int) rm_X6_binding [.ref (G.1 1067), .int x1, .int x2, .int x3] σ (some (.int r)) σ' := by
  refine z_met (by decide +kernel) rfl (fun Y h hq => ?_)
  have h : zOk (l, rm_X6_binding, 14, 0, 0) Y G cX6_binding RX6 (some .int) := h
  rw [f_X6_binding] at hf
  refine z_sub (lv' := [(0, .ref (G.1 1067)), (1, .int x1), (2, .int x2), (3, .int x3)]) [0, 1, 2, 3] rfl ?_
  refine z_iload_n h dX6_binding_0 rfl 1 rfl ?_
  obtain ⟨v1, σ2, e2, hf⟩ := obd_out hf
  refine z_cSv h (n := 1) (c_X6_isCase l G e2) rfl wd_582 wd_583 wd_5 wd_584 (by decide +kernel) ⟨rfl, rfl⟩ rfl rfl rfl dX6_binding_1 ⟨Nat.zero_le _, Nat.zero_le _⟩ ?_
  refine z_if_eq h (tgt := 25) dX6_binding_4 (by decide) (fun g3 => ?_) (fun g3 => ?_)
  · have hf := it_pos g3 hf
    refine z_bipush h (v := (-2 : Int32)) dX6_binding_25 bp_m2 ?_
    exact z_iret h (rt_I hf hq) dX6_binding_27
  · have hf := it_neg g3 hf
    refine z_iload_n h dX6_binding_7 rfl 2 rfl ?_
    refine z_iconst h (v := (0 : Int32)) dX6_binding_8 ic_0 ?_
    refine z_iconst h (v := (1 : Int32)) dX6_binding_9 ic_1 ?_
    obtain ⟨v4, σ5, e5, hf⟩ := obd_out hf
    refine z_cSv h (n := 3) (c_X6_in l G e5) rfl wd_156 wd_157 wd_5 wd_158 (by decide +kernel) ⟨rfl, rfl⟩ rfl rfl rfl dX6_binding_10 ⟨Nat.zero_le _, Nat.zero_le _⟩ ?_
    refine z_if_eq h (tgt := 25) dX6_binding_13 (by decide) (fun g6 => ?_) (fun g6 => ?_)
    · have hf := it_pos g6 hf
      refine z_bipush h (v := (-2 : Int32)) dX6_binding_25 bp_m2 ?_
      exact z_iret h (rt_I hf hq) dX6_binding_27
    · have hf := it_neg g6 hf
      refine z_iload_n h dX6_binding_16 rfl 3 rfl ?_
      refine z_iconst h (v := (0 : Int32)) dX6_binding_17 ic_0 ?_
      refine z_iconst h (v := (1 : Int32)) dX6_binding_18 ic_1 ?_
      obtain ⟨v7, σ8, e8, hf⟩ := obd_out hf
      refine z_cSv h (n := 3) (c_X6_in l G e8) rfl wd_156 wd_157 wd_5 wd_158 (by decide +kernel) ⟨rfl, rfl⟩ rfl rfl rfl dX6_binding_19 ⟨Nat.zero_le _, Nat.zero_le _⟩ ?_
      refine z_if_ne h (tgt := 28) dX6_binding_22 (by decide) (fun g9 => ?_) (fun g9 => ?_)
      · have hf := it_neg g9 hf
        refine z_aload_n h dX6_binding_28 rfl 0 rfl ?_
        refine z_iload_n h dX6_binding_29 rfl 1 rfl ?_
        obtain ⟨v10, σ11, e11, hf⟩ := obd_out hf
        refine z_cVv h (n := 1) (c_X6_refusal l G e11) zC6 tg_1067 ln_1067 rfl rfl wd_703 wd_704 wd_705 wd_5 wd_706 (by decide +kernel) ⟨rfl, rfl⟩ rfl rfl rfl dX6_binding_30 ⟨Nat.zero_le _, Nat.zero_le _⟩ ?_
        refine z_istore h dX6_binding_33 (lv' := [(4, .int v10), (0, .ref (G.1 1067)), (1, .int x1), (2, .int x2), (3, .int x3)]) rfl rfl ?_
        refine z_iload h dX6_binding_35 0 rfl ?_
        refine z_if_eq h (tgt := 43) dX6_binding_37 (by decide) (fun g12 => ?_) (fun g12 => ?_)
        · have hf := it_pos g12 hf
          refine z_aload_n h dX6_binding_43 rfl 1 rfl ?_
          refine z_gfR h zC6 (d := 1098) (c := 1067) tg_1067 ln_1067 45 rfl ft_6_45 rf_1067_45 wd_121 dX6_binding_44 ?_
          refine z_iconst h (v := (2 : Int32)) dX6_binding_47 ic_2 ?_
          refine z_iload_n h dX6_binding_48 rfl 2 rfl ?_
          refine z_imul h dX6_binding_49 ?_
          refine z_iload_n h dX6_binding_50 rfl 3 rfl ?_
          refine z_iadd h dX6_binding_51 ?_
          obtain ⟨g13, hf⟩ := ck_out hf
          refine z_lald h (c := 1098) tg_1098 ln_1098 g13 dX6_binding_52 ?_
          refine z_topJ (fun v14 ev14 => ?_)
          have hf := bd_to ev14 hf
          refine z_lstore h dX6_binding_53 (lv' := [(5, .long v14), (4, .int v10), (0, .ref (G.1 1067)), (1, .int x1), (2, .int x2), (3, .int x3)]) rfl rfl ?_
          refine z_aload_n h dX6_binding_55 rfl 2 rfl ?_
          refine z_gfR h zC6 (d := 1099) (c := 1067) tg_1067 ln_1067 46 rfl ft_6_46 rf_1067_46 wd_122 dX6_binding_56 ?_
          refine z_iconst h (v := (2 : Int32)) dX6_binding_59 ic_2 ?_
          refine z_iload_n h dX6_binding_60 rfl 3 rfl ?_
          refine z_imul h dX6_binding_61 ?_
          refine z_iload_n h dX6_binding_62 rfl 4 rfl ?_
          refine z_iadd h dX6_binding_63 ?_
          obtain ⟨g15, hf⟩ := ck_out hf
          refine z_lald h (c := 1099) tg_1099 ln_1099 g15 dX6_binding_64 ?_
          refine z_topJ (fun v16 ev16 => ?_)
          have hf := bd_to ev16 hf
          refine z_lstore h dX6_binding_65 (lv' := [(7, .long v16), (5, .long v14), (4, .int v10), (0, .ref (G.1 1067)), (1, .int x1), (2, .int x2), (3, .int x3)]) rfl rfl ?_
          refine z_iconst h (v := (0 : Int32)) dX6_binding_67 ic_0 ?_
          refine z_istore h dX6_binding_68 (lv' := [(9, .int (0 : Int32)), (7, .long v16), (5, .long v14), (4, .int v10), (0, .ref (G.1 1067)), (1, .int x1), (2, .int x2), (3, .int x3)]) rfl rfl ?_
          refine z_bipush h (v := (-6 : Int32)) dX6_binding_70 bp_m6 ?_
          refine z_istore h dX6_binding_72 (lv' := [(10, .int (-6 : Int32)), (9, .int (0 : Int32)), (7, .long v16), (5, .long v14), (4, .int v10), (0, .ref (G.1 1067)), (1, .int x1), (2, .int x2), (3, .int x3)]) rfl rfl ?_
          refine z_aload_n h dX6_binding_74 rfl 5 rfl ?_
          refine z_gfI h zC6 (c := 1067) tg_1067 ln_1067 17 rfl ft_6_17 wd_425 dX6_binding_75 ?_
          refine z_iconst h (v := (1 : Int32)) dX6_binding_78 ic_1 ?_
          refine z_isub h dX6_binding_79 ?_
          refine z_topI (fun v17 ev17 => ?_)
          have hf := bd_to ev17 hf
          refine z_istore h dX6_binding_80 (lv' := [(11, .int v17), (10, .int (-6 : Int32)), (9, .int (0 : Int32)), (7, .long v16), (5, .long v14), (4, .int v10), (0, .ref (G.1 1067)), (1, .int x1), (2, .int x2), (3, .int x3)]) rfl rfl ?_
          exact z_sub [6, 7, 9, 4, 3, 2, 1, 0] rfl (k_X6_binding_h82 h hq N x1 x3 v14 v16 _ _ _ _ _ hf)
        · have hf := it_neg g12 hf
          refine z_iload h dX6_binding_40 0 rfl ?_
          exact z_iret h (rt_I hf hq) dX6_binding_42
      · have hf := it_pos g9 hf
        refine z_bipush h (v := (-2 : Int32)) dX6_binding_25 bp_m2 ?_
        exact z_iret h (rt_I hf hq) dX6_binding_27
theorem dX6_spare_0 : decode cX6_spare 0 = .ok (.aload_n 0, 1) := by decide +kernel
theorem dX6_spare_1 : decode cX6_spare 1 = .ok (.iload_n 2, 1) := by decide +kernel
theorem dX6_spare_2 : decode cX6_spare 2 = .ok (.invokevirtual 151, 3) := by decide +kernel
theorem dX6_spare_5 : decode cX6_spare 5 = .ok (.ifCond .ne 5, 3) := by decide +kernel
theorem dX6_spare_8 : decode cX6_spare 8 = .ok (.iconst (-1), 1) := by decide +kernel
theorem dX6_spare_9 : decode cX6_spare 9 = .ok (.ireturn, 1) := by decide +kernel
theorem dX6_spare_10 : decode cX6_spare 10 = .ok (.iload_n 1, 1) := by decide +kernel
theorem dX6_spare_11 : decode cX6_spare 11 = .ok (.invokestatic 329, 3) := by decide +kernel
theorem dX6_spare_14 : decode cX6_spare 14 = .ok (.ifCond .ne 6, 3) := by decide +kernel
theorem dX6_spare_17 : decode cX6_spare 17 = .ok (.bipush (-2), 2) := by decide +kernel
theorem dX6_spare_19 : decode cX6_spare 19 = .ok (.ireturn, 1) := by decide +kernel
theorem dX6_spare_20 : decode cX6_spare 20 = .ok (.aload_n 0, 1) := by decide +kernel
theorem dX6_spare_21 : decode cX6_spare 21 = .ok (.iload_n 1, 1) := by decide +kernel
theorem dX6_spare_22 : decode cX6_spare 22 = .ok (.invokevirtual 334, 3) := by decide +kernel
theorem dX6_spare_25 : decode cX6_spare 25 = .ok (.istore_n 3, 1) := by decide +kernel
theorem dX6_spare_26 : decode cX6_spare 26 = .ok (.iload_n 3, 1) := by decide +kernel
theorem dX6_spare_27 : decode cX6_spare 27 = .ok (.ifCond .eq 5, 3) := by decide +kernel
theorem dX6_spare_30 : decode cX6_spare 30 = .ok (.iload_n 3, 1) := by decide +kernel
theorem dX6_spare_31 : decode cX6_spare 31 = .ok (.ireturn, 1) := by decide +kernel
theorem dX6_spare_32 : decode cX6_spare 32 = .ok (.iconst 0, 1) := by decide +kernel
theorem dX6_spare_33 : decode cX6_spare 33 = .ok (.istore 4, 2) := by decide +kernel
theorem dX6_spare_35 : decode cX6_spare 35 = .ok (.aload_n 0, 1) := by decide +kernel
theorem dX6_spare_36 : decode cX6_spare 36 = .ok (.iload_n 2, 1) := by decide +kernel
theorem dX6_spare_37 : decode cX6_spare 37 = .ok (.putfield 82, 3) := by decide +kernel
theorem dX6_spare_40 : decode cX6_spare 40 = .ok (.iconst 1, 1) := by decide +kernel
theorem dX6_spare_41 : decode cX6_spare 41 = .ok (.istore 5, 2) := by decide +kernel
theorem dX6_spare_43 : decode cX6_spare 43 = .ok (.iload 5, 2) := by decide +kernel
theorem dX6_spare_45 : decode cX6_spare 45 = .ok (.aload_n 0, 1) := by decide +kernel
theorem dX6_spare_46 : decode cX6_spare 46 = .ok (.getfield 25, 3) := by decide +kernel
theorem dX6_spare_49 : decode cX6_spare 49 = .ok (.iload_n 2, 1) := by decide +kernel
theorem dX6_spare_50 : decode cX6_spare 50 = .ok (.iaload, 1) := by decide +kernel
theorem dX6_spare_51 : decode cX6_spare 51 = .ok (.if_icmp .ge 84, 3) := by decide +kernel
theorem dX6_spare_54 : decode cX6_spare 54 = .ok (.iload 4, 2) := by decide +kernel
theorem dX6_spare_56 : decode cX6_spare 56 = .ok (.iload 5, 2) := by decide +kernel
theorem dX6_spare_58 : decode cX6_spare 58 = .ok (.iconst 1, 1) := by decide +kernel
theorem dX6_spare_59 : decode cX6_spare 59 = .ok (.isub, 1) := by decide +kernel
theorem dX6_spare_60 : decode cX6_spare 60 = .ok (.if_icmp .ne 75, 3) := by decide +kernel
theorem dX6_spare_63 : decode cX6_spare 63 = .ok (.aload_n 0, 1) := by decide +kernel
theorem dX6_spare_64 : decode cX6_spare 64 = .ok (.aload_n 0, 1) := by decide +kernel
theorem dX6_spare_65 : decode cX6_spare 65 = .ok (.getfield 25, 3) := by decide +kernel
theorem dX6_spare_68 : decode cX6_spare 68 = .ok (.iload_n 2, 1) := by decide +kernel
theorem dX6_spare_69 : decode cX6_spare 69 = .ok (.iaload, 1) := by decide +kernel
theorem dX6_spare_70 : decode cX6_spare 70 = .ok (.iload 5, 2) := by decide +kernel
theorem dX6_spare_72 : decode cX6_spare 72 = .ok (.isub, 1) := by decide +kernel
theorem dX6_spare_73 : decode cX6_spare 73 = .ok (.putfield 227, 3) := by decide +kernel
theorem dX6_spare_76 : decode cX6_spare 76 = .ok (.aload_n 0, 1) := by decide +kernel
theorem dX6_spare_77 : decode cX6_spare 77 = .ok (.iload_n 1, 1) := by decide +kernel
theorem dX6_spare_78 : decode cX6_spare 78 = .ok (.invokevirtual 304, 3) := by decide +kernel
theorem dX6_spare_81 : decode cX6_spare 81 = .ok (.ifCond .ne 44, 3) := by decide +kernel
theorem dX6_spare_84 : decode cX6_spare 84 = .ok (.aload_n 0, 1) := by decide +kernel
theorem dX6_spare_85 : decode cX6_spare 85 = .ok (.getfield 98, 3) := by decide +kernel
theorem dX6_spare_88 : decode cX6_spare 88 = .ok (.iconst 0, 1) := by decide +kernel
theorem dX6_spare_89 : decode cX6_spare 89 = .ok (.laload, 1) := by decide +kernel
theorem dX6_spare_90 : decode cX6_spare 90 = .ok (.aload_n 0, 1) := by decide +kernel
theorem dX6_spare_91 : decode cX6_spare 91 = .ok (.getfield 110, 3) := by decide +kernel
theorem dX6_spare_94 : decode cX6_spare 94 = .ok (.iconst 2, 1) := by decide +kernel
theorem dX6_spare_95 : decode cX6_spare 95 = .ok (.iload_n 1, 1) := by decide +kernel
theorem dX6_spare_96 : decode cX6_spare 96 = .ok (.imul, 1) := by decide +kernel
theorem dX6_spare_97 : decode cX6_spare 97 = .ok (.laload, 1) := by decide +kernel
theorem dX6_spare_98 : decode cX6_spare 98 = .ok (.lcmp, 1) := by decide +kernel
theorem dX6_spare_99 : decode cX6_spare 99 = .ok (.ifCond .ne 26, 3) := by decide +kernel
theorem dX6_spare_102 : decode cX6_spare 102 = .ok (.aload_n 0, 1) := by decide +kernel
theorem dX6_spare_103 : decode cX6_spare 103 = .ok (.getfield 101, 3) := by decide +kernel
theorem dX6_spare_106 : decode cX6_spare 106 = .ok (.iconst 0, 1) := by decide +kernel
theorem dX6_spare_107 : decode cX6_spare 107 = .ok (.laload, 1) := by decide +kernel
theorem dX6_spare_108 : decode cX6_spare 108 = .ok (.aload_n 0, 1) := by decide +kernel
theorem dX6_spare_109 : decode cX6_spare 109 = .ok (.getfield 113, 3) := by decide +kernel
theorem dX6_spare_112 : decode cX6_spare 112 = .ok (.iconst 2, 1) := by decide +kernel
theorem dX6_spare_113 : decode cX6_spare 113 = .ok (.iload_n 1, 1) := by decide +kernel
theorem dX6_spare_114 : decode cX6_spare 114 = .ok (.imul, 1) := by decide +kernel
theorem dX6_spare_115 : decode cX6_spare 115 = .ok (.laload, 1) := by decide +kernel
theorem dX6_spare_116 : decode cX6_spare 116 = .ok (.lcmp, 1) := by decide +kernel
theorem dX6_spare_117 : decode cX6_spare 117 = .ok (.ifCond .ne 8, 3) := by decide +kernel
theorem dX6_spare_120 : decode cX6_spare 120 = .ok (.iload 5, 2) := by decide +kernel
theorem dX6_spare_122 : decode cX6_spare 122 = .ok (.goto 5, 3) := by decide +kernel
theorem dX6_spare_125 : decode cX6_spare 125 = .ok (.iload 4, 2) := by decide +kernel
theorem dX6_spare_127 : decode cX6_spare 127 = .ok (.istore 4, 2) := by decide +kernel
theorem dX6_spare_129 : decode cX6_spare 129 = .ok (.iinc 5 1, 3) := by decide +kernel
theorem dX6_spare_132 : decode cX6_spare 132 = .ok (.goto (-89), 3) := by decide +kernel
theorem dX6_spare_135 : decode cX6_spare 135 = .ok (.aload_n 0, 1) := by decide +kernel
theorem dX6_spare_136 : decode cX6_spare 136 = .ok (.iconst (-1), 1) := by decide +kernel
theorem dX6_spare_137 : decode cX6_spare 137 = .ok (.putfield 82, 3) := by decide +kernel
theorem dX6_spare_140 : decode cX6_spare 140 = .ok (.iload 4, 2) := by decide +kernel
theorem dX6_spare_142 : decode cX6_spare 142 = .ok (.ireturn, 1) := by decide +kernel
abbrev rm_X6_spare : Room := { frames := 6, cells := 0, slots := 0, locals := 215 }
noncomputable def f_X6_spare_b135 (N : Nat) (x4 : Int32) (σ : ZS) : Option (Int32 × ZS) := bd (sI σ 1067 30 (-1 : Int32)) fun σ13 => some (x4, σ13)
noncomputable def f_X6_spare_b127 (N : Nat) (kb43 : Int32 → Int32 → ZS → Option (Int32 × ZS)) (x1 : Int32) (x2 : Int32) (x5 : Int32) (s0 : Int32) (σ : ZS) : Option (Int32 × ZS) := bd (x5 + (1 : Int32)) fun v21 => kb43 s0 v21 σ
noncomputable def f_X6_spare_b125 (N : Nat) (kb43 : Int32 → Int32 → ZS → Option (Int32 × ZS)) (x1 : Int32) (x2 : Int32) (x4 : Int32) (x5 : Int32) (σ : ZS) : Option (Int32 × ZS) := f_X6_spare_b127 N kb43 x1 x2 x5 x4 σ
noncomputable def f_X6_spare_h43 (N : Nat) (x1 : Int32) (x2 : Int32) : Nat → Int32 → Int32 → ZS → Option (Int32 × ZS)
  | 0, _, _, _ => none
  | n + 1, x4, x5, σ => ck (inb x2 6) ((if (gI σ 1073 (x2.toNatClampNeg)) ≤ x5 then f_X6_spare_b135 N x4 σ else (if x4 = (x5 - (1 : Int32)) then ck (inb x2 6) (bd ((gI σ 1073 (x2.toNatClampNeg)) - x5) fun v16 => bd (sI σ 1067 31 v16) fun σ17 => obd (f_X6_lookFor N x1 σ17) fun v18 σ19 => (if v18 = 0 then ck (inb (0 : Int32) 2) (ck (inb ((2 : Int32) * x1) 6) ((if (gJ σ19 1094 ((0 : Int32).toNatClampNeg)) = (gJ σ19 1098 (((2 : Int32) * x1).toNatClampNeg)) then ck (inb (0 : Int32) 2) (ck (inb ((2 : Int32) * x1) 6) ((if (gJ σ19 1095 ((0 : Int32).toNatClampNeg)) = (gJ σ19 1099 (((2 : Int32) * x1).toNatClampNeg)) then f_X6_spare_b127 N (fun x4_ x5_ σ_ => f_X6_spare_h43 N x1 x2 n x4_ x5_ σ_) x1 x2 x5 x5 σ19 else f_X6_spare_b125 N (fun x4_ x5_ σ_ => f_X6_spare_h43 N x1 x2 n x4_ x5_ σ_) x1 x2 x4 x5 σ19))) else f_X6_spare_b125 N (fun x4_ x5_ σ_ => f_X6_spare_h43 N x1 x2 n x4_ x5_ σ_) x1 x2 x4 x5 σ19))) else f_X6_spare_b125 N (fun x4_ x5_ σ_ => f_X6_spare_h43 N x1 x2 n x4_ x5_ σ_) x1 x2 x4 x5 σ19)) else f_X6_spare_b135 N x4 σ)))
noncomputable def f_X6_spare (N : Nat) (x1 : Int32) (x2 : Int32) (σ : ZS) : Option (Int32 × ZS) := obd (f_X6_isBar N x2 σ) fun v1 σ2 => (if v1 = 0 then some ((-1 : Int32), σ2) else obd (f_X6_isCase N x1 σ2) fun v4 σ5 => (if v4 = 0 then some ((-2 : Int32), σ5) else obd (f_X6_refusal N x1 σ5) fun v7 σ8 => (if v7 = 0 then bd (sI σ8 1067 30 x2) fun σ10 => f_X6_spare_h43 N x1 x2 N (0 : Int32) (1 : Int32) σ10 else some (v7, σ8))))
set_option maxHeartbeats 4000000 in
set_option maxRecDepth 100000 in
theorem k_X6_spare_b135 {l : Launch} {Y : ZY} {G : ZG} {r : Int32} {σ' : ZS} (h : zOk (l, rm_X6_spare, 6, 0, 0) Y G cX6_spare RX6 (some .int)) (hq : zRet (l, rm_X6_spare, 6, 0, 0) Y G (some (.int r)) σ') (N : Nat) (x4 : Int32) (σ : ZS) (hf : f_X6_spare_b135 N x4 σ = some (r, σ')) : Z (l, rm_X6_spare, 6, 0, 0) Y G σ [(0, .ref (G.1 1067)), (4, .int x4)] [] 135 := by
  rw [f_X6_spare_b135] at hf
  refine z_aload_n h dX6_spare_135 rfl 0 rfl ?_
  refine z_iconst h (v := (-1 : Int32)) dX6_spare_136 ic_m1 ?_
  refine z_pfI h zC6 (c := 1067) tg_1067 ln_1067 30 rfl ft_6_30 wd_112 rfl (ty := .int) (by decide +kernel) rfl rfl dX6_spare_137 ?_
  refine z_gen (fun σ13 eσ13 => ?_)
  have hf := bd_to eσ13 hf
  refine z_iload h dX6_spare_140 1 rfl ?_
  exact z_iret h (rt_I hf hq) dX6_spare_142
set_option maxHeartbeats 4000000 in
set_option maxRecDepth 100000 in
theorem k_X6_spare_b127 {l : Launch} {Y : ZY} {G : ZG} {r : Int32} {σ' : ZS} (h : zOk (l, rm_X6_spare, 6, 0, 0) Y G cX6_spare RX6 (some .int)) (hq : zRet (l, rm_X6_spare, 6, 0, 0) Y G (some (.int r)) σ') (N : Nat) {kb43 : Int32 → Int32 → ZS → Option (Int32 × ZS)} (x1 : Int32) (x2 : Int32) (x5 : Int32) (s0 : Int32) (hb43 : ∀ (x4_ : Int32) (x5_ : Int32) (σ_ : ZS), kb43 x4_ x5_ σ_ = some (r, σ') → Z (l, rm_X6_spare, 6, 0, 0) Y G σ_ [(0, .ref (G.1 1067)), (1, .int x1), (2, .int x2), (4, .int x4_), (5, .int x5_)] [] 43) (σ : ZS) (hf : f_X6_spare_b127 N kb43 x1 x2 x5 s0 σ = some (r, σ')) : Z (l, rm_X6_spare, 6, 0, 0) Y G σ [(0, .ref (G.1 1067)), (1, .int x1), (2, .int x2), (5, .int x5)] [.int s0] 127 := by
  rw [f_X6_spare_b127] at hf
  refine z_istore h dX6_spare_127 (lv' := [(4, .int s0), (0, .ref (G.1 1067)), (1, .int x1), (2, .int x2), (5, .int x5)]) rfl rfl ?_
  obtain ⟨v21, ev21, hf⟩ := bd_ex hf
  refine z_iinc h (v := v21) (lv' := [(5, .int v21), (4, .int s0), (0, .ref (G.1 1067)), (1, .int x1), (2, .int x2)]) dX6_spare_129 4 rfl (by rw [ev21]; rfl) rfl rfl ?_
  refine z_goto h (tgt := 43) dX6_spare_132 (by decide) ?_
  exact z_sub [2, 3, 4, 1, 0] rfl (hb43 _ _ _ hf)
set_option maxHeartbeats 4000000 in
set_option maxRecDepth 100000 in
theorem k_X6_spare_b125 {l : Launch} {Y : ZY} {G : ZG} {r : Int32} {σ' : ZS} (h : zOk (l, rm_X6_spare, 6, 0, 0) Y G cX6_spare RX6 (some .int)) (hq : zRet (l, rm_X6_spare, 6, 0, 0) Y G (some (.int r)) σ') (N : Nat) {kb43 : Int32 → Int32 → ZS → Option (Int32 × ZS)} (x1 : Int32) (x2 : Int32) (x4 : Int32) (x5 : Int32) (hb43 : ∀ (x4_ : Int32) (x5_ : Int32) (σ_ : ZS), kb43 x4_ x5_ σ_ = some (r, σ') → Z (l, rm_X6_spare, 6, 0, 0) Y G σ_ [(0, .ref (G.1 1067)), (1, .int x1), (2, .int x2), (4, .int x4_), (5, .int x5_)] [] 43) (σ : ZS) (hf : f_X6_spare_b125 N kb43 x1 x2 x4 x5 σ = some (r, σ')) : Z (l, rm_X6_spare, 6, 0, 0) Y G σ [(0, .ref (G.1 1067)), (1, .int x1), (2, .int x2), (4, .int x4), (5, .int x5)] [] 125 := by
  rw [f_X6_spare_b125] at hf
  refine z_iload h dX6_spare_125 3 rfl ?_
  exact z_sub [0, 1, 2, 4] rfl (k_X6_spare_b127 h hq N x1 x2 x5 x4 hb43 _ hf)
set_option maxHeartbeats 4000000 in
set_option maxRecDepth 100000 in
theorem k_X6_spare_h43 {l : Launch} {Y : ZY} {G : ZG} {r : Int32} {σ' : ZS} (h : zOk (l, rm_X6_spare, 6, 0, 0) Y G cX6_spare RX6 (some .int)) (hq : zRet (l, rm_X6_spare, 6, 0, 0) Y G (some (.int r)) σ') (N : Nat) (x1 : Int32) (x2 : Int32) : ∀ (n : Nat) (x4 : Int32) (x5 : Int32) (σ : ZS), f_X6_spare_h43 N x1 x2 n x4 x5 σ = some (r, σ') → Z (l, rm_X6_spare, 6, 0, 0) Y G σ [(0, .ref (G.1 1067)), (1, .int x1), (2, .int x2), (4, .int x4), (5, .int x5)] [] 43 := by
  intro n
  induction n with
  | zero =>
    intro x4 x5 σ hf
    rw [f_X6_spare_h43] at hf
    cases hf
  | succ n ih =>
    intro x4 x5 σ hf
    rw [f_X6_spare_h43] at hf
    refine z_iload h dX6_spare_43 4 rfl ?_
    refine z_aload_n h dX6_spare_45 rfl 0 rfl ?_
    refine z_gfR h zC6 (d := 1073) (c := 1067) tg_1067 ln_1067 7 rfl ft_6_7 rf_1067_7 wd_93 dX6_spare_46 ?_
    refine z_iload_n h dX6_spare_49 rfl 2 rfl ?_
    obtain ⟨g11, hf⟩ := ck_out hf
    refine z_iald h (c := 1073) tg_1073 ln_1073 g11 dX6_spare_50 ?_
    refine z_icmp_ge h (tgt := 135) dX6_spare_51 (by decide) (fun g12 => ?_) (fun g12 => ?_)
    · have hf := it_pos g12 hf
      exact z_sub [0, 3] rfl (k_X6_spare_b135 h hq N x4 _ hf)
    · have hf := it_neg g12 hf
      refine z_iload h dX6_spare_54 3 rfl ?_
      refine z_iload h dX6_spare_56 4 rfl ?_
      refine z_iconst h (v := (1 : Int32)) dX6_spare_58 ic_1 ?_
      refine z_isub h dX6_spare_59 ?_
      refine z_icmp_ne h (tgt := 135) dX6_spare_60 (by decide) (fun g14 => ?_) (fun g14 => ?_)
      · have hf := it_neg g14 hf
        exact z_sub [0, 3] rfl (k_X6_spare_b135 h hq N x4 _ hf)
      · have hf := it_pos g14 hf
        refine z_aload_n h dX6_spare_63 rfl 0 rfl ?_
        refine z_aload_n h dX6_spare_64 rfl 0 rfl ?_
        refine z_gfR h zC6 (d := 1073) (c := 1067) tg_1067 ln_1067 7 rfl ft_6_7 rf_1067_7 wd_93 dX6_spare_65 ?_
        refine z_iload_n h dX6_spare_68 rfl 2 rfl ?_
        obtain ⟨g15, hf⟩ := ck_out hf
        refine z_iald h (c := 1073) tg_1073 ln_1073 g15 dX6_spare_69 ?_
        refine z_iload h dX6_spare_70 4 rfl ?_
        refine z_isub h dX6_spare_72 ?_
        refine z_topI (fun v16 ev16 => ?_)
        have hf := bd_to ev16 hf
        refine z_pfI h zC6 (c := 1067) tg_1067 ln_1067 31 rfl ft_6_31 wd_667 rfl (ty := .int) (by decide +kernel) rfl rfl dX6_spare_73 ?_
        refine z_gen (fun σ17 eσ17 => ?_)
        have hf := bd_to eσ17 hf
        refine z_aload_n h dX6_spare_76 rfl 0 rfl ?_
        refine z_iload_n h dX6_spare_77 rfl 1 rfl ?_
        obtain ⟨v18, σ19, e19, hf⟩ := obd_out hf
        refine z_cVv h (n := 1) (c_X6_lookFor l G e19) zC6 tg_1067 ln_1067 rfl rfl wd_621 wd_622 wd_623 wd_5 wd_624 (by decide +kernel) ⟨rfl, rfl⟩ rfl rfl rfl dX6_spare_78 ⟨Nat.zero_le _, Nat.zero_le _⟩ ?_
        refine z_if_ne h (tgt := 125) dX6_spare_81 (by decide) (fun g20 => ?_) (fun g20 => ?_)
        · have hf := it_neg g20 hf
          exact z_sub [0, 1, 2, 3, 4] rfl (k_X6_spare_b125 h hq N x1 x2 x4 x5 (fun x4_ x5_ σ_ hf_ => ih x4_ x5_ σ_ hf_) _ hf)
        · have hf := it_pos g20 hf
          refine z_aload_n h dX6_spare_84 rfl 0 rfl ?_
          refine z_gfR h zC6 (d := 1094) (c := 1067) tg_1067 ln_1067 41 rfl ft_6_41 rf_1067_41 wd_117 dX6_spare_85 ?_
          refine z_iconst h (v := (0 : Int32)) dX6_spare_88 ic_0 ?_
          obtain ⟨g22, hf⟩ := ck_out hf
          refine z_lald h (c := 1094) tg_1094 ln_1094 g22 dX6_spare_89 ?_
          refine z_aload_n h dX6_spare_90 rfl 0 rfl ?_
          refine z_gfR h zC6 (d := 1098) (c := 1067) tg_1067 ln_1067 45 rfl ft_6_45 rf_1067_45 wd_121 dX6_spare_91 ?_
          refine z_iconst h (v := (2 : Int32)) dX6_spare_94 ic_2 ?_
          refine z_iload_n h dX6_spare_95 rfl 1 rfl ?_
          refine z_imul h dX6_spare_96 ?_
          obtain ⟨g23, hf⟩ := ck_out hf
          refine z_lald h (c := 1098) tg_1098 ln_1098 g23 dX6_spare_97 ?_
          refine z_lif_ne h (tgt := 125) dX6_spare_98 dX6_spare_99 (by decide) (fun g24 => ?_) (fun g24 => ?_)
          · have hf := it_neg g24 hf
            exact z_sub [0, 1, 2, 3, 4] rfl (k_X6_spare_b125 h hq N x1 x2 x4 x5 (fun x4_ x5_ σ_ hf_ => ih x4_ x5_ σ_ hf_) _ hf)
          · have hf := it_pos g24 hf
            refine z_aload_n h dX6_spare_102 rfl 0 rfl ?_
            refine z_gfR h zC6 (d := 1095) (c := 1067) tg_1067 ln_1067 42 rfl ft_6_42 rf_1067_42 wd_118 dX6_spare_103 ?_
            refine z_iconst h (v := (0 : Int32)) dX6_spare_106 ic_0 ?_
            obtain ⟨g25, hf⟩ := ck_out hf
            refine z_lald h (c := 1095) tg_1095 ln_1095 g25 dX6_spare_107 ?_
            refine z_aload_n h dX6_spare_108 rfl 0 rfl ?_
            refine z_gfR h zC6 (d := 1099) (c := 1067) tg_1067 ln_1067 46 rfl ft_6_46 rf_1067_46 wd_122 dX6_spare_109 ?_
            refine z_iconst h (v := (2 : Int32)) dX6_spare_112 ic_2 ?_
            refine z_iload_n h dX6_spare_113 rfl 1 rfl ?_
            refine z_imul h dX6_spare_114 ?_
            obtain ⟨g26, hf⟩ := ck_out hf
            refine z_lald h (c := 1099) tg_1099 ln_1099 g26 dX6_spare_115 ?_
            refine z_lif_ne h (tgt := 125) dX6_spare_116 dX6_spare_117 (by decide) (fun g27 => ?_) (fun g27 => ?_)
            · have hf := it_neg g27 hf
              exact z_sub [0, 1, 2, 3, 4] rfl (k_X6_spare_b125 h hq N x1 x2 x4 x5 (fun x4_ x5_ σ_ hf_ => ih x4_ x5_ σ_ hf_) _ hf)
            · have hf := it_pos g27 hf
              refine z_iload h dX6_spare_120 4 rfl ?_
              refine z_goto h (tgt := 127) dX6_spare_122 (by decide) ?_
              exact z_sub [0, 1, 2, 4] rfl (k_X6_spare_b127 h hq N x1 x2 x5 x5 (fun x4_ x5_ σ_ hf_ => ih x4_ x5_ σ_ hf_) _ hf)
set_option maxHeartbeats 4000000 in
set_option maxRecDepth 100000 in
theorem c_X6_spare (l : Launch) (G : ZG) {N : Nat} {x1 : Int32} {x2 : Int32} {σ σ' : ZS} {r : Int32} (hf : f_X6_spare N x1 x2 σ = some (r, σ')) : zMet l G yX6_spare cX6_spare 6 (some .int) rm_X6_spare [.ref (G.1 1067), .int x1, .int x2] σ (some (.int r)) σ' := by
  refine z_met (by decide +kernel) rfl (fun Y h hq => ?_)
  have h : zOk (l, rm_X6_spare, 6, 0, 0) Y G cX6_spare RX6 (some .int) := h
  rw [f_X6_spare] at hf
  refine z_sub (lv' := [(0, .ref (G.1 1067)), (1, .int x1), (2, .int x2)]) [0, 1, 2] rfl ?_
  refine z_aload_n h dX6_spare_0 rfl 0 rfl ?_
  refine z_iload_n h dX6_spare_1 rfl 2 rfl ?_
  obtain ⟨v1, σ2, e2, hf⟩ := obd_out hf
  refine z_cVv h (n := 1) (c_X6_isBar l G e2) zC6 tg_1067 ln_1067 rfl rfl wd_217 wd_218 wd_219 wd_5 wd_220 (by decide +kernel) ⟨rfl, rfl⟩ rfl rfl rfl dX6_spare_2 ⟨Nat.zero_le _, Nat.zero_le _⟩ ?_
  refine z_if_ne h (tgt := 10) dX6_spare_5 (by decide) (fun g3 => ?_) (fun g3 => ?_)
  · have hf := it_neg g3 hf
    refine z_iload_n h dX6_spare_10 rfl 1 rfl ?_
    obtain ⟨v4, σ5, e5, hf⟩ := obd_out hf
    refine z_cSv h (n := 1) (c_X6_isCase l G e5) rfl wd_582 wd_583 wd_5 wd_584 (by decide +kernel) ⟨rfl, rfl⟩ rfl rfl rfl dX6_spare_11 ⟨Nat.zero_le _, Nat.zero_le _⟩ ?_
    refine z_if_ne h (tgt := 20) dX6_spare_14 (by decide) (fun g6 => ?_) (fun g6 => ?_)
    · have hf := it_neg g6 hf
      refine z_aload_n h dX6_spare_20 rfl 0 rfl ?_
      refine z_iload_n h dX6_spare_21 rfl 1 rfl ?_
      obtain ⟨v7, σ8, e8, hf⟩ := obd_out hf
      refine z_cVv h (n := 1) (c_X6_refusal l G e8) zC6 tg_1067 ln_1067 rfl rfl wd_703 wd_704 wd_705 wd_5 wd_706 (by decide +kernel) ⟨rfl, rfl⟩ rfl rfl rfl dX6_spare_22 ⟨Nat.zero_le _, Nat.zero_le _⟩ ?_
      refine z_istore_n h dX6_spare_25 rfl (lv' := [(3, .int v7), (0, .ref (G.1 1067)), (1, .int x1), (2, .int x2)]) rfl rfl ?_
      refine z_iload_n h dX6_spare_26 rfl 0 rfl ?_
      refine z_if_eq h (tgt := 32) dX6_spare_27 (by decide) (fun g9 => ?_) (fun g9 => ?_)
      · have hf := it_pos g9 hf
        refine z_iconst h (v := (0 : Int32)) dX6_spare_32 ic_0 ?_
        refine z_istore h dX6_spare_33 (lv' := [(4, .int (0 : Int32)), (3, .int v7), (0, .ref (G.1 1067)), (1, .int x1), (2, .int x2)]) rfl rfl ?_
        refine z_aload_n h dX6_spare_35 rfl 2 rfl ?_
        refine z_iload_n h dX6_spare_36 rfl 4 rfl ?_
        refine z_pfI h zC6 (c := 1067) tg_1067 ln_1067 30 rfl ft_6_30 wd_112 rfl (ty := .int) (by decide +kernel) rfl rfl dX6_spare_37 ?_
        refine z_gen (fun σ10 eσ10 => ?_)
        have hf := bd_to eσ10 hf
        refine z_iconst h (v := (1 : Int32)) dX6_spare_40 ic_1 ?_
        refine z_istore h dX6_spare_41 (lv' := [(5, .int (1 : Int32)), (4, .int (0 : Int32)), (3, .int v7), (0, .ref (G.1 1067)), (1, .int x1), (2, .int x2)]) rfl rfl ?_
        exact z_sub [3, 4, 5, 1, 0] rfl (k_X6_spare_h43 h hq N x1 x2 _ _ _ _ hf)
      · have hf := it_neg g9 hf
        refine z_iload_n h dX6_spare_30 rfl 0 rfl ?_
        exact z_iret h (rt_I hf hq) dX6_spare_31
    · have hf := it_pos g6 hf
      refine z_bipush h (v := (-2 : Int32)) dX6_spare_17 bp_m2 ?_
      exact z_iret h (rt_I hf hq) dX6_spare_19
  · have hf := it_pos g3 hf
    refine z_iconst h (v := (-1 : Int32)) dX6_spare_8 ic_m1 ?_
    exact z_iret h (rt_I hf hq) dX6_spare_9
theorem dX6_weakest_0 : decode cX6_weakest 0 = .ok (.iload_n 1, 1) := by decide +kernel
theorem dX6_weakest_1 : decode cX6_weakest 1 = .ok (.invokestatic 329, 3) := by decide +kernel
theorem dX6_weakest_4 : decode cX6_weakest 4 = .ok (.ifCond .ne 6, 3) := by decide +kernel
theorem dX6_weakest_7 : decode cX6_weakest 7 = .ok (.bipush (-2), 2) := by decide +kernel
theorem dX6_weakest_9 : decode cX6_weakest 9 = .ok (.ireturn, 1) := by decide +kernel
theorem dX6_weakest_10 : decode cX6_weakest 10 = .ok (.aload_n 0, 1) := by decide +kernel
theorem dX6_weakest_11 : decode cX6_weakest 11 = .ok (.iload_n 1, 1) := by decide +kernel
theorem dX6_weakest_12 : decode cX6_weakest 12 = .ok (.invokevirtual 334, 3) := by decide +kernel
theorem dX6_weakest_15 : decode cX6_weakest 15 = .ok (.istore_n 2, 1) := by decide +kernel
theorem dX6_weakest_16 : decode cX6_weakest 16 = .ok (.iload_n 2, 1) := by decide +kernel
theorem dX6_weakest_17 : decode cX6_weakest 17 = .ok (.ifCond .eq 5, 3) := by decide +kernel
theorem dX6_weakest_20 : decode cX6_weakest 20 = .ok (.iload_n 2, 1) := by decide +kernel
theorem dX6_weakest_21 : decode cX6_weakest 21 = .ok (.ireturn, 1) := by decide +kernel
theorem dX6_weakest_22 : decode cX6_weakest 22 = .ok (.aload_n 0, 1) := by decide +kernel
theorem dX6_weakest_23 : decode cX6_weakest 23 = .ok (.getfield 110, 3) := by decide +kernel
theorem dX6_weakest_26 : decode cX6_weakest 26 = .ok (.iconst 2, 1) := by decide +kernel
theorem dX6_weakest_27 : decode cX6_weakest 27 = .ok (.iload_n 1, 1) := by decide +kernel
theorem dX6_weakest_28 : decode cX6_weakest 28 = .ok (.imul, 1) := by decide +kernel
theorem dX6_weakest_29 : decode cX6_weakest 29 = .ok (.laload, 1) := by decide +kernel
theorem dX6_weakest_30 : decode cX6_weakest 30 = .ok (.lstore_n 3, 1) := by decide +kernel
theorem dX6_weakest_31 : decode cX6_weakest 31 = .ok (.aload_n 0, 1) := by decide +kernel
theorem dX6_weakest_32 : decode cX6_weakest 32 = .ok (.getfield 113, 3) := by decide +kernel
theorem dX6_weakest_35 : decode cX6_weakest 35 = .ok (.iconst 2, 1) := by decide +kernel
theorem dX6_weakest_36 : decode cX6_weakest 36 = .ok (.iload_n 1, 1) := by decide +kernel
theorem dX6_weakest_37 : decode cX6_weakest 37 = .ok (.imul, 1) := by decide +kernel
theorem dX6_weakest_38 : decode cX6_weakest 38 = .ok (.laload, 1) := by decide +kernel
theorem dX6_weakest_39 : decode cX6_weakest 39 = .ok (.lstore 5, 2) := by decide +kernel
theorem dX6_weakest_41 : decode cX6_weakest 41 = .ok (.bipush (-6), 2) := by decide +kernel
theorem dX6_weakest_43 : decode cX6_weakest 43 = .ok (.istore 7, 2) := by decide +kernel
theorem dX6_weakest_45 : decode cX6_weakest 45 = .ok (.iconst 0, 1) := by decide +kernel
theorem dX6_weakest_46 : decode cX6_weakest 46 = .ok (.istore 8, 2) := by decide +kernel
theorem dX6_weakest_48 : decode cX6_weakest 48 = .ok (.iload 8, 2) := by decide +kernel
theorem dX6_weakest_50 : decode cX6_weakest 50 = .ok (.aload_n 0, 1) := by decide +kernel
theorem dX6_weakest_51 : decode cX6_weakest 51 = .ok (.getfield 141, 3) := by decide +kernel
theorem dX6_weakest_54 : decode cX6_weakest 54 = .ok (.if_icmp .ge 74, 3) := by decide +kernel
theorem dX6_weakest_57 : decode cX6_weakest 57 = .ok (.aload_n 0, 1) := by decide +kernel
theorem dX6_weakest_58 : decode cX6_weakest 58 = .ok (.iload 8, 2) := by decide +kernel
theorem dX6_weakest_60 : decode cX6_weakest 60 = .ok (.putfield 82, 3) := by decide +kernel
theorem dX6_weakest_63 : decode cX6_weakest 63 = .ok (.aload_n 0, 1) := by decide +kernel
theorem dX6_weakest_64 : decode cX6_weakest 64 = .ok (.aload_n 0, 1) := by decide +kernel
theorem dX6_weakest_65 : decode cX6_weakest 65 = .ok (.getfield 25, 3) := by decide +kernel
theorem dX6_weakest_68 : decode cX6_weakest 68 = .ok (.iload 8, 2) := by decide +kernel
theorem dX6_weakest_70 : decode cX6_weakest 70 = .ok (.iaload, 1) := by decide +kernel
theorem dX6_weakest_71 : decode cX6_weakest 71 = .ok (.iconst 1, 1) := by decide +kernel
theorem dX6_weakest_72 : decode cX6_weakest 72 = .ok (.iadd, 1) := by decide +kernel
theorem dX6_weakest_73 : decode cX6_weakest 73 = .ok (.putfield 227, 3) := by decide +kernel
theorem dX6_weakest_76 : decode cX6_weakest 76 = .ok (.aload_n 0, 1) := by decide +kernel
theorem dX6_weakest_77 : decode cX6_weakest 77 = .ok (.iload_n 1, 1) := by decide +kernel
theorem dX6_weakest_78 : decode cX6_weakest 78 = .ok (.invokevirtual 304, 3) := by decide +kernel
theorem dX6_weakest_81 : decode cX6_weakest 81 = .ok (.pop, 1) := by decide +kernel
theorem dX6_weakest_82 : decode cX6_weakest 82 = .ok (.aload_n 0, 1) := by decide +kernel
theorem dX6_weakest_83 : decode cX6_weakest 83 = .ok (.getfield 98, 3) := by decide +kernel
theorem dX6_weakest_86 : decode cX6_weakest 86 = .ok (.iconst 0, 1) := by decide +kernel
theorem dX6_weakest_87 : decode cX6_weakest 87 = .ok (.laload, 1) := by decide +kernel
theorem dX6_weakest_88 : decode cX6_weakest 88 = .ok (.aload_n 0, 1) := by decide +kernel
theorem dX6_weakest_89 : decode cX6_weakest 89 = .ok (.getfield 101, 3) := by decide +kernel
theorem dX6_weakest_92 : decode cX6_weakest 92 = .ok (.iconst 0, 1) := by decide +kernel
theorem dX6_weakest_93 : decode cX6_weakest 93 = .ok (.laload, 1) := by decide +kernel
theorem dX6_weakest_94 : decode cX6_weakest 94 = .ok (.lload_n 3, 1) := by decide +kernel
theorem dX6_weakest_95 : decode cX6_weakest 95 = .ok (.lload 5, 2) := by decide +kernel
theorem dX6_weakest_97 : decode cX6_weakest 97 = .ok (.invokestatic 296, 3) := by decide +kernel
theorem dX6_weakest_100 : decode cX6_weakest 100 = .ok (.ifCond .le 22, 3) := by decide +kernel
theorem dX6_weakest_103 : decode cX6_weakest 103 = .ok (.iload 8, 2) := by decide +kernel
theorem dX6_weakest_105 : decode cX6_weakest 105 = .ok (.istore 7, 2) := by decide +kernel
theorem dX6_weakest_107 : decode cX6_weakest 107 = .ok (.aload_n 0, 1) := by decide +kernel
theorem dX6_weakest_108 : decode cX6_weakest 108 = .ok (.getfield 98, 3) := by decide +kernel
theorem dX6_weakest_111 : decode cX6_weakest 111 = .ok (.iconst 0, 1) := by decide +kernel
theorem dX6_weakest_112 : decode cX6_weakest 112 = .ok (.laload, 1) := by decide +kernel
theorem dX6_weakest_113 : decode cX6_weakest 113 = .ok (.lstore_n 3, 1) := by decide +kernel
theorem dX6_weakest_114 : decode cX6_weakest 114 = .ok (.aload_n 0, 1) := by decide +kernel
theorem dX6_weakest_115 : decode cX6_weakest 115 = .ok (.getfield 101, 3) := by decide +kernel
theorem dX6_weakest_118 : decode cX6_weakest 118 = .ok (.iconst 0, 1) := by decide +kernel
theorem dX6_weakest_119 : decode cX6_weakest 119 = .ok (.laload, 1) := by decide +kernel
theorem dX6_weakest_120 : decode cX6_weakest 120 = .ok (.lstore 5, 2) := by decide +kernel
theorem dX6_weakest_122 : decode cX6_weakest 122 = .ok (.iinc 8 1, 3) := by decide +kernel
theorem dX6_weakest_125 : decode cX6_weakest 125 = .ok (.goto (-77), 3) := by decide +kernel
theorem dX6_weakest_128 : decode cX6_weakest 128 = .ok (.aload_n 0, 1) := by decide +kernel
theorem dX6_weakest_129 : decode cX6_weakest 129 = .ok (.iconst (-1), 1) := by decide +kernel
theorem dX6_weakest_130 : decode cX6_weakest 130 = .ok (.putfield 82, 3) := by decide +kernel
theorem dX6_weakest_133 : decode cX6_weakest 133 = .ok (.iload 7, 2) := by decide +kernel
theorem dX6_weakest_135 : decode cX6_weakest 135 = .ok (.ireturn, 1) := by decide +kernel
abbrev rm_X6_weakest : Room := { frames := 6, cells := 0, slots := 0, locals := 215 }
noncomputable def f_X6_weakest_b122 (N : Nat) (kb48 : Int64 → Int64 → Int32 → Int32 → ZS → Option (Int32 × ZS)) (x1 : Int32) (x3 : Int64) (x5 : Int64) (x7 : Int32) (x8 : Int32) (σ : ZS) : Option (Int32 × ZS) := bd (x8 + (1 : Int32)) fun v24 => kb48 x3 x5 x7 v24 σ
noncomputable def f_X6_weakest_h48 (N : Nat) (x1 : Int32) : Nat → Int64 → Int64 → Int32 → Int32 → ZS → Option (Int32 × ZS)
  | 0, _, _, _, _, _ => none
  | n + 1, x3, x5, x7, x8, σ => (if (gI σ 1067 4) ≤ x8 then bd (sI σ 1067 30 (-1 : Int32)) fun σ12 => some (x7, σ12) else bd (sI σ 1067 30 x8) fun σ13 => ck (inb x8 6) (bd ((gI σ13 1073 (x8.toNatClampNeg)) + (1 : Int32)) fun v15 => bd (sI σ13 1067 31 v15) fun σ16 => obd (f_X6_lookFor N x1 σ16) fun v17 σ18 => ck (inb (0 : Int32) 2) (ck (inb (0 : Int32) 2) (obd (f_X6_compare N (gJ σ18 1094 ((0 : Int32).toNatClampNeg)) (gJ σ18 1095 ((0 : Int32).toNatClampNeg)) x3 x5 σ18) fun v21 σ22 => (if v21 ≤ 0 then f_X6_weakest_b122 N (fun x3_ x5_ x7_ x8_ σ_ => f_X6_weakest_h48 N x1 n x3_ x5_ x7_ x8_ σ_) x1 x3 x5 x7 x8 σ22 else ck (inb (0 : Int32) 2) (bd (gJ σ22 1094 ((0 : Int32).toNatClampNeg)) fun v26 => ck (inb (0 : Int32) 2) (bd (gJ σ22 1095 ((0 : Int32).toNatClampNeg)) fun v28 => f_X6_weakest_b122 N (fun x3_ x5_ x7_ x8_ σ_ => f_X6_weakest_h48 N x1 n x3_ x5_ x7_ x8_ σ_) x1 v26 v28 x8 x8 σ22)))))))
noncomputable def f_X6_weakest (N : Nat) (x1 : Int32) (σ : ZS) : Option (Int32 × ZS) := obd (f_X6_isCase N x1 σ) fun v1 σ2 => (if v1 = 0 then some ((-2 : Int32), σ2) else obd (f_X6_refusal N x1 σ2) fun v4 σ5 => (if v4 = 0 then ck (inb ((2 : Int32) * x1) 6) (bd (gJ σ5 1098 (((2 : Int32) * x1).toNatClampNeg)) fun v8 => ck (inb ((2 : Int32) * x1) 6) (bd (gJ σ5 1099 (((2 : Int32) * x1).toNatClampNeg)) fun v10 => f_X6_weakest_h48 N x1 N v8 v10 (-6 : Int32) (0 : Int32) σ5)) else some (v4, σ5)))
set_option maxHeartbeats 4000000 in
set_option maxRecDepth 100000 in
theorem k_X6_weakest_b122 {l : Launch} {Y : ZY} {G : ZG} {r : Int32} {σ' : ZS} (h : zOk (l, rm_X6_weakest, 9, 0, 0) Y G cX6_weakest RX6 (some .int)) (hq : zRet (l, rm_X6_weakest, 9, 0, 0) Y G (some (.int r)) σ') (N : Nat) {kb48 : Int64 → Int64 → Int32 → Int32 → ZS → Option (Int32 × ZS)} (x1 : Int32) (x3 : Int64) (x5 : Int64) (x7 : Int32) (x8 : Int32) (hb48 : ∀ (x3_ : Int64) (x5_ : Int64) (x7_ : Int32) (x8_ : Int32) (σ_ : ZS), kb48 x3_ x5_ x7_ x8_ σ_ = some (r, σ') → Z (l, rm_X6_weakest, 9, 0, 0) Y G σ_ [(0, .ref (G.1 1067)), (1, .int x1), (3, .long x3_), (5, .long x5_), (7, .int x7_), (8, .int x8_)] [] 48) (σ : ZS) (hf : f_X6_weakest_b122 N kb48 x1 x3 x5 x7 x8 σ = some (r, σ')) : Z (l, rm_X6_weakest, 9, 0, 0) Y G σ [(0, .ref (G.1 1067)), (1, .int x1), (3, .long x3), (5, .long x5), (7, .int x7), (8, .int x8)] [] 122 := by
  rw [f_X6_weakest_b122] at hf
  obtain ⟨v24, ev24, hf⟩ := bd_ex hf
  refine z_iinc h (v := v24) (lv' := [(8, .int v24), (0, .ref (G.1 1067)), (1, .int x1), (3, .long x3), (5, .long x5), (7, .int x7)]) dX6_weakest_122 5 rfl (by rw [ev24]; rfl) rfl rfl ?_
  refine z_goto h (tgt := 48) dX6_weakest_125 (by decide) ?_
  exact z_sub [1, 2, 3, 4, 5, 0] rfl (hb48 _ _ _ _ _ hf)
set_option maxHeartbeats 4000000 in
set_option maxRecDepth 100000 in
theorem k_X6_weakest_h48 {l : Launch} {Y : ZY} {G : ZG} {r : Int32} {σ' : ZS} (h : zOk (l, rm_X6_weakest, 9, 0, 0) Y G cX6_weakest RX6 (some .int)) (hq : zRet (l, rm_X6_weakest, 9, 0, 0) Y G (some (.int r)) σ') (N : Nat) (x1 : Int32) : ∀ (n : Nat) (x3 : Int64) (x5 : Int64) (x7 : Int32) (x8 : Int32) (σ : ZS), f_X6_weakest_h48 N x1 n x3 x5 x7 x8 σ = some (r, σ') → Z (l, rm_X6_weakest, 9, 0, 0) Y G σ [(0, .ref (G.1 1067)), (1, .int x1), (3, .long x3), (5, .long x5), (7, .int x7), (8, .int x8)] [] 48 := by
  intro n
  induction n with
  | zero =>
    intro x3 x5 x7 x8 σ hf
    rw [f_X6_weakest_h48] at hf
    cases hf
  | succ n ih =>
    intro x3 x5 x7 x8 σ hf
    rw [f_X6_weakest_h48] at hf
    refine z_iload h dX6_weakest_48 5 rfl ?_
    refine z_aload_n h dX6_weakest_50 rfl 0 rfl ?_
    refine z_gfI h zC6 (c := 1067) tg_1067 ln_1067 4 rfl ft_6_4 wd_200 dX6_weakest_51 ?_
    refine z_icmp_ge h (tgt := 128) dX6_weakest_54 (by decide) (fun g11 => ?_) (fun g11 => ?_)
    · have hf := it_pos g11 hf
      refine z_aload_n h dX6_weakest_128 rfl 0 rfl ?_
      refine z_iconst h (v := (-1 : Int32)) dX6_weakest_129 ic_m1 ?_
      refine z_pfI h zC6 (c := 1067) tg_1067 ln_1067 30 rfl ft_6_30 wd_112 rfl (ty := .int) (by decide +kernel) rfl rfl dX6_weakest_130 ?_
      refine z_gen (fun σ12 eσ12 => ?_)
      have hf := bd_to eσ12 hf
      refine z_iload h dX6_weakest_133 4 rfl ?_
      exact z_iret h (rt_I hf hq) dX6_weakest_135
    · have hf := it_neg g11 hf
      refine z_aload_n h dX6_weakest_57 rfl 0 rfl ?_
      refine z_iload h dX6_weakest_58 5 rfl ?_
      refine z_pfI h zC6 (c := 1067) tg_1067 ln_1067 30 rfl ft_6_30 wd_112 rfl (ty := .int) (by decide +kernel) rfl rfl dX6_weakest_60 ?_
      refine z_gen (fun σ13 eσ13 => ?_)
      have hf := bd_to eσ13 hf
      refine z_aload_n h dX6_weakest_63 rfl 0 rfl ?_
      refine z_aload_n h dX6_weakest_64 rfl 0 rfl ?_
      refine z_gfR h zC6 (d := 1073) (c := 1067) tg_1067 ln_1067 7 rfl ft_6_7 rf_1067_7 wd_93 dX6_weakest_65 ?_
      refine z_iload h dX6_weakest_68 5 rfl ?_
      obtain ⟨g14, hf⟩ := ck_out hf
      refine z_iald h (c := 1073) tg_1073 ln_1073 g14 dX6_weakest_70 ?_
      refine z_iconst h (v := (1 : Int32)) dX6_weakest_71 ic_1 ?_
      refine z_iadd h dX6_weakest_72 ?_
      refine z_topI (fun v15 ev15 => ?_)
      have hf := bd_to ev15 hf
      refine z_pfI h zC6 (c := 1067) tg_1067 ln_1067 31 rfl ft_6_31 wd_667 rfl (ty := .int) (by decide +kernel) rfl rfl dX6_weakest_73 ?_
      refine z_gen (fun σ16 eσ16 => ?_)
      have hf := bd_to eσ16 hf
      refine z_aload_n h dX6_weakest_76 rfl 0 rfl ?_
      refine z_iload_n h dX6_weakest_77 rfl 1 rfl ?_
      obtain ⟨v17, σ18, e18, hf⟩ := obd_out hf
      refine z_cVv h (n := 1) (c_X6_lookFor l G e18) zC6 tg_1067 ln_1067 rfl rfl wd_621 wd_622 wd_623 wd_5 wd_624 (by decide +kernel) ⟨rfl, rfl⟩ rfl rfl rfl dX6_weakest_78 ⟨Nat.zero_le _, Nat.zero_le _⟩ ?_
      refine z_pop h dX6_weakest_81 rfl ?_
      refine z_aload_n h dX6_weakest_82 rfl 0 rfl ?_
      refine z_gfR h zC6 (d := 1094) (c := 1067) tg_1067 ln_1067 41 rfl ft_6_41 rf_1067_41 wd_117 dX6_weakest_83 ?_
      refine z_iconst h (v := (0 : Int32)) dX6_weakest_86 ic_0 ?_
      obtain ⟨g19, hf⟩ := ck_out hf
      refine z_lald h (c := 1094) tg_1094 ln_1094 g19 dX6_weakest_87 ?_
      refine z_aload_n h dX6_weakest_88 rfl 0 rfl ?_
      refine z_gfR h zC6 (d := 1095) (c := 1067) tg_1067 ln_1067 42 rfl ft_6_42 rf_1067_42 wd_118 dX6_weakest_89 ?_
      refine z_iconst h (v := (0 : Int32)) dX6_weakest_92 ic_0 ?_
      obtain ⟨g20, hf⟩ := ck_out hf
      refine z_lald h (c := 1095) tg_1095 ln_1095 g20 dX6_weakest_93 ?_
      refine z_lload_n h dX6_weakest_94 rfl 2 rfl ?_
      refine z_lload h dX6_weakest_95 3 rfl ?_
      obtain ⟨v21, σ22, e22, hf⟩ := obd_out hf
      refine z_cSv h (n := 4) (c_X6_compare l G e22) rfl wd_682 wd_683 wd_5 wd_684 (by decide +kernel) ⟨rfl, rfl⟩ rfl rfl rfl dX6_weakest_97 ⟨Nat.zero_le _, Nat.zero_le _⟩ ?_
      refine z_if_le h (tgt := 122) dX6_weakest_100 (by decide) (fun g23 => ?_) (fun g23 => ?_)
      · have hf := it_pos g23 hf
        exact z_sub [0, 1, 2, 3, 4, 5] rfl (k_X6_weakest_b122 h hq N x1 x3 x5 x7 x8 (fun x3_ x5_ x7_ x8_ σ_ hf_ => ih x3_ x5_ x7_ x8_ σ_ hf_) _ hf)
      · have hf := it_neg g23 hf
        refine z_iload h dX6_weakest_103 5 rfl ?_
        refine z_istore h dX6_weakest_105 (lv' := [(7, .int x8), (0, .ref (G.1 1067)), (1, .int x1), (3, .long x3), (5, .long x5), (8, .int x8)]) rfl rfl ?_
        refine z_aload_n h dX6_weakest_107 rfl 1 rfl ?_
        refine z_gfR h zC6 (d := 1094) (c := 1067) tg_1067 ln_1067 41 rfl ft_6_41 rf_1067_41 wd_117 dX6_weakest_108 ?_
        refine z_iconst h (v := (0 : Int32)) dX6_weakest_111 ic_0 ?_
        obtain ⟨g25, hf⟩ := ck_out hf
        refine z_lald h (c := 1094) tg_1094 ln_1094 g25 dX6_weakest_112 ?_
        refine z_topJ (fun v26 ev26 => ?_)
        have hf := bd_to ev26 hf
        refine z_lstore_n h dX6_weakest_113 rfl (lv' := [(3, .long v26), (7, .int x8), (0, .ref (G.1 1067)), (1, .int x1), (5, .long x5), (8, .int x8)]) rfl rfl ?_
        refine z_aload_n h dX6_weakest_114 rfl 2 rfl ?_
        refine z_gfR h zC6 (d := 1095) (c := 1067) tg_1067 ln_1067 42 rfl ft_6_42 rf_1067_42 wd_118 dX6_weakest_115 ?_
        refine z_iconst h (v := (0 : Int32)) dX6_weakest_118 ic_0 ?_
        obtain ⟨g27, hf⟩ := ck_out hf
        refine z_lald h (c := 1095) tg_1095 ln_1095 g27 dX6_weakest_119 ?_
        refine z_topJ (fun v28 ev28 => ?_)
        have hf := bd_to ev28 hf
        refine z_lstore h dX6_weakest_120 (lv' := [(5, .long v28), (3, .long v26), (7, .int x8), (0, .ref (G.1 1067)), (1, .int x1), (8, .int x8)]) rfl rfl ?_
        exact z_sub [3, 4, 1, 0, 2, 5] rfl (k_X6_weakest_b122 h hq N x1 v26 v28 x8 x8 (fun x3_ x5_ x7_ x8_ σ_ hf_ => ih x3_ x5_ x7_ x8_ σ_ hf_) _ hf)
set_option maxHeartbeats 4000000 in
set_option maxRecDepth 100000 in
theorem c_X6_weakest (l : Launch) (G : ZG) {N : Nat} {x1 : Int32} {σ σ' : ZS} {r : Int32} (hf : f_X6_weakest N x1 σ = some (r, σ')) : zMet l G yX6_weakest cX6_weakest 9 (some .int) rm_X6_weakest [.ref (G.1 1067), .int x1] σ (some (.int r)) σ' := by
  refine z_met (by decide +kernel) rfl (fun Y h hq => ?_)
  have h : zOk (l, rm_X6_weakest, 9, 0, 0) Y G cX6_weakest RX6 (some .int) := h
  rw [f_X6_weakest] at hf
  refine z_sub (lv' := [(0, .ref (G.1 1067)), (1, .int x1)]) [0, 1] rfl ?_
  refine z_iload_n h dX6_weakest_0 rfl 1 rfl ?_
  obtain ⟨v1, σ2, e2, hf⟩ := obd_out hf
  refine z_cSv h (n := 1) (c_X6_isCase l G e2) rfl wd_582 wd_583 wd_5 wd_584 (by decide +kernel) ⟨rfl, rfl⟩ rfl rfl rfl dX6_weakest_1 ⟨Nat.zero_le _, Nat.zero_le _⟩ ?_
  refine z_if_ne h (tgt := 10) dX6_weakest_4 (by decide) (fun g3 => ?_) (fun g3 => ?_)
  · have hf := it_neg g3 hf
    refine z_aload_n h dX6_weakest_10 rfl 0 rfl ?_
    refine z_iload_n h dX6_weakest_11 rfl 1 rfl ?_
    obtain ⟨v4, σ5, e5, hf⟩ := obd_out hf
    refine z_cVv h (n := 1) (c_X6_refusal l G e5) zC6 tg_1067 ln_1067 rfl rfl wd_703 wd_704 wd_705 wd_5 wd_706 (by decide +kernel) ⟨rfl, rfl⟩ rfl rfl rfl dX6_weakest_12 ⟨Nat.zero_le _, Nat.zero_le _⟩ ?_
    refine z_istore_n h dX6_weakest_15 rfl (lv' := [(2, .int v4), (0, .ref (G.1 1067)), (1, .int x1)]) rfl rfl ?_
    refine z_iload_n h dX6_weakest_16 rfl 0 rfl ?_
    refine z_if_eq h (tgt := 22) dX6_weakest_17 (by decide) (fun g6 => ?_) (fun g6 => ?_)
    · have hf := it_pos g6 hf
      refine z_aload_n h dX6_weakest_22 rfl 1 rfl ?_
      refine z_gfR h zC6 (d := 1098) (c := 1067) tg_1067 ln_1067 45 rfl ft_6_45 rf_1067_45 wd_121 dX6_weakest_23 ?_
      refine z_iconst h (v := (2 : Int32)) dX6_weakest_26 ic_2 ?_
      refine z_iload_n h dX6_weakest_27 rfl 2 rfl ?_
      refine z_imul h dX6_weakest_28 ?_
      obtain ⟨g7, hf⟩ := ck_out hf
      refine z_lald h (c := 1098) tg_1098 ln_1098 g7 dX6_weakest_29 ?_
      refine z_topJ (fun v8 ev8 => ?_)
      have hf := bd_to ev8 hf
      refine z_lstore_n h dX6_weakest_30 rfl (lv' := [(3, .long v8), (2, .int v4), (0, .ref (G.1 1067)), (1, .int x1)]) rfl rfl ?_
      refine z_aload_n h dX6_weakest_31 rfl 2 rfl ?_
      refine z_gfR h zC6 (d := 1099) (c := 1067) tg_1067 ln_1067 46 rfl ft_6_46 rf_1067_46 wd_122 dX6_weakest_32 ?_
      refine z_iconst h (v := (2 : Int32)) dX6_weakest_35 ic_2 ?_
      refine z_iload_n h dX6_weakest_36 rfl 3 rfl ?_
      refine z_imul h dX6_weakest_37 ?_
      obtain ⟨g9, hf⟩ := ck_out hf
      refine z_lald h (c := 1099) tg_1099 ln_1099 g9 dX6_weakest_38 ?_
      refine z_topJ (fun v10 ev10 => ?_)
      have hf := bd_to ev10 hf
      refine z_lstore h dX6_weakest_39 (lv' := [(5, .long v10), (3, .long v8), (2, .int v4), (0, .ref (G.1 1067)), (1, .int x1)]) rfl rfl ?_
      refine z_bipush h (v := (-6 : Int32)) dX6_weakest_41 bp_m6 ?_
      refine z_istore h dX6_weakest_43 (lv' := [(7, .int (-6 : Int32)), (5, .long v10), (3, .long v8), (2, .int v4), (0, .ref (G.1 1067)), (1, .int x1)]) rfl rfl ?_
      refine z_iconst h (v := (0 : Int32)) dX6_weakest_45 ic_0 ?_
      refine z_istore h dX6_weakest_46 (lv' := [(8, .int (0 : Int32)), (7, .int (-6 : Int32)), (5, .long v10), (3, .long v8), (2, .int v4), (0, .ref (G.1 1067)), (1, .int x1)]) rfl rfl ?_
      exact z_sub [5, 6, 3, 2, 1, 0] rfl (k_X6_weakest_h48 h hq N x1 _ _ _ _ _ _ hf)
    · have hf := it_neg g6 hf
      refine z_iload_n h dX6_weakest_20 rfl 0 rfl ?_
      exact z_iret h (rt_I hf hq) dX6_weakest_21
  · have hf := it_pos g3 hf
    refine z_bipush h (v := (-2 : Int32)) dX6_weakest_7 bp_m2 ?_
    exact z_iret h (rt_I hf hq) dX6_weakest_9
theorem dX6_image_0 : decode cX6_image 0 = .ok (.iload_n 1, 1) := by decide +kernel
theorem dX6_image_1 : decode cX6_image 1 = .ok (.iconst 0, 1) := by decide +kernel
theorem dX6_image_2 : decode cX6_image 2 = .ok (.iconst 1, 1) := by decide +kernel
theorem dX6_image_3 : decode cX6_image 3 = .ok (.invokestatic 137, 3) := by decide +kernel
theorem dX6_image_6 : decode cX6_image 6 = .ok (.ifCond .ne 6, 3) := by decide +kernel
theorem dX6_image_9 : decode cX6_image 9 = .ok (.bipush (-2), 2) := by decide +kernel
theorem dX6_image_11 : decode cX6_image 11 = .ok (.ireturn, 1) := by decide +kernel
theorem dX6_image_12 : decode cX6_image 12 = .ok (.bipush 83, 2) := by decide +kernel
theorem dX6_image_14 : decode cX6_image 14 = .ok (.iload_n 1, 1) := by decide +kernel
theorem dX6_image_15 : decode cX6_image 15 = .ok (.imul, 1) := by decide +kernel
theorem dX6_image_16 : decode cX6_image 16 = .ok (.istore_n 2, 1) := by decide +kernel
theorem dX6_image_17 : decode cX6_image 17 = .ok (.iconst 0, 1) := by decide +kernel
theorem dX6_image_18 : decode cX6_image 18 = .ok (.istore_n 3, 1) := by decide +kernel
theorem dX6_image_19 : decode cX6_image 19 = .ok (.iload_n 3, 1) := by decide +kernel
theorem dX6_image_20 : decode cX6_image 20 = .ok (.bipush 7, 2) := by decide +kernel
theorem dX6_image_22 : decode cX6_image 22 = .ok (.if_icmp .ge 61, 3) := by decide +kernel
theorem dX6_image_25 : decode cX6_image 25 = .ok (.aload_n 0, 1) := by decide +kernel
theorem dX6_image_26 : decode cX6_image 26 = .ok (.getfield 128, 3) := by decide +kernel
theorem dX6_image_29 : decode cX6_image 29 = .ok (.iload_n 2, 1) := by decide +kernel
theorem dX6_image_30 : decode cX6_image 30 = .ok (.iconst 3, 1) := by decide +kernel
theorem dX6_image_31 : decode cX6_image 31 = .ok (.iload_n 3, 1) := by decide +kernel
theorem dX6_image_32 : decode cX6_image 32 = .ok (.imul, 1) := by decide +kernel
theorem dX6_image_33 : decode cX6_image 33 = .ok (.iadd, 1) := by decide +kernel
theorem dX6_image_34 : decode cX6_image 34 = .ok (.aload_n 0, 1) := by decide +kernel
theorem dX6_image_35 : decode cX6_image 35 = .ok (.getfield 7, 3) := by decide +kernel
theorem dX6_image_38 : decode cX6_image 38 = .ok (.iload_n 3, 1) := by decide +kernel
theorem dX6_image_39 : decode cX6_image 39 = .ok (.iaload, 1) := by decide +kernel
theorem dX6_image_40 : decode cX6_image 40 = .ok (.iastore, 1) := by decide +kernel
theorem dX6_image_41 : decode cX6_image 41 = .ok (.aload_n 0, 1) := by decide +kernel
theorem dX6_image_42 : decode cX6_image 42 = .ok (.getfield 128, 3) := by decide +kernel
theorem dX6_image_45 : decode cX6_image 45 = .ok (.iload_n 2, 1) := by decide +kernel
theorem dX6_image_46 : decode cX6_image 46 = .ok (.iconst 3, 1) := by decide +kernel
theorem dX6_image_47 : decode cX6_image 47 = .ok (.iload_n 3, 1) := by decide +kernel
theorem dX6_image_48 : decode cX6_image 48 = .ok (.imul, 1) := by decide +kernel
theorem dX6_image_49 : decode cX6_image 49 = .ok (.iadd, 1) := by decide +kernel
theorem dX6_image_50 : decode cX6_image 50 = .ok (.iconst 1, 1) := by decide +kernel
theorem dX6_image_51 : decode cX6_image 51 = .ok (.iadd, 1) := by decide +kernel
theorem dX6_image_52 : decode cX6_image 52 = .ok (.aload_n 0, 1) := by decide +kernel
theorem dX6_image_53 : decode cX6_image 53 = .ok (.getfield 13, 3) := by decide +kernel
theorem dX6_image_56 : decode cX6_image 56 = .ok (.iload_n 3, 1) := by decide +kernel
theorem dX6_image_57 : decode cX6_image 57 = .ok (.iaload, 1) := by decide +kernel
theorem dX6_image_58 : decode cX6_image 58 = .ok (.iastore, 1) := by decide +kernel
theorem dX6_image_59 : decode cX6_image 59 = .ok (.aload_n 0, 1) := by decide +kernel
theorem dX6_image_60 : decode cX6_image 60 = .ok (.getfield 128, 3) := by decide +kernel
theorem dX6_image_63 : decode cX6_image 63 = .ok (.iload_n 2, 1) := by decide +kernel
theorem dX6_image_64 : decode cX6_image 64 = .ok (.iconst 3, 1) := by decide +kernel
theorem dX6_image_65 : decode cX6_image 65 = .ok (.iload_n 3, 1) := by decide +kernel
theorem dX6_image_66 : decode cX6_image 66 = .ok (.imul, 1) := by decide +kernel
theorem dX6_image_67 : decode cX6_image 67 = .ok (.iadd, 1) := by decide +kernel
theorem dX6_image_68 : decode cX6_image 68 = .ok (.iconst 2, 1) := by decide +kernel
theorem dX6_image_69 : decode cX6_image 69 = .ok (.iadd, 1) := by decide +kernel
theorem dX6_image_70 : decode cX6_image 70 = .ok (.aload_n 0, 1) := by decide +kernel
theorem dX6_image_71 : decode cX6_image 71 = .ok (.getfield 16, 3) := by decide +kernel
theorem dX6_image_74 : decode cX6_image 74 = .ok (.iload_n 3, 1) := by decide +kernel
theorem dX6_image_75 : decode cX6_image 75 = .ok (.iaload, 1) := by decide +kernel
theorem dX6_image_76 : decode cX6_image 76 = .ok (.iastore, 1) := by decide +kernel
theorem dX6_image_77 : decode cX6_image 77 = .ok (.iinc 3 1, 3) := by decide +kernel
theorem dX6_image_80 : decode cX6_image 80 = .ok (.goto (-61), 3) := by decide +kernel
theorem dX6_image_83 : decode cX6_image 83 = .ok (.iconst 0, 1) := by decide +kernel
theorem dX6_image_84 : decode cX6_image 84 = .ok (.istore_n 3, 1) := by decide +kernel
theorem dX6_image_85 : decode cX6_image 85 = .ok (.iload_n 3, 1) := by decide +kernel
theorem dX6_image_86 : decode cX6_image 86 = .ok (.bipush 6, 2) := by decide +kernel
theorem dX6_image_88 : decode cX6_image 88 = .ok (.if_icmp .ge 66, 3) := by decide +kernel
theorem dX6_image_91 : decode cX6_image 91 = .ok (.aload_n 0, 1) := by decide +kernel
theorem dX6_image_92 : decode cX6_image 92 = .ok (.getfield 128, 3) := by decide +kernel
theorem dX6_image_95 : decode cX6_image 95 = .ok (.iload_n 2, 1) := by decide +kernel
theorem dX6_image_96 : decode cX6_image 96 = .ok (.bipush 21, 2) := by decide +kernel
theorem dX6_image_98 : decode cX6_image 98 = .ok (.iadd, 1) := by decide +kernel
theorem dX6_image_99 : decode cX6_image 99 = .ok (.iconst 3, 1) := by decide +kernel
theorem dX6_image_100 : decode cX6_image 100 = .ok (.iload_n 3, 1) := by decide +kernel
theorem dX6_image_101 : decode cX6_image 101 = .ok (.imul, 1) := by decide +kernel
theorem dX6_image_102 : decode cX6_image 102 = .ok (.iadd, 1) := by decide +kernel
theorem dX6_image_103 : decode cX6_image 103 = .ok (.aload_n 0, 1) := by decide +kernel
theorem dX6_image_104 : decode cX6_image 104 = .ok (.getfield 19, 3) := by decide +kernel
theorem dX6_image_107 : decode cX6_image 107 = .ok (.iload_n 3, 1) := by decide +kernel
theorem dX6_image_108 : decode cX6_image 108 = .ok (.iaload, 1) := by decide +kernel
theorem dX6_image_109 : decode cX6_image 109 = .ok (.iastore, 1) := by decide +kernel
theorem dX6_image_110 : decode cX6_image 110 = .ok (.aload_n 0, 1) := by decide +kernel
theorem dX6_image_111 : decode cX6_image 111 = .ok (.getfield 128, 3) := by decide +kernel
theorem dX6_image_114 : decode cX6_image 114 = .ok (.iload_n 2, 1) := by decide +kernel
theorem dX6_image_115 : decode cX6_image 115 = .ok (.bipush 22, 2) := by decide +kernel
theorem dX6_image_117 : decode cX6_image 117 = .ok (.iadd, 1) := by decide +kernel
theorem dX6_image_118 : decode cX6_image 118 = .ok (.iconst 3, 1) := by decide +kernel
theorem dX6_image_119 : decode cX6_image 119 = .ok (.iload_n 3, 1) := by decide +kernel
theorem dX6_image_120 : decode cX6_image 120 = .ok (.imul, 1) := by decide +kernel
theorem dX6_image_121 : decode cX6_image 121 = .ok (.iadd, 1) := by decide +kernel
theorem dX6_image_122 : decode cX6_image 122 = .ok (.aload_n 0, 1) := by decide +kernel
theorem dX6_image_123 : decode cX6_image 123 = .ok (.getfield 22, 3) := by decide +kernel
theorem dX6_image_126 : decode cX6_image 126 = .ok (.iload_n 3, 1) := by decide +kernel
theorem dX6_image_127 : decode cX6_image 127 = .ok (.iaload, 1) := by decide +kernel
theorem dX6_image_128 : decode cX6_image 128 = .ok (.iastore, 1) := by decide +kernel
theorem dX6_image_129 : decode cX6_image 129 = .ok (.aload_n 0, 1) := by decide +kernel
theorem dX6_image_130 : decode cX6_image 130 = .ok (.getfield 128, 3) := by decide +kernel
theorem dX6_image_133 : decode cX6_image 133 = .ok (.iload_n 2, 1) := by decide +kernel
theorem dX6_image_134 : decode cX6_image 134 = .ok (.bipush 23, 2) := by decide +kernel
theorem dX6_image_136 : decode cX6_image 136 = .ok (.iadd, 1) := by decide +kernel
theorem dX6_image_137 : decode cX6_image 137 = .ok (.iconst 3, 1) := by decide +kernel
theorem dX6_image_138 : decode cX6_image 138 = .ok (.iload_n 3, 1) := by decide +kernel
theorem dX6_image_139 : decode cX6_image 139 = .ok (.imul, 1) := by decide +kernel
theorem dX6_image_140 : decode cX6_image 140 = .ok (.iadd, 1) := by decide +kernel
theorem dX6_image_141 : decode cX6_image 141 = .ok (.aload_n 0, 1) := by decide +kernel
theorem dX6_image_142 : decode cX6_image 142 = .ok (.getfield 25, 3) := by decide +kernel
theorem dX6_image_145 : decode cX6_image 145 = .ok (.iload_n 3, 1) := by decide +kernel
theorem dX6_image_146 : decode cX6_image 146 = .ok (.iaload, 1) := by decide +kernel
theorem dX6_image_147 : decode cX6_image 147 = .ok (.iastore, 1) := by decide +kernel
theorem dX6_image_148 : decode cX6_image 148 = .ok (.iinc 3 1, 3) := by decide +kernel
theorem dX6_image_151 : decode cX6_image 151 = .ok (.goto (-66), 3) := by decide +kernel
theorem dX6_image_154 : decode cX6_image 154 = .ok (.iconst 0, 1) := by decide +kernel
theorem dX6_image_155 : decode cX6_image 155 = .ok (.istore_n 3, 1) := by decide +kernel
theorem dX6_image_156 : decode cX6_image 156 = .ok (.iload_n 3, 1) := by decide +kernel
theorem dX6_image_157 : decode cX6_image 157 = .ok (.bipush 42, 2) := by decide +kernel
theorem dX6_image_159 : decode cX6_image 159 = .ok (.if_icmp .ge 26, 3) := by decide +kernel
theorem dX6_image_162 : decode cX6_image 162 = .ok (.aload_n 0, 1) := by decide +kernel
theorem dX6_image_163 : decode cX6_image 163 = .ok (.getfield 128, 3) := by decide +kernel
theorem dX6_image_166 : decode cX6_image 166 = .ok (.iload_n 2, 1) := by decide +kernel
theorem dX6_image_167 : decode cX6_image 167 = .ok (.bipush 39, 2) := by decide +kernel
theorem dX6_image_169 : decode cX6_image 169 = .ok (.iadd, 1) := by decide +kernel
theorem dX6_image_170 : decode cX6_image 170 = .ok (.iload_n 3, 1) := by decide +kernel
theorem dX6_image_171 : decode cX6_image 171 = .ok (.iadd, 1) := by decide +kernel
theorem dX6_image_172 : decode cX6_image 172 = .ok (.aload_n 0, 1) := by decide +kernel
theorem dX6_image_173 : decode cX6_image 173 = .ok (.getfield 28, 3) := by decide +kernel
theorem dX6_image_176 : decode cX6_image 176 = .ok (.iload_n 3, 1) := by decide +kernel
theorem dX6_image_177 : decode cX6_image 177 = .ok (.iaload, 1) := by decide +kernel
theorem dX6_image_178 : decode cX6_image 178 = .ok (.iastore, 1) := by decide +kernel
theorem dX6_image_179 : decode cX6_image 179 = .ok (.iinc 3 1, 3) := by decide +kernel
theorem dX6_image_182 : decode cX6_image 182 = .ok (.goto (-26), 3) := by decide +kernel
theorem dX6_image_185 : decode cX6_image 185 = .ok (.aload_n 0, 1) := by decide +kernel
theorem dX6_image_186 : decode cX6_image 186 = .ok (.getfield 128, 3) := by decide +kernel
theorem dX6_image_189 : decode cX6_image 189 = .ok (.iload_n 2, 1) := by decide +kernel
theorem dX6_image_190 : decode cX6_image 190 = .ok (.bipush 81, 2) := by decide +kernel
theorem dX6_image_192 : decode cX6_image 192 = .ok (.iadd, 1) := by decide +kernel
theorem dX6_image_193 : decode cX6_image 193 = .ok (.aload_n 0, 1) := by decide +kernel
theorem dX6_image_194 : decode cX6_image 194 = .ok (.getfield 134, 3) := by decide +kernel
theorem dX6_image_197 : decode cX6_image 197 = .ok (.iastore, 1) := by decide +kernel
theorem dX6_image_198 : decode cX6_image 198 = .ok (.aload_n 0, 1) := by decide +kernel
theorem dX6_image_199 : decode cX6_image 199 = .ok (.getfield 128, 3) := by decide +kernel
theorem dX6_image_202 : decode cX6_image 202 = .ok (.iload_n 2, 1) := by decide +kernel
theorem dX6_image_203 : decode cX6_image 203 = .ok (.bipush 82, 2) := by decide +kernel
theorem dX6_image_205 : decode cX6_image 205 = .ok (.iadd, 1) := by decide +kernel
theorem dX6_image_206 : decode cX6_image 206 = .ok (.aload_n 0, 1) := by decide +kernel
theorem dX6_image_207 : decode cX6_image 207 = .ok (.getfield 141, 3) := by decide +kernel
theorem dX6_image_210 : decode cX6_image 210 = .ok (.iastore, 1) := by decide +kernel
theorem dX6_image_211 : decode cX6_image 211 = .ok (.aload_n 0, 1) := by decide +kernel
theorem dX6_image_212 : decode cX6_image 212 = .ok (.getfield 131, 3) := by decide +kernel
theorem dX6_image_215 : decode cX6_image 215 = .ok (.iload_n 1, 1) := by decide +kernel
theorem dX6_image_216 : decode cX6_image 216 = .ok (.iconst 1, 1) := by decide +kernel
theorem dX6_image_217 : decode cX6_image 217 = .ok (.bastore, 1) := by decide +kernel
theorem dX6_image_218 : decode cX6_image 218 = .ok (.iconst 1, 1) := by decide +kernel
theorem dX6_image_219 : decode cX6_image 219 = .ok (.ireturn, 1) := by decide +kernel
abbrev rm_X6_image : Room := { frames := 1, cells := 0, slots := 0, locals := 30 }
noncomputable def f_X6_image_h156 (N : Nat) (x1 : Int32) (x2 : Int32) : Nat → Int32 → ZS → Option (Int32 × ZS)
  | 0, _, _ => none
  | n + 1, x3, σ => (if (42 : Int32) ≤ x3 then bd (gI σ 1067 0) fun v8 => ck (inb (x2 + (81 : Int32)) 166) (bd (sI σ 1104 ((x2 + (81 : Int32)).toNatClampNeg) v8) fun σ10 => bd (gI σ10 1067 4) fun v11 => ck (inb (x2 + (82 : Int32)) 166) (bd (sI σ10 1104 ((x2 + (82 : Int32)).toNatClampNeg) v11) fun σ13 => ck (inb x1 2) (bd (sI σ13 1105 (x1.toNatClampNeg) (1 : Int32)) fun σ15 => some ((1 : Int32), σ15)))) else ck (inb x3 42) (bd (gI σ 1074 (x3.toNatClampNeg)) fun v17 => ck (inb ((x2 + (39 : Int32)) + x3) 166) (bd (sI σ 1104 (((x2 + (39 : Int32)) + x3).toNatClampNeg) v17) fun σ19 => bd (x3 + (1 : Int32)) fun v20 => f_X6_image_h156 N x1 x2 n v20 σ19)))
noncomputable def f_X6_image_h85 (N : Nat) (x1 : Int32) (x2 : Int32) : Nat → Int32 → ZS → Option (Int32 × ZS)
  | 0, _, _ => none
  | n + 1, x3, σ => (if (6 : Int32) ≤ x3 then f_X6_image_h156 N x1 x2 N (0 : Int32) σ else ck (inb x3 6) (bd (gI σ 1071 (x3.toNatClampNeg)) fun v22 => ck (inb ((x2 + (21 : Int32)) + ((3 : Int32) * x3)) 166) (bd (sI σ 1104 (((x2 + (21 : Int32)) + ((3 : Int32) * x3)).toNatClampNeg) v22) fun σ24 => ck (inb x3 6) (bd (gI σ24 1072 (x3.toNatClampNeg)) fun v26 => ck (inb ((x2 + (22 : Int32)) + ((3 : Int32) * x3)) 166) (bd (sI σ24 1104 (((x2 + (22 : Int32)) + ((3 : Int32) * x3)).toNatClampNeg) v26) fun σ28 => ck (inb x3 6) (bd (gI σ28 1073 (x3.toNatClampNeg)) fun v30 => ck (inb ((x2 + (23 : Int32)) + ((3 : Int32) * x3)) 166) (bd (sI σ28 1104 (((x2 + (23 : Int32)) + ((3 : Int32) * x3)).toNatClampNeg) v30) fun σ32 => bd (x3 + (1 : Int32)) fun v33 => f_X6_image_h85 N x1 x2 n v33 σ32)))))))
noncomputable def f_X6_image_h19 (N : Nat) (x1 : Int32) (x2 : Int32) : Nat → Int32 → ZS → Option (Int32 × ZS)
  | 0, _, _ => none
  | n + 1, x3, σ => (if (7 : Int32) ≤ x3 then f_X6_image_h85 N x1 x2 N (0 : Int32) σ else ck (inb x3 7) (bd (gI σ 1068 (x3.toNatClampNeg)) fun v35 => ck (inb (x2 + ((3 : Int32) * x3)) 166) (bd (sI σ 1104 ((x2 + ((3 : Int32) * x3)).toNatClampNeg) v35) fun σ37 => ck (inb x3 7) (bd (gI σ37 1069 (x3.toNatClampNeg)) fun v39 => ck (inb ((x2 + ((3 : Int32) * x3)) + (1 : Int32)) 166) (bd (sI σ37 1104 (((x2 + ((3 : Int32) * x3)) + (1 : Int32)).toNatClampNeg) v39) fun σ41 => ck (inb x3 7) (bd (gI σ41 1070 (x3.toNatClampNeg)) fun v43 => ck (inb ((x2 + ((3 : Int32) * x3)) + (2 : Int32)) 166) (bd (sI σ41 1104 (((x2 + ((3 : Int32) * x3)) + (2 : Int32)).toNatClampNeg) v43) fun σ45 => bd (x3 + (1 : Int32)) fun v46 => f_X6_image_h19 N x1 x2 n v46 σ45)))))))
noncomputable def f_X6_image (N : Nat) (x1 : Int32) (σ : ZS) : Option (Int32 × ZS) := obd (f_X6_in N x1 (0 : Int32) (1 : Int32) σ) fun v1 σ2 => (if v1 = 0 then some ((-2 : Int32), σ2) else bd ((83 : Int32) * x1) fun v4 => f_X6_image_h19 N x1 v4 N (0 : Int32) σ2)
set_option maxHeartbeats 4000000 in
set_option maxRecDepth 100000 in
theorem k_X6_image_h156 {l : Launch} {Y : ZY} {G : ZG} {r : Int32} {σ' : ZS} (h : zOk (l, rm_X6_image, 4, 0, 0) Y G cX6_image RX6 (some .int)) (hq : zRet (l, rm_X6_image, 4, 0, 0) Y G (some (.int r)) σ') (N : Nat) (x1 : Int32) (x2 : Int32) : ∀ (n : Nat) (x3 : Int32) (σ : ZS), f_X6_image_h156 N x1 x2 n x3 σ = some (r, σ') → Z (l, rm_X6_image, 4, 0, 0) Y G σ [(0, .ref (G.1 1067)), (1, .int x1), (2, .int x2), (3, .int x3)] [] 156 := by
  intro n
  induction n with
  | zero =>
    intro x3 σ hf
    rw [f_X6_image_h156] at hf
    cases hf
  | succ n ih =>
    intro x3 σ hf
    rw [f_X6_image_h156] at hf
    refine z_iload_n h dX6_image_156 rfl 3 rfl ?_
    refine z_bipush h (v := (42 : Int32)) dX6_image_157 bp_42 ?_
    refine z_icmp_ge h (tgt := 185) dX6_image_159 (by decide) (fun g7 => ?_) (fun g7 => ?_)
    · have hf := it_pos g7 hf
      refine z_aload_n h dX6_image_185 rfl 0 rfl ?_
      refine z_gfR h zC6 (d := 1104) (c := 1067) tg_1067 ln_1067 51 rfl ft_6_51 rf_1067_51 wd_127 dX6_image_186 ?_
      refine z_iload_n h dX6_image_189 rfl 2 rfl ?_
      refine z_bipush h (v := (81 : Int32)) dX6_image_190 bp_81 ?_
      refine z_iadd h dX6_image_192 ?_
      refine z_aload_n h dX6_image_193 rfl 0 rfl ?_
      refine z_gfI h zC6 (c := 1067) tg_1067 ln_1067 0 rfl ft_6_0 wd_155 dX6_image_194 ?_
      refine z_topI (fun v8 ev8 => ?_)
      have hf := bd_to ev8 hf
      obtain ⟨g9, hf⟩ := ck_out hf
      refine z_iast h (c := 1104) tg_1104 ln_1104 g9 dX6_image_197 ?_
      refine z_gen (fun σ10 eσ10 => ?_)
      have hf := bd_to eσ10 hf
      refine z_aload_n h dX6_image_198 rfl 0 rfl ?_
      refine z_gfR h zC6 (d := 1104) (c := 1067) tg_1067 ln_1067 51 rfl ft_6_51 rf_1067_51 wd_127 dX6_image_199 ?_
      refine z_iload_n h dX6_image_202 rfl 2 rfl ?_
      refine z_bipush h (v := (82 : Int32)) dX6_image_203 bp_82 ?_
      refine z_iadd h dX6_image_205 ?_
      refine z_aload_n h dX6_image_206 rfl 0 rfl ?_
      refine z_gfI h zC6 (c := 1067) tg_1067 ln_1067 4 rfl ft_6_4 wd_200 dX6_image_207 ?_
      refine z_topI (fun v11 ev11 => ?_)
      have hf := bd_to ev11 hf
      obtain ⟨g12, hf⟩ := ck_out hf
      refine z_iast h (c := 1104) tg_1104 ln_1104 g12 dX6_image_210 ?_
      refine z_gen (fun σ13 eσ13 => ?_)
      have hf := bd_to eσ13 hf
      refine z_aload_n h dX6_image_211 rfl 0 rfl ?_
      refine z_gfR h zC6 (d := 1105) (c := 1067) tg_1067 ln_1067 52 rfl ft_6_52 rf_1067_52 wd_128 dX6_image_212 ?_
      refine z_iload_n h dX6_image_215 rfl 1 rfl ?_
      refine z_iconst h (v := (1 : Int32)) dX6_image_216 ic_1 ?_
      obtain ⟨g14, hf⟩ := ck_out hf
      refine z_zast h (c := 1105) tg_1105 ln_1105 g14 rfl dX6_image_217 ?_
      refine z_gen (fun σ15 eσ15 => ?_)
      have hf := bd_to eσ15 hf
      refine z_iconst h (v := (1 : Int32)) dX6_image_218 ic_1 ?_
      exact z_iret h (rt_I hf hq) dX6_image_219
    · have hf := it_neg g7 hf
      refine z_aload_n h dX6_image_162 rfl 0 rfl ?_
      refine z_gfR h zC6 (d := 1104) (c := 1067) tg_1067 ln_1067 51 rfl ft_6_51 rf_1067_51 wd_127 dX6_image_163 ?_
      refine z_iload_n h dX6_image_166 rfl 2 rfl ?_
      refine z_bipush h (v := (39 : Int32)) dX6_image_167 bp_39 ?_
      refine z_iadd h dX6_image_169 ?_
      refine z_iload_n h dX6_image_170 rfl 3 rfl ?_
      refine z_iadd h dX6_image_171 ?_
      refine z_aload_n h dX6_image_172 rfl 0 rfl ?_
      refine z_gfR h zC6 (d := 1074) (c := 1067) tg_1067 ln_1067 8 rfl ft_6_8 rf_1067_8 wd_94 dX6_image_173 ?_
      refine z_iload_n h dX6_image_176 rfl 3 rfl ?_
      obtain ⟨g16, hf⟩ := ck_out hf
      refine z_iald h (c := 1074) tg_1074 ln_1074 g16 dX6_image_177 ?_
      refine z_topI (fun v17 ev17 => ?_)
      have hf := bd_to ev17 hf
      obtain ⟨g18, hf⟩ := ck_out hf
      refine z_iast h (c := 1104) tg_1104 ln_1104 g18 dX6_image_178 ?_
      refine z_gen (fun σ19 eσ19 => ?_)
      have hf := bd_to eσ19 hf
      obtain ⟨v20, ev20, hf⟩ := bd_ex hf
      refine z_iinc h (v := v20) (lv' := [(3, .int v20), (0, .ref (G.1 1067)), (1, .int x1), (2, .int x2)]) dX6_image_179 3 rfl (by rw [ev20]; rfl) rfl rfl ?_
      refine z_goto h (tgt := 156) dX6_image_182 (by decide) ?_
      exact z_sub [1, 2, 3, 0] rfl (ih _ _ hf)
set_option maxHeartbeats 4000000 in
set_option maxRecDepth 100000 in
theorem k_X6_image_h85 {l : Launch} {Y : ZY} {G : ZG} {r : Int32} {σ' : ZS} (h : zOk (l, rm_X6_image, 4, 0, 0) Y G cX6_image RX6 (some .int)) (hq : zRet (l, rm_X6_image, 4, 0, 0) Y G (some (.int r)) σ') (N : Nat) (x1 : Int32) (x2 : Int32) : ∀ (n : Nat) (x3 : Int32) (σ : ZS), f_X6_image_h85 N x1 x2 n x3 σ = some (r, σ') → Z (l, rm_X6_image, 4, 0, 0) Y G σ [(0, .ref (G.1 1067)), (1, .int x1), (2, .int x2), (3, .int x3)] [] 85 := by
  intro n
  induction n with
  | zero =>
    intro x3 σ hf
    rw [f_X6_image_h85] at hf
    cases hf
  | succ n ih =>
    intro x3 σ hf
    rw [f_X6_image_h85] at hf
    refine z_iload_n h dX6_image_85 rfl 3 rfl ?_
    refine z_bipush h (v := (6 : Int32)) dX6_image_86 bp_6 ?_
    refine z_icmp_ge h (tgt := 154) dX6_image_88 (by decide) (fun g6 => ?_) (fun g6 => ?_)
    · have hf := it_pos g6 hf
      refine z_iconst h (v := (0 : Int32)) dX6_image_154 ic_0 ?_
      refine z_istore_n h dX6_image_155 rfl (lv' := [(3, .int (0 : Int32)), (0, .ref (G.1 1067)), (1, .int x1), (2, .int x2)]) rfl rfl ?_
      exact z_sub [1, 2, 3, 0] rfl (k_X6_image_h156 h hq N x1 x2 _ _ _ hf)
    · have hf := it_neg g6 hf
      refine z_aload_n h dX6_image_91 rfl 0 rfl ?_
      refine z_gfR h zC6 (d := 1104) (c := 1067) tg_1067 ln_1067 51 rfl ft_6_51 rf_1067_51 wd_127 dX6_image_92 ?_
      refine z_iload_n h dX6_image_95 rfl 2 rfl ?_
      refine z_bipush h (v := (21 : Int32)) dX6_image_96 bp_21 ?_
      refine z_iadd h dX6_image_98 ?_
      refine z_iconst h (v := (3 : Int32)) dX6_image_99 ic_3 ?_
      refine z_iload_n h dX6_image_100 rfl 3 rfl ?_
      refine z_imul h dX6_image_101 ?_
      refine z_iadd h dX6_image_102 ?_
      refine z_aload_n h dX6_image_103 rfl 0 rfl ?_
      refine z_gfR h zC6 (d := 1071) (c := 1067) tg_1067 ln_1067 5 rfl ft_6_5 rf_1067_5 wd_91 dX6_image_104 ?_
      refine z_iload_n h dX6_image_107 rfl 3 rfl ?_
      obtain ⟨g21, hf⟩ := ck_out hf
      refine z_iald h (c := 1071) tg_1071 ln_1071 g21 dX6_image_108 ?_
      refine z_topI (fun v22 ev22 => ?_)
      have hf := bd_to ev22 hf
      obtain ⟨g23, hf⟩ := ck_out hf
      refine z_iast h (c := 1104) tg_1104 ln_1104 g23 dX6_image_109 ?_
      refine z_gen (fun σ24 eσ24 => ?_)
      have hf := bd_to eσ24 hf
      refine z_aload_n h dX6_image_110 rfl 0 rfl ?_
      refine z_gfR h zC6 (d := 1104) (c := 1067) tg_1067 ln_1067 51 rfl ft_6_51 rf_1067_51 wd_127 dX6_image_111 ?_
      refine z_iload_n h dX6_image_114 rfl 2 rfl ?_
      refine z_bipush h (v := (22 : Int32)) dX6_image_115 bp_22 ?_
      refine z_iadd h dX6_image_117 ?_
      refine z_iconst h (v := (3 : Int32)) dX6_image_118 ic_3 ?_
      refine z_iload_n h dX6_image_119 rfl 3 rfl ?_
      refine z_imul h dX6_image_120 ?_
      refine z_iadd h dX6_image_121 ?_
      refine z_aload_n h dX6_image_122 rfl 0 rfl ?_
      refine z_gfR h zC6 (d := 1072) (c := 1067) tg_1067 ln_1067 6 rfl ft_6_6 rf_1067_6 wd_92 dX6_image_123 ?_
      refine z_iload_n h dX6_image_126 rfl 3 rfl ?_
      obtain ⟨g25, hf⟩ := ck_out hf
      refine z_iald h (c := 1072) tg_1072 ln_1072 g25 dX6_image_127 ?_
      refine z_topI (fun v26 ev26 => ?_)
      have hf := bd_to ev26 hf
      obtain ⟨g27, hf⟩ := ck_out hf
      refine z_iast h (c := 1104) tg_1104 ln_1104 g27 dX6_image_128 ?_
      refine z_gen (fun σ28 eσ28 => ?_)
      have hf := bd_to eσ28 hf
      refine z_aload_n h dX6_image_129 rfl 0 rfl ?_
      refine z_gfR h zC6 (d := 1104) (c := 1067) tg_1067 ln_1067 51 rfl ft_6_51 rf_1067_51 wd_127 dX6_image_130 ?_
      refine z_iload_n h dX6_image_133 rfl 2 rfl ?_
      refine z_bipush h (v := (23 : Int32)) dX6_image_134 bp_23 ?_
      refine z_iadd h dX6_image_136 ?_
      refine z_iconst h (v := (3 : Int32)) dX6_image_137 ic_3 ?_
      refine z_iload_n h dX6_image_138 rfl 3 rfl ?_
      refine z_imul h dX6_image_139 ?_
      refine z_iadd h dX6_image_140 ?_
      refine z_aload_n h dX6_image_141 rfl 0 rfl ?_
      refine z_gfR h zC6 (d := 1073) (c := 1067) tg_1067 ln_1067 7 rfl ft_6_7 rf_1067_7 wd_93 dX6_image_142 ?_
      refine z_iload_n h dX6_image_145 rfl 3 rfl ?_
      obtain ⟨g29, hf⟩ := ck_out hf
      refine z_iald h (c := 1073) tg_1073 ln_1073 g29 dX6_image_146 ?_
      refine z_topI (fun v30 ev30 => ?_)
      have hf := bd_to ev30 hf
      obtain ⟨g31, hf⟩ := ck_out hf
      refine z_iast h (c := 1104) tg_1104 ln_1104 g31 dX6_image_147 ?_
      refine z_gen (fun σ32 eσ32 => ?_)
      have hf := bd_to eσ32 hf
      obtain ⟨v33, ev33, hf⟩ := bd_ex hf
      refine z_iinc h (v := v33) (lv' := [(3, .int v33), (0, .ref (G.1 1067)), (1, .int x1), (2, .int x2)]) dX6_image_148 3 rfl (by rw [ev33]; rfl) rfl rfl ?_
      refine z_goto h (tgt := 85) dX6_image_151 (by decide) ?_
      exact z_sub [1, 2, 3, 0] rfl (ih _ _ hf)
set_option maxHeartbeats 4000000 in
set_option maxRecDepth 100000 in
theorem k_X6_image_h19 {l : Launch} {Y : ZY} {G : ZG} {r : Int32} {σ' : ZS} (h : zOk (l, rm_X6_image, 4, 0, 0) Y G cX6_image RX6 (some .int)) (hq : zRet (l, rm_X6_image, 4, 0, 0) Y G (some (.int r)) σ') (N : Nat) (x1 : Int32) (x2 : Int32) : ∀ (n : Nat) (x3 : Int32) (σ : ZS), f_X6_image_h19 N x1 x2 n x3 σ = some (r, σ') → Z (l, rm_X6_image, 4, 0, 0) Y G σ [(0, .ref (G.1 1067)), (1, .int x1), (2, .int x2), (3, .int x3)] [] 19 := by
  intro n
  induction n with
  | zero =>
    intro x3 σ hf
    rw [f_X6_image_h19] at hf
    cases hf
  | succ n ih =>
    intro x3 σ hf
    rw [f_X6_image_h19] at hf
    refine z_iload_n h dX6_image_19 rfl 3 rfl ?_
    refine z_bipush h (v := (7 : Int32)) dX6_image_20 bp_7 ?_
    refine z_icmp_ge h (tgt := 83) dX6_image_22 (by decide) (fun g5 => ?_) (fun g5 => ?_)
    · have hf := it_pos g5 hf
      refine z_iconst h (v := (0 : Int32)) dX6_image_83 ic_0 ?_
      refine z_istore_n h dX6_image_84 rfl (lv' := [(3, .int (0 : Int32)), (0, .ref (G.1 1067)), (1, .int x1), (2, .int x2)]) rfl rfl ?_
      exact z_sub [1, 2, 3, 0] rfl (k_X6_image_h85 h hq N x1 x2 _ _ _ hf)
    · have hf := it_neg g5 hf
      refine z_aload_n h dX6_image_25 rfl 0 rfl ?_
      refine z_gfR h zC6 (d := 1104) (c := 1067) tg_1067 ln_1067 51 rfl ft_6_51 rf_1067_51 wd_127 dX6_image_26 ?_
      refine z_iload_n h dX6_image_29 rfl 2 rfl ?_
      refine z_iconst h (v := (3 : Int32)) dX6_image_30 ic_3 ?_
      refine z_iload_n h dX6_image_31 rfl 3 rfl ?_
      refine z_imul h dX6_image_32 ?_
      refine z_iadd h dX6_image_33 ?_
      refine z_aload_n h dX6_image_34 rfl 0 rfl ?_
      refine z_gfR h zC6 (d := 1068) (c := 1067) tg_1067 ln_1067 1 rfl ft_6_1 rf_1067_1 wd_88 dX6_image_35 ?_
      refine z_iload_n h dX6_image_38 rfl 3 rfl ?_
      obtain ⟨g34, hf⟩ := ck_out hf
      refine z_iald h (c := 1068) tg_1068 ln_1068 g34 dX6_image_39 ?_
      refine z_topI (fun v35 ev35 => ?_)
      have hf := bd_to ev35 hf
      obtain ⟨g36, hf⟩ := ck_out hf
      refine z_iast h (c := 1104) tg_1104 ln_1104 g36 dX6_image_40 ?_
      refine z_gen (fun σ37 eσ37 => ?_)
      have hf := bd_to eσ37 hf
      refine z_aload_n h dX6_image_41 rfl 0 rfl ?_
      refine z_gfR h zC6 (d := 1104) (c := 1067) tg_1067 ln_1067 51 rfl ft_6_51 rf_1067_51 wd_127 dX6_image_42 ?_
      refine z_iload_n h dX6_image_45 rfl 2 rfl ?_
      refine z_iconst h (v := (3 : Int32)) dX6_image_46 ic_3 ?_
      refine z_iload_n h dX6_image_47 rfl 3 rfl ?_
      refine z_imul h dX6_image_48 ?_
      refine z_iadd h dX6_image_49 ?_
      refine z_iconst h (v := (1 : Int32)) dX6_image_50 ic_1 ?_
      refine z_iadd h dX6_image_51 ?_
      refine z_aload_n h dX6_image_52 rfl 0 rfl ?_
      refine z_gfR h zC6 (d := 1069) (c := 1067) tg_1067 ln_1067 2 rfl ft_6_2 rf_1067_2 wd_89 dX6_image_53 ?_
      refine z_iload_n h dX6_image_56 rfl 3 rfl ?_
      obtain ⟨g38, hf⟩ := ck_out hf
      refine z_iald h (c := 1069) tg_1069 ln_1069 g38 dX6_image_57 ?_
      refine z_topI (fun v39 ev39 => ?_)
      have hf := bd_to ev39 hf
      obtain ⟨g40, hf⟩ := ck_out hf
      refine z_iast h (c := 1104) tg_1104 ln_1104 g40 dX6_image_58 ?_
      refine z_gen (fun σ41 eσ41 => ?_)
      have hf := bd_to eσ41 hf
      refine z_aload_n h dX6_image_59 rfl 0 rfl ?_
      refine z_gfR h zC6 (d := 1104) (c := 1067) tg_1067 ln_1067 51 rfl ft_6_51 rf_1067_51 wd_127 dX6_image_60 ?_
      refine z_iload_n h dX6_image_63 rfl 2 rfl ?_
      refine z_iconst h (v := (3 : Int32)) dX6_image_64 ic_3 ?_
      refine z_iload_n h dX6_image_65 rfl 3 rfl ?_
      refine z_imul h dX6_image_66 ?_
      refine z_iadd h dX6_image_67 ?_
      refine z_iconst h (v := (2 : Int32)) dX6_image_68 ic_2 ?_
      refine z_iadd h dX6_image_69 ?_
      refine z_aload_n h dX6_image_70 rfl 0 rfl ?_
      refine z_gfR h zC6 (d := 1070) (c := 1067) tg_1067 ln_1067 3 rfl ft_6_3 rf_1067_3 wd_90 dX6_image_71 ?_
      refine z_iload_n h dX6_image_74 rfl 3 rfl ?_
      obtain ⟨g42, hf⟩ := ck_out hf
      refine z_iald h (c := 1070) tg_1070 ln_1070 g42 dX6_image_75 ?_
      refine z_topI (fun v43 ev43 => ?_)
      have hf := bd_to ev43 hf
      obtain ⟨g44, hf⟩ := ck_out hf
      refine z_iast h (c := 1104) tg_1104 ln_1104 g44 dX6_image_76 ?_
      refine z_gen (fun σ45 eσ45 => ?_)
      have hf := bd_to eσ45 hf
      obtain ⟨v46, ev46, hf⟩ := bd_ex hf
      refine z_iinc h (v := v46) (lv' := [(3, .int v46), (0, .ref (G.1 1067)), (1, .int x1), (2, .int x2)]) dX6_image_77 3 rfl (by rw [ev46]; rfl) rfl rfl ?_
      refine z_goto h (tgt := 19) dX6_image_80 (by decide) ?_
      exact z_sub [1, 2, 3, 0] rfl (ih _ _ hf)
set_option maxHeartbeats 4000000 in
set_option maxRecDepth 100000 in
theorem c_X6_image (l : Launch) (G : ZG) {N : Nat} {x1 : Int32} {σ σ' : ZS} {r : Int32} (hf : f_X6_image N x1 σ = some (r, σ')) : zMet l G yX6_image cX6_image 4 (some .int) rm_X6_image [.ref (G.1 1067), .int x1] σ (some (.int r)) σ' := by
  refine z_met (by decide +kernel) rfl (fun Y h hq => ?_)
  have h : zOk (l, rm_X6_image, 4, 0, 0) Y G cX6_image RX6 (some .int) := h
  rw [f_X6_image] at hf
  refine z_sub (lv' := [(0, .ref (G.1 1067)), (1, .int x1)]) [0, 1] rfl ?_
  refine z_iload_n h dX6_image_0 rfl 1 rfl ?_
  refine z_iconst h (v := (0 : Int32)) dX6_image_1 ic_0 ?_
  refine z_iconst h (v := (1 : Int32)) dX6_image_2 ic_1 ?_
  obtain ⟨v1, σ2, e2, hf⟩ := obd_out hf
  refine z_cSv h (n := 3) (c_X6_in l G e2) rfl wd_156 wd_157 wd_5 wd_158 (by decide +kernel) ⟨rfl, rfl⟩ rfl rfl rfl dX6_image_3 ⟨Nat.zero_le _, Nat.zero_le _⟩ ?_
  refine z_if_ne h (tgt := 12) dX6_image_6 (by decide) (fun g3 => ?_) (fun g3 => ?_)
  · have hf := it_neg g3 hf
    refine z_bipush h (v := (83 : Int32)) dX6_image_12 bp_83 ?_
    refine z_iload_n h dX6_image_14 rfl 1 rfl ?_
    refine z_imul h dX6_image_15 ?_
    refine z_topI (fun v4 ev4 => ?_)
    have hf := bd_to ev4 hf
    refine z_istore_n h dX6_image_16 rfl (lv' := [(2, .int v4), (0, .ref (G.1 1067)), (1, .int x1)]) rfl rfl ?_
    refine z_iconst h (v := (0 : Int32)) dX6_image_17 ic_0 ?_
    refine z_istore_n h dX6_image_18 rfl (lv' := [(3, .int (0 : Int32)), (2, .int v4), (0, .ref (G.1 1067)), (1, .int x1)]) rfl rfl ?_
    exact z_sub [2, 3, 1, 0] rfl (k_X6_image_h19 h hq N x1 v4 _ _ _ hf)
  · have hf := it_pos g3 hf
    refine z_bipush h (v := (-2 : Int32)) dX6_image_9 bp_m2 ?_
    exact z_iret h (rt_I hf hq) dX6_image_11
