theorem dX5_forgetShape_0 : decode cX5_forgetShape 0 = .ok (.aload_n 0, 1) := by decide +kernel
theorem dX5_forgetShape_1 : decode cX5_forgetShape 1 = .ok (.iconst 0, 1) := by decide +kernel
theorem dX5_forgetShape_2 : decode cX5_forgetShape 2 = .ok (.putfield 238, 3) := by decide +kernel
theorem dX5_forgetShape_5 : decode cX5_forgetShape 5 = .ok (.aload_n 0, 1) := by decide +kernel
theorem dX5_forgetShape_6 : decode cX5_forgetShape 6 = .ok (.iconst 0, 1) := by decide +kernel
theorem dX5_forgetShape_7 : decode cX5_forgetShape 7 = .ok (.putfield 95, 3) := by decide +kernel
theorem dX5_forgetShape_10 : decode cX5_forgetShape 10 = .ok (.return_, 1) := by decide +kernel
abbrev rm_X5_forgetShape : Room := { frames := 0, cells := 0, slots := 0, locals := 0 }
noncomputable def f_X5_forgetShape (N : Nat) (σ : ZS) : Option (Unit × ZS) := bd (sI σ 0 7 (0 : Int32)) fun σ1 => bd (sI σ1 0 8 (0 : Int32)) fun σ2 => some ((), σ2)
set_option maxHeartbeats 4000000 in
set_option maxRecDepth 100000 in
theorem c_X5_forgetShape (l : Launch) (G : ZG) {N : Nat} {σ σ' : ZS} {r : Unit} (hf : f_X5_forgetShape N σ = some (r, σ')) : zMet l G yX5_forgetShape cX5_forgetShape 1 none rm_X5_forgetShape [.ref (G.1 0)] σ none σ' := by
  refine z_met (by decide +kernel) rfl (fun Y h hq => ?_)
  have h : zOk (l, rm_X5_forgetShape, 1, 0, 0) Y G cX5_forgetShape RX5 none := h
  rw [f_X5_forgetShape] at hf
  refine z_sub (lv' := [(0, .ref (G.1 0))]) [0] rfl ?_
  refine z_aload_n h dX5_forgetShape_0 rfl 0 rfl ?_
  refine z_iconst h (v := (0 : Int32)) dX5_forgetShape_1 ic_0 ?_
  refine z_pfI h zC5 (c := 0) tg_0 ln_0 7 rfl ft_5_7 wd_145 rfl (ty := .boolean) (by decide +kernel) rfl rfl dX5_forgetShape_2 ?_
  refine z_gen (fun σ1 eσ1 => ?_)
  have hf := bd_to eσ1 hf
  refine z_aload_n h dX5_forgetShape_5 rfl 0 rfl ?_
  refine z_iconst h (v := (0 : Int32)) dX5_forgetShape_6 ic_0 ?_
  refine z_pfI h zC5 (c := 0) tg_0 ln_0 8 rfl ft_5_8 wd_146 rfl (ty := .boolean) (by decide +kernel) rfl rfl dX5_forgetShape_7 ?_
  refine z_gen (fun σ2 eσ2 => ?_)
  have hf := bd_to eσ2 hf
  exact z_vret h (rt_V hf hq) dX5_forgetShape_10
theorem dX5_node_0 : decode cX5_node 0 = .ok (.iload_n 1, 1) := by decide +kernel
theorem dX5_node_1 : decode cX5_node 1 = .ok (.iconst 0, 1) := by decide +kernel
theorem dX5_node_2 : decode cX5_node 2 = .ok (.bipush 9, 2) := by decide +kernel
theorem dX5_node_4 : decode cX5_node 4 = .ok (.invokestatic 46, 3) := by decide +kernel
theorem dX5_node_7 : decode cX5_node 7 = .ok (.ifCond .eq 22, 3) := by decide +kernel
theorem dX5_node_10 : decode cX5_node 10 = .ok (.iload_n 2, 1) := by decide +kernel
theorem dX5_node_11 : decode cX5_node 11 = .ok (.iconst 0, 1) := by decide +kernel
theorem dX5_node_12 : decode cX5_node 12 = .ok (.bipush 9, 2) := by decide +kernel
theorem dX5_node_14 : decode cX5_node 14 = .ok (.invokestatic 46, 3) := by decide +kernel
theorem dX5_node_17 : decode cX5_node 17 = .ok (.ifCond .eq 12, 3) := by decide +kernel
theorem dX5_node_20 : decode cX5_node 20 = .ok (.iload_n 3, 1) := by decide +kernel
theorem dX5_node_21 : decode cX5_node 21 = .ok (.iconst 0, 1) := by decide +kernel
theorem dX5_node_22 : decode cX5_node 22 = .ok (.iconst 3, 1) := by decide +kernel
theorem dX5_node_23 : decode cX5_node 23 = .ok (.invokestatic 46, 3) := by decide +kernel
theorem dX5_node_26 : decode cX5_node 26 = .ok (.ifCond .ne 6, 3) := by decide +kernel
theorem dX5_node_29 : decode cX5_node 29 = .ok (.bipush (-2), 2) := by decide +kernel
theorem dX5_node_31 : decode cX5_node 31 = .ok (.ireturn, 1) := by decide +kernel
theorem dX5_node_32 : decode cX5_node 32 = .ok (.aload_n 0, 1) := by decide +kernel
theorem dX5_node_33 : decode cX5_node 33 = .ok (.getfield 12, 3) := by decide +kernel
theorem dX5_node_36 : decode cX5_node 36 = .ok (.iload_n 1, 1) := by decide +kernel
theorem dX5_node_37 : decode cX5_node 37 = .ok (.iload_n 2, 1) := by decide +kernel
theorem dX5_node_38 : decode cX5_node 38 = .ok (.invokevirtual 50, 3) := by decide +kernel
theorem dX5_node_41 : decode cX5_node 41 = .ok (.ifCond .eq 6, 3) := by decide +kernel
theorem dX5_node_44 : decode cX5_node 44 = .ok (.bipush (-5), 2) := by decide +kernel
theorem dX5_node_46 : decode cX5_node 46 = .ok (.ireturn, 1) := by decide +kernel
theorem dX5_node_47 : decode cX5_node 47 = .ok (.aload_n 0, 1) := by decide +kernel
theorem dX5_node_48 : decode cX5_node 48 = .ok (.getfield 12, 3) := by decide +kernel
theorem dX5_node_51 : decode cX5_node 51 = .ok (.getfield 54, 3) := by decide +kernel
theorem dX5_node_54 : decode cX5_node 54 = .ok (.bipush 7, 2) := by decide +kernel
theorem dX5_node_56 : decode cX5_node 56 = .ok (.if_icmp .lt 6, 3) := by decide +kernel
theorem dX5_node_59 : decode cX5_node 59 = .ok (.bipush (-4), 2) := by decide +kernel
theorem dX5_node_61 : decode cX5_node 61 = .ok (.ireturn, 1) := by decide +kernel
theorem dX5_node_62 : decode cX5_node 62 = .ok (.aload_n 0, 1) := by decide +kernel
theorem dX5_node_63 : decode cX5_node 63 = .ok (.invokevirtual 58, 3) := by decide +kernel
theorem dX5_node_66 : decode cX5_node 66 = .ok (.aload_n 0, 1) := by decide +kernel
theorem dX5_node_67 : decode cX5_node 67 = .ok (.getfield 12, 3) := by decide +kernel
theorem dX5_node_70 : decode cX5_node 70 = .ok (.iload_n 1, 1) := by decide +kernel
theorem dX5_node_71 : decode cX5_node 71 = .ok (.iload_n 2, 1) := by decide +kernel
theorem dX5_node_72 : decode cX5_node 72 = .ok (.iload_n 3, 1) := by decide +kernel
theorem dX5_node_73 : decode cX5_node 73 = .ok (.invokevirtual 61, 3) := by decide +kernel
theorem dX5_node_76 : decode cX5_node 76 = .ok (.ireturn, 1) := by decide +kernel
abbrev rm_X5_node : Room := { frames := 1, cells := 0, slots := 0, locals := 31 }
noncomputable def f_X5_node (N : Nat) (x1 : Int32) (x2 : Int32) (x3 : Int32) (σ : ZS) : Option (Int32 × ZS) := obd (f_X5_within N x1 (0 : Int32) (9 : Int32) σ) fun v1 σ2 => (if v1 = 0 then some ((-2 : Int32), σ2) else obd (f_X5_within N x2 (0 : Int32) (9 : Int32) σ2) fun v4 σ5 => (if v4 = 0 then some ((-2 : Int32), σ5) else obd (f_X5_within N x3 (0 : Int32) (3 : Int32) σ5) fun v7 σ8 => (if v7 = 0 then some ((-2 : Int32), σ8) else obd (f_X2_nodeAt N x1 x2 σ8) fun v10 σ11 => (if v10 = 0 then (if (gI σ11 2 0) < (7 : Int32) then obd (f_X5_forgetShape N σ11) fun _ σ15 => obd (f_X2_addNode N x1 x2 x3 σ15) fun v16 σ17 => some (v16, σ17) else some ((-4 : Int32), σ11)) else some ((-5 : Int32), σ11)))))
set_option maxHeartbeats 4000000 in
set_option maxRecDepth 100000 in
theorem c_X5_node (l : Launch) (G : ZG) {N : Nat} {x1 : Int32} {x2 : Int32} {x3 : Int32} {σ σ' : ZS} {r : Int32} (hf : f_X5_node N x1 x2 x3 σ = some (r, σ')) : zMet l G yX5_node cX5_node 4 (some .int) rm_X5_node [.ref (G.1 0), .int x1, .int x2, .int x3] σ (some (.int r)) σ' := by
  refine z_met (by decide +kernel) rfl (fun Y h hq => ?_)
  have h : zOk (l, rm_X5_node, 4, 0, 0) Y G cX5_node RX5 (some .int) := h
  rw [f_X5_node] at hf
  refine z_sub (lv' := [(0, .ref (G.1 0)), (1, .int x1), (2, .int x2), (3, .int x3)]) [0, 1, 2, 3] rfl ?_
  refine z_iload_n h dX5_node_0 rfl 1 rfl ?_
  refine z_iconst h (v := (0 : Int32)) dX5_node_1 ic_0 ?_
  refine z_bipush h (v := (9 : Int32)) dX5_node_2 bp_9 ?_
  obtain ⟨v1, σ2, e2, hf⟩ := obd_out hf
  refine z_cSv h (n := 3) (c_X5_within l G e2) rfl wd_133 wd_134 wd_2 wd_135 (by decide +kernel) ⟨rfl, rfl⟩ rfl rfl rfl dX5_node_4 ⟨Nat.zero_le _, Nat.zero_le _⟩ ?_
  refine z_if_eq h (tgt := 29) dX5_node_7 (by decide) (fun g3 => ?_) (fun g3 => ?_)
  · have hf := it_pos g3 hf
    refine z_bipush h (v := (-2 : Int32)) dX5_node_29 bp_m2 ?_
    exact z_iret h (rt_I hf hq) dX5_node_31
  · have hf := it_neg g3 hf
    refine z_iload_n h dX5_node_10 rfl 2 rfl ?_
    refine z_iconst h (v := (0 : Int32)) dX5_node_11 ic_0 ?_
    refine z_bipush h (v := (9 : Int32)) dX5_node_12 bp_9 ?_
    obtain ⟨v4, σ5, e5, hf⟩ := obd_out hf
    refine z_cSv h (n := 3) (c_X5_within l G e5) rfl wd_133 wd_134 wd_2 wd_135 (by decide +kernel) ⟨rfl, rfl⟩ rfl rfl rfl dX5_node_14 ⟨Nat.zero_le _, Nat.zero_le _⟩ ?_
    refine z_if_eq h (tgt := 29) dX5_node_17 (by decide) (fun g6 => ?_) (fun g6 => ?_)
    · have hf := it_pos g6 hf
      refine z_bipush h (v := (-2 : Int32)) dX5_node_29 bp_m2 ?_
      exact z_iret h (rt_I hf hq) dX5_node_31
    · have hf := it_neg g6 hf
      refine z_iload_n h dX5_node_20 rfl 3 rfl ?_
      refine z_iconst h (v := (0 : Int32)) dX5_node_21 ic_0 ?_
      refine z_iconst h (v := (3 : Int32)) dX5_node_22 ic_3 ?_
      obtain ⟨v7, σ8, e8, hf⟩ := obd_out hf
      refine z_cSv h (n := 3) (c_X5_within l G e8) rfl wd_133 wd_134 wd_2 wd_135 (by decide +kernel) ⟨rfl, rfl⟩ rfl rfl rfl dX5_node_23 ⟨Nat.zero_le _, Nat.zero_le _⟩ ?_
      refine z_if_ne h (tgt := 32) dX5_node_26 (by decide) (fun g9 => ?_) (fun g9 => ?_)
      · have hf := it_neg g9 hf
        refine z_aload_n h dX5_node_32 rfl 0 rfl ?_
        refine z_gfR h zC5 (d := 2) (c := 0) tg_0 ln_0 0 rfl ft_5_0 rf_0_0 wd_15 dX5_node_33 ?_
        refine z_iload_n h dX5_node_36 rfl 1 rfl ?_
        refine z_iload_n h dX5_node_37 rfl 2 rfl ?_
        obtain ⟨v10, σ11, e11, hf⟩ := obd_out hf
        refine z_cVv h (n := 2) (c_X2_nodeAt l G e11) zC2 tg_2 ln_2 rfl rfl wd_136 wd_137 wd_138 wd_14 wd_139 (by decide +kernel) ⟨rfl, rfl⟩ rfl rfl rfl dX5_node_38 ⟨Nat.zero_le _, Nat.zero_le _⟩ ?_
        refine z_if_eq h (tgt := 47) dX5_node_41 (by decide) (fun g12 => ?_) (fun g12 => ?_)
        · have hf := it_pos g12 hf
          refine z_aload_n h dX5_node_47 rfl 0 rfl ?_
          refine z_gfR h zC5 (d := 2) (c := 0) tg_0 ln_0 0 rfl ft_5_0 rf_0_0 wd_15 dX5_node_48 ?_
          refine z_gfIN h zC2 (c := 2) tg_2 ln_2 0 rfl ft_2_0 (by decide +kernel) dX5_node_51 ?_
          refine z_bipush h (v := (7 : Int32)) dX5_node_54 bp_7 ?_
          refine z_icmp_lt h (tgt := 62) dX5_node_56 (by decide) (fun g13 => ?_) (fun g13 => ?_)
          · have hf := it_pos g13 hf
            refine z_aload_n h dX5_node_62 rfl 0 rfl ?_
            obtain ⟨v14, σ15, e15, hf⟩ := obd_out hf
            refine z_cV0 h (n := 0) (c_X5_forgetShape l G e15) zC5 tg_0 ln_0 rfl rfl wd_141 wd_142 wd_143 wd_2 wd_144 (by decide +kernel) ⟨rfl, rfl⟩ rfl rfl rfl dX5_node_63 ⟨Nat.zero_le _, Nat.zero_le _⟩ ?_
            refine z_aload_n h dX5_node_66 rfl 0 rfl ?_
            refine z_gfR h zC5 (d := 2) (c := 0) tg_0 ln_0 0 rfl ft_5_0 rf_0_0 wd_15 dX5_node_67 ?_
            refine z_iload_n h dX5_node_70 rfl 1 rfl ?_
            refine z_iload_n h dX5_node_71 rfl 2 rfl ?_
            refine z_iload_n h dX5_node_72 rfl 3 rfl ?_
            obtain ⟨v16, σ17, e17, hf⟩ := obd_out hf
            refine z_cVv h (n := 3) (c_X2_addNode l G e17) zC2 tg_2 ln_2 rfl rfl wd_147 wd_148 wd_149 wd_14 wd_150 (by decide +kernel) ⟨rfl, rfl⟩ rfl rfl rfl dX5_node_73 ⟨Nat.zero_le _, Nat.zero_le _⟩ ?_
            exact z_iret h (rt_I hf hq) dX5_node_76
          · have hf := it_neg g13 hf
            refine z_bipush h (v := (-4 : Int32)) dX5_node_59 bp_m4 ?_
            exact z_iret h (rt_I hf hq) dX5_node_61
        · have hf := it_neg g12 hf
          refine z_bipush h (v := (-5 : Int32)) dX5_node_44 bp_m5 ?_
          exact z_iret h (rt_I hf hq) dX5_node_46
      · have hf := it_pos g9 hf
        refine z_bipush h (v := (-2 : Int32)) dX5_node_29 bp_m2 ?_
        exact z_iret h (rt_I hf hq) dX5_node_31
theorem dX5_isNode_0 : decode cX5_isNode 0 = .ok (.iload_n 1, 1) := by decide +kernel
theorem dX5_isNode_1 : decode cX5_isNode 1 = .ok (.iconst 0, 1) := by decide +kernel
theorem dX5_isNode_2 : decode cX5_isNode 2 = .ok (.aload_n 0, 1) := by decide +kernel
theorem dX5_isNode_3 : decode cX5_isNode 3 = .ok (.getfield 12, 3) := by decide +kernel
theorem dX5_isNode_6 : decode cX5_isNode 6 = .ok (.getfield 54, 3) := by decide +kernel
theorem dX5_isNode_9 : decode cX5_isNode 9 = .ok (.iconst 1, 1) := by decide +kernel
theorem dX5_isNode_10 : decode cX5_isNode 10 = .ok (.isub, 1) := by decide +kernel
theorem dX5_isNode_11 : decode cX5_isNode 11 = .ok (.invokestatic 46, 3) := by decide +kernel
theorem dX5_isNode_14 : decode cX5_isNode 14 = .ok (.ireturn, 1) := by decide +kernel
abbrev rm_X5_isNode : Room := { frames := 1, cells := 0, slots := 0, locals := 30 }
noncomputable def f_X5_isNode (N : Nat) (x1 : Int32) (σ : ZS) : Option (Int32 × ZS) := obd (f_X5_within N x1 (0 : Int32) ((gI σ 2 0) - (1 : Int32)) σ) fun v1 σ2 => ck (bb v1) (some (v1, σ2))
set_option maxHeartbeats 4000000 in
set_option maxRecDepth 100000 in
theorem c_X5_isNode (l : Launch) (G : ZG) {N : Nat} {x1 : Int32} {σ σ' : ZS} {r : Int32} (hf : f_X5_isNode N x1 σ = some (r, σ')) : zMet l G yX5_isNode cX5_isNode 2 (some .boolean) rm_X5_isNode [.ref (G.1 0), .int x1] σ (some (.int r)) σ' := by
  refine z_met (by decide +kernel) rfl (fun Y h hq => ?_)
  have h : zOk (l, rm_X5_isNode, 2, 0, 0) Y G cX5_isNode RX5 (some .boolean) := h
  rw [f_X5_isNode] at hf
  refine z_sub (lv' := [(0, .ref (G.1 0)), (1, .int x1)]) [0, 1] rfl ?_
  refine z_iload_n h dX5_isNode_0 rfl 1 rfl ?_
  refine z_iconst h (v := (0 : Int32)) dX5_isNode_1 ic_0 ?_
  refine z_aload_n h dX5_isNode_2 rfl 0 rfl ?_
  refine z_gfR h zC5 (d := 2) (c := 0) tg_0 ln_0 0 rfl ft_5_0 rf_0_0 wd_15 dX5_isNode_3 ?_
  refine z_gfIN h zC2 (c := 2) tg_2 ln_2 0 rfl ft_2_0 (by decide +kernel) dX5_isNode_6 ?_
  refine z_iconst h (v := (1 : Int32)) dX5_isNode_9 ic_1 ?_
  refine z_isub h dX5_isNode_10 ?_
  obtain ⟨v1, σ2, e2, hf⟩ := obd_out hf
  refine z_cSv h (n := 3) (c_X5_within l G e2) rfl wd_133 wd_134 wd_2 wd_135 (by decide +kernel) ⟨rfl, rfl⟩ rfl rfl rfl dX5_isNode_11 ⟨Nat.zero_le _, Nat.zero_le _⟩ ?_
  obtain ⟨g3, hf⟩ := ck_out hf
  exact z_zret h g3 (rt_I hf hq) dX5_isNode_14
theorem dX5_hold_0 : decode cX5_hold 0 = .ok (.aload_n 0, 1) := by decide +kernel
theorem dX5_hold_1 : decode cX5_hold 1 = .ok (.iload_n 1, 1) := by decide +kernel
theorem dX5_hold_2 : decode cX5_hold 2 = .ok (.invokevirtual 65, 3) := by decide +kernel
theorem dX5_hold_5 : decode cX5_hold 5 = .ok (.ifCond .ne 5, 3) := by decide +kernel
theorem dX5_hold_8 : decode cX5_hold 8 = .ok (.iconst (-1), 1) := by decide +kernel
theorem dX5_hold_9 : decode cX5_hold 9 = .ok (.ireturn, 1) := by decide +kernel
theorem dX5_hold_10 : decode cX5_hold 10 = .ok (.iload_n 2, 1) := by decide +kernel
theorem dX5_hold_11 : decode cX5_hold 11 = .ok (.iconst 0, 1) := by decide +kernel
theorem dX5_hold_12 : decode cX5_hold 12 = .ok (.iconst 3, 1) := by decide +kernel
theorem dX5_hold_13 : decode cX5_hold 13 = .ok (.invokestatic 46, 3) := by decide +kernel
theorem dX5_hold_16 : decode cX5_hold 16 = .ok (.ifCond .ne 6, 3) := by decide +kernel
theorem dX5_hold_19 : decode cX5_hold 19 = .ok (.bipush (-2), 2) := by decide +kernel
theorem dX5_hold_21 : decode cX5_hold 21 = .ok (.ireturn, 1) := by decide +kernel
theorem dX5_hold_22 : decode cX5_hold 22 = .ok (.aload_n 0, 1) := by decide +kernel
theorem dX5_hold_23 : decode cX5_hold 23 = .ok (.getfield 12, 3) := by decide +kernel
theorem dX5_hold_26 : decode cX5_hold 26 = .ok (.getfield 69, 3) := by decide +kernel
theorem dX5_hold_29 : decode cX5_hold 29 = .ok (.iload_n 1, 1) := by decide +kernel
theorem dX5_hold_30 : decode cX5_hold 30 = .ok (.iaload, 1) := by decide +kernel
theorem dX5_hold_31 : decode cX5_hold 31 = .ok (.istore_n 3, 1) := by decide +kernel
theorem dX5_hold_32 : decode cX5_hold 32 = .ok (.aload_n 0, 1) := by decide +kernel
theorem dX5_hold_33 : decode cX5_hold 33 = .ok (.getfield 12, 3) := by decide +kernel
theorem dX5_hold_36 : decode cX5_hold 36 = .ok (.getfield 69, 3) := by decide +kernel
theorem dX5_hold_39 : decode cX5_hold 39 = .ok (.iload_n 1, 1) := by decide +kernel
theorem dX5_hold_40 : decode cX5_hold 40 = .ok (.iload_n 2, 1) := by decide +kernel
theorem dX5_hold_41 : decode cX5_hold 41 = .ok (.iastore, 1) := by decide +kernel
theorem dX5_hold_42 : decode cX5_hold 42 = .ok (.aload_n 0, 1) := by decide +kernel
theorem dX5_hold_43 : decode cX5_hold 43 = .ok (.invokevirtual 58, 3) := by decide +kernel
theorem dX5_hold_46 : decode cX5_hold 46 = .ok (.iload_n 3, 1) := by decide +kernel
theorem dX5_hold_47 : decode cX5_hold 47 = .ok (.ireturn, 1) := by decide +kernel
abbrev rm_X5_hold : Room := { frames := 2, cells := 0, slots := 0, locals := 59 }
noncomputable def f_X5_hold (N : Nat) (x1 : Int32) (x2 : Int32) (σ : ZS) : Option (Int32 × ZS) := obd (f_X5_isNode N x1 σ) fun v1 σ2 => (if v1 = 0 then some ((-1 : Int32), σ2) else obd (f_X5_within N x2 (0 : Int32) (3 : Int32) σ2) fun v4 σ5 => (if v4 = 0 then some ((-2 : Int32), σ5) else ck (inb x1 7) (bd (gI σ5 22 (x1.toNatClampNeg)) fun v8 => ck (inb x1 7) (bd (sI σ5 22 (x1.toNatClampNeg) x2) fun σ10 => obd (f_X5_forgetShape N σ10) fun _ σ12 => some (v8, σ12)))))
set_option maxHeartbeats 4000000 in
set_option maxRecDepth 100000 in
theorem c_X5_hold (l : Launch) (G : ZG) {N : Nat} {x1 : Int32} {x2 : Int32} {σ σ' : ZS} {r : Int32} (hf : f_X5_hold N x1 x2 σ = some (r, σ')) : zMet l G yX5_hold cX5_hold 4 (some .int) rm_X5_hold [.ref (G.1 0), .int x1, .int x2] σ (some (.int r)) σ' := by
  refine z_met (by decide +kernel) rfl (fun Y h hq => ?_)
  have h : zOk (l, rm_X5_hold, 4, 0, 0) Y G cX5_hold RX5 (some .int) := h
  rw [f_X5_hold] at hf
  refine z_sub (lv' := [(0, .ref (G.1 0)), (1, .int x1), (2, .int x2)]) [0, 1, 2] rfl ?_
  refine z_aload_n h dX5_hold_0 rfl 0 rfl ?_
  refine z_iload_n h dX5_hold_1 rfl 1 rfl ?_
  obtain ⟨v1, σ2, e2, hf⟩ := obd_out hf
  refine z_cVv h (n := 1) (c_X5_isNode l G e2) zC5 tg_0 ln_0 rfl rfl wd_167 wd_168 wd_169 wd_2 wd_170 (by decide +kernel) ⟨rfl, rfl⟩ rfl rfl rfl dX5_hold_2 ⟨Nat.zero_le _, Nat.zero_le _⟩ ?_
  refine z_if_ne h (tgt := 10) dX5_hold_5 (by decide) (fun g3 => ?_) (fun g3 => ?_)
  · have hf := it_neg g3 hf
    refine z_iload_n h dX5_hold_10 rfl 2 rfl ?_
    refine z_iconst h (v := (0 : Int32)) dX5_hold_11 ic_0 ?_
    refine z_iconst h (v := (3 : Int32)) dX5_hold_12 ic_3 ?_
    obtain ⟨v4, σ5, e5, hf⟩ := obd_out hf
    refine z_cSv h (n := 3) (c_X5_within l G e5) rfl wd_133 wd_134 wd_2 wd_135 (by decide +kernel) ⟨rfl, rfl⟩ rfl rfl rfl dX5_hold_13 ⟨Nat.zero_le _, Nat.zero_le _⟩ ?_
    refine z_if_ne h (tgt := 22) dX5_hold_16 (by decide) (fun g6 => ?_) (fun g6 => ?_)
    · have hf := it_neg g6 hf
      refine z_aload_n h dX5_hold_22 rfl 0 rfl ?_
      refine z_gfR h zC5 (d := 2) (c := 0) tg_0 ln_0 0 rfl ft_5_0 rf_0_0 wd_15 dX5_hold_23 ?_
      refine z_gfRN h zC2 (d := 22) (c := 2) tg_2 ln_2 4 rfl ft_2_4 rf_2_4 (by decide +kernel) dX5_hold_26 ?_
      refine z_iload_n h dX5_hold_29 rfl 1 rfl ?_
      obtain ⟨g7, hf⟩ := ck_out hf
      refine z_iald h (c := 22) tg_22 ln_22 g7 dX5_hold_30 ?_
      refine z_topI (fun v8 ev8 => ?_)
      have hf := bd_to ev8 hf
      refine z_istore_n h dX5_hold_31 rfl (lv' := [(3, .int v8), (0, .ref (G.1 0)), (1, .int x1), (2, .int x2)]) rfl rfl ?_
      refine z_aload_n h dX5_hold_32 rfl 1 rfl ?_
      refine z_gfR h zC5 (d := 2) (c := 0) tg_0 ln_0 0 rfl ft_5_0 rf_0_0 wd_15 dX5_hold_33 ?_
      refine z_gfRN h zC2 (d := 22) (c := 2) tg_2 ln_2 4 rfl ft_2_4 rf_2_4 (by decide +kernel) dX5_hold_36 ?_
      refine z_iload_n h dX5_hold_39 rfl 2 rfl ?_
      refine z_iload_n h dX5_hold_40 rfl 3 rfl ?_
      obtain ⟨g9, hf⟩ := ck_out hf
      refine z_iast h (c := 22) tg_22 ln_22 g9 dX5_hold_41 ?_
      refine z_gen (fun σ10 eσ10 => ?_)
      have hf := bd_to eσ10 hf
      refine z_aload_n h dX5_hold_42 rfl 1 rfl ?_
      obtain ⟨v11, σ12, e12, hf⟩ := obd_out hf
      refine z_cV0 h (n := 0) (c_X5_forgetShape l G e12) zC5 tg_0 ln_0 rfl rfl wd_141 wd_142 wd_143 wd_2 wd_144 (by decide +kernel) ⟨rfl, rfl⟩ rfl rfl rfl dX5_hold_43 ⟨Nat.zero_le _, Nat.zero_le _⟩ ?_
      refine z_iload_n h dX5_hold_46 rfl 0 rfl ?_
      exact z_iret h (rt_I hf hq) dX5_hold_47
    · have hf := it_pos g6 hf
      refine z_bipush h (v := (-2 : Int32)) dX5_hold_19 bp_m2 ?_
      exact z_iret h (rt_I hf hq) dX5_hold_21
  · have hf := it_pos g3 hf
    refine z_iconst h (v := (-1 : Int32)) dX5_hold_8 ic_m1 ?_
    exact z_iret h (rt_I hf hq) dX5_hold_9
theorem dX5_bar_0 : decode cX5_bar 0 = .ok (.aload_n 0, 1) := by decide +kernel
theorem dX5_bar_1 : decode cX5_bar 1 = .ok (.iload_n 1, 1) := by decide +kernel
theorem dX5_bar_2 : decode cX5_bar 2 = .ok (.invokevirtual 65, 3) := by decide +kernel
theorem dX5_bar_5 : decode cX5_bar 5 = .ok (.ifCond .eq 11, 3) := by decide +kernel
theorem dX5_bar_8 : decode cX5_bar 8 = .ok (.aload_n 0, 1) := by decide +kernel
theorem dX5_bar_9 : decode cX5_bar 9 = .ok (.iload_n 2, 1) := by decide +kernel
theorem dX5_bar_10 : decode cX5_bar 10 = .ok (.invokevirtual 65, 3) := by decide +kernel
theorem dX5_bar_13 : decode cX5_bar 13 = .ok (.ifCond .ne 5, 3) := by decide +kernel
theorem dX5_bar_16 : decode cX5_bar 16 = .ok (.iconst (-1), 1) := by decide +kernel
theorem dX5_bar_17 : decode cX5_bar 17 = .ok (.ireturn, 1) := by decide +kernel
theorem dX5_bar_18 : decode cX5_bar 18 = .ok (.iload_n 3, 1) := by decide +kernel
theorem dX5_bar_19 : decode cX5_bar 19 = .ok (.iconst 1, 1) := by decide +kernel
theorem dX5_bar_20 : decode cX5_bar 20 = .ok (.bipush 12, 2) := by decide +kernel
theorem dX5_bar_22 : decode cX5_bar 22 = .ok (.invokestatic 46, 3) := by decide +kernel
theorem dX5_bar_25 : decode cX5_bar 25 = .ok (.ifCond .eq 15, 3) := by decide +kernel
theorem dX5_bar_28 : decode cX5_bar 28 = .ok (.aload_n 0, 1) := by decide +kernel
theorem dX5_bar_29 : decode cX5_bar 29 = .ok (.getfield 12, 3) := by decide +kernel
theorem dX5_bar_32 : decode cX5_bar 32 = .ok (.iload_n 1, 1) := by decide +kernel
theorem dX5_bar_33 : decode cX5_bar 33 = .ok (.iload_n 2, 1) := by decide +kernel
theorem dX5_bar_34 : decode cX5_bar 34 = .ok (.invokevirtual 73, 3) := by decide +kernel
theorem dX5_bar_37 : decode cX5_bar 37 = .ok (.ifCond .ne 6, 3) := by decide +kernel
theorem dX5_bar_40 : decode cX5_bar 40 = .ok (.bipush (-2), 2) := by decide +kernel
theorem dX5_bar_42 : decode cX5_bar 42 = .ok (.ireturn, 1) := by decide +kernel
theorem dX5_bar_43 : decode cX5_bar 43 = .ok (.aload_n 0, 1) := by decide +kernel
theorem dX5_bar_44 : decode cX5_bar 44 = .ok (.getfield 12, 3) := by decide +kernel
theorem dX5_bar_47 : decode cX5_bar 47 = .ok (.iload_n 1, 1) := by decide +kernel
theorem dX5_bar_48 : decode cX5_bar 48 = .ok (.iload_n 2, 1) := by decide +kernel
theorem dX5_bar_49 : decode cX5_bar 49 = .ok (.invokevirtual 76, 3) := by decide +kernel
theorem dX5_bar_52 : decode cX5_bar 52 = .ok (.ifCond .eq 6, 3) := by decide +kernel
theorem dX5_bar_55 : decode cX5_bar 55 = .ok (.bipush (-5), 2) := by decide +kernel
theorem dX5_bar_57 : decode cX5_bar 57 = .ok (.ireturn, 1) := by decide +kernel
theorem dX5_bar_58 : decode cX5_bar 58 = .ok (.aload_n 0, 1) := by decide +kernel
theorem dX5_bar_59 : decode cX5_bar 59 = .ok (.getfield 12, 3) := by decide +kernel
theorem dX5_bar_62 : decode cX5_bar 62 = .ok (.getfield 79, 3) := by decide +kernel
theorem dX5_bar_65 : decode cX5_bar 65 = .ok (.bipush 6, 2) := by decide +kernel
theorem dX5_bar_67 : decode cX5_bar 67 = .ok (.if_icmp .lt 6, 3) := by decide +kernel
theorem dX5_bar_70 : decode cX5_bar 70 = .ok (.bipush (-4), 2) := by decide +kernel
theorem dX5_bar_72 : decode cX5_bar 72 = .ok (.ireturn, 1) := by decide +kernel
theorem dX5_bar_73 : decode cX5_bar 73 = .ok (.aload_n 0, 1) := by decide +kernel
theorem dX5_bar_74 : decode cX5_bar 74 = .ok (.invokevirtual 58, 3) := by decide +kernel
theorem dX5_bar_77 : decode cX5_bar 77 = .ok (.aload_n 0, 1) := by decide +kernel
theorem dX5_bar_78 : decode cX5_bar 78 = .ok (.getfield 12, 3) := by decide +kernel
theorem dX5_bar_81 : decode cX5_bar 81 = .ok (.iload_n 1, 1) := by decide +kernel
theorem dX5_bar_82 : decode cX5_bar 82 = .ok (.iload_n 2, 1) := by decide +kernel
theorem dX5_bar_83 : decode cX5_bar 83 = .ok (.iload_n 3, 1) := by decide +kernel
theorem dX5_bar_84 : decode cX5_bar 84 = .ok (.invokevirtual 82, 3) := by decide +kernel
theorem dX5_bar_87 : decode cX5_bar 87 = .ok (.ireturn, 1) := by decide +kernel
abbrev rm_X5_bar : Room := { frames := 2, cells := 0, slots := 0, locals := 62 }
noncomputable def f_X5_bar (N : Nat) (x1 : Int32) (x2 : Int32) (x3 : Int32) (σ : ZS) : Option (Int32 × ZS) := obd (f_X5_isNode N x1 σ) fun v1 σ2 => (if v1 = 0 then some ((-1 : Int32), σ2) else obd (f_X5_isNode N x2 σ2) fun v4 σ5 => (if v4 = 0 then some ((-1 : Int32), σ5) else obd (f_X5_within N x3 (1 : Int32) (12 : Int32) σ5) fun v7 σ8 => (if v7 = 0 then some ((-2 : Int32), σ8) else obd (f_X2_canJoin N x1 x2 σ8) fun v10 σ11 => (if v10 = 0 then some ((-2 : Int32), σ11) else obd (f_X2_barBetween N x1 x2 σ11) fun v13 σ14 => (if v13 = 0 then (if (gI σ14 2 1) < (6 : Int32) then obd (f_X5_forgetShape N σ14) fun _ σ18 => obd (f_X2_addBar N x1 x2 x3 σ18) fun v19 σ20 => some (v19, σ20) else some ((-4 : Int32), σ14)) else some ((-5 : Int32), σ14))))))
set_option maxHeartbeats 4000000 in
set_option maxRecDepth 100000 in
theorem c_X5_bar (l : Launch) (G : ZG) {N : Nat} {x1 : Int32} {x2 : Int32} {x3 : Int32} {σ σ' : ZS} {r : Int32} (hf : f_X5_bar N x1 x2 x3 σ = some (r, σ')) : zMet l G yX5_bar cX5_bar 4 (some .int) rm_X5_bar [.ref (G.1 0), .int x1, .int x2, .int x3] σ (some (.int r)) σ' := by
  refine z_met (by decide +kernel) rfl (fun Y h hq => ?_)
  have h : zOk (l, rm_X5_bar, 4, 0, 0) Y G cX5_bar RX5 (some .int) := h
  rw [f_X5_bar] at hf
  refine z_sub (lv' := [(0, .ref (G.1 0)), (1, .int x1), (2, .int x2), (3, .int x3)]) [0, 1, 2, 3] rfl ?_
  refine z_aload_n h dX5_bar_0 rfl 0 rfl ?_
  refine z_iload_n h dX5_bar_1 rfl 1 rfl ?_
  obtain ⟨v1, σ2, e2, hf⟩ := obd_out hf
  refine z_cVv h (n := 1) (c_X5_isNode l G e2) zC5 tg_0 ln_0 rfl rfl wd_167 wd_168 wd_169 wd_2 wd_170 (by decide +kernel) ⟨rfl, rfl⟩ rfl rfl rfl dX5_bar_2 ⟨Nat.zero_le _, Nat.zero_le _⟩ ?_
  refine z_if_eq h (tgt := 16) dX5_bar_5 (by decide) (fun g3 => ?_) (fun g3 => ?_)
  · have hf := it_pos g3 hf
    refine z_iconst h (v := (-1 : Int32)) dX5_bar_16 ic_m1 ?_
    exact z_iret h (rt_I hf hq) dX5_bar_17
  · have hf := it_neg g3 hf
    refine z_aload_n h dX5_bar_8 rfl 0 rfl ?_
    refine z_iload_n h dX5_bar_9 rfl 2 rfl ?_
    obtain ⟨v4, σ5, e5, hf⟩ := obd_out hf
    refine z_cVv h (n := 1) (c_X5_isNode l G e5) zC5 tg_0 ln_0 rfl rfl wd_167 wd_168 wd_169 wd_2 wd_170 (by decide +kernel) ⟨rfl, rfl⟩ rfl rfl rfl dX5_bar_10 ⟨Nat.zero_le _, Nat.zero_le _⟩ ?_
    refine z_if_ne h (tgt := 18) dX5_bar_13 (by decide) (fun g6 => ?_) (fun g6 => ?_)
    · have hf := it_neg g6 hf
      refine z_iload_n h dX5_bar_18 rfl 3 rfl ?_
      refine z_iconst h (v := (1 : Int32)) dX5_bar_19 ic_1 ?_
      refine z_bipush h (v := (12 : Int32)) dX5_bar_20 bp_12 ?_
      obtain ⟨v7, σ8, e8, hf⟩ := obd_out hf
      refine z_cSv h (n := 3) (c_X5_within l G e8) rfl wd_133 wd_134 wd_2 wd_135 (by decide +kernel) ⟨rfl, rfl⟩ rfl rfl rfl dX5_bar_22 ⟨Nat.zero_le _, Nat.zero_le _⟩ ?_
      refine z_if_eq h (tgt := 40) dX5_bar_25 (by decide) (fun g9 => ?_) (fun g9 => ?_)
      · have hf := it_pos g9 hf
        refine z_bipush h (v := (-2 : Int32)) dX5_bar_40 bp_m2 ?_
        exact z_iret h (rt_I hf hq) dX5_bar_42
      · have hf := it_neg g9 hf
        refine z_aload_n h dX5_bar_28 rfl 0 rfl ?_
        refine z_gfR h zC5 (d := 2) (c := 0) tg_0 ln_0 0 rfl ft_5_0 rf_0_0 wd_15 dX5_bar_29 ?_
        refine z_iload_n h dX5_bar_32 rfl 1 rfl ?_
        refine z_iload_n h dX5_bar_33 rfl 2 rfl ?_
        obtain ⟨v10, σ11, e11, hf⟩ := obd_out hf
        refine z_cVv h (n := 2) (c_X2_canJoin l G e11) zC2 tg_2 ln_2 rfl rfl wd_183 wd_184 wd_185 wd_14 wd_186 (by decide +kernel) ⟨rfl, rfl⟩ rfl rfl rfl dX5_bar_34 ⟨Nat.zero_le _, Nat.zero_le _⟩ ?_
        refine z_if_ne h (tgt := 43) dX5_bar_37 (by decide) (fun g12 => ?_) (fun g12 => ?_)
        · have hf := it_neg g12 hf
          refine z_aload_n h dX5_bar_43 rfl 0 rfl ?_
          refine z_gfR h zC5 (d := 2) (c := 0) tg_0 ln_0 0 rfl ft_5_0 rf_0_0 wd_15 dX5_bar_44 ?_
          refine z_iload_n h dX5_bar_47 rfl 1 rfl ?_
          refine z_iload_n h dX5_bar_48 rfl 2 rfl ?_
          obtain ⟨v13, σ14, e14, hf⟩ := obd_out hf
          refine z_cVv h (n := 2) (c_X2_barBetween l G e14) zC2 tg_2 ln_2 rfl rfl wd_187 wd_188 wd_189 wd_14 wd_190 (by decide +kernel) ⟨rfl, rfl⟩ rfl rfl rfl dX5_bar_49 ⟨Nat.zero_le _, Nat.zero_le _⟩ ?_
          refine z_if_eq h (tgt := 58) dX5_bar_52 (by decide) (fun g15 => ?_) (fun g15 => ?_)
          · have hf := it_pos g15 hf
            refine z_aload_n h dX5_bar_58 rfl 0 rfl ?_
            refine z_gfR h zC5 (d := 2) (c := 0) tg_0 ln_0 0 rfl ft_5_0 rf_0_0 wd_15 dX5_bar_59 ?_
            refine z_gfIN h zC2 (c := 2) tg_2 ln_2 1 rfl ft_2_1 (by decide +kernel) dX5_bar_62 ?_
            refine z_bipush h (v := (6 : Int32)) dX5_bar_65 bp_6 ?_
            refine z_icmp_lt h (tgt := 73) dX5_bar_67 (by decide) (fun g16 => ?_) (fun g16 => ?_)
            · have hf := it_pos g16 hf
              refine z_aload_n h dX5_bar_73 rfl 0 rfl ?_
              obtain ⟨v17, σ18, e18, hf⟩ := obd_out hf
              refine z_cV0 h (n := 0) (c_X5_forgetShape l G e18) zC5 tg_0 ln_0 rfl rfl wd_141 wd_142 wd_143 wd_2 wd_144 (by decide +kernel) ⟨rfl, rfl⟩ rfl rfl rfl dX5_bar_74 ⟨Nat.zero_le _, Nat.zero_le _⟩ ?_
              refine z_aload_n h dX5_bar_77 rfl 0 rfl ?_
              refine z_gfR h zC5 (d := 2) (c := 0) tg_0 ln_0 0 rfl ft_5_0 rf_0_0 wd_15 dX5_bar_78 ?_
              refine z_iload_n h dX5_bar_81 rfl 1 rfl ?_
              refine z_iload_n h dX5_bar_82 rfl 2 rfl ?_
              refine z_iload_n h dX5_bar_83 rfl 3 rfl ?_
              obtain ⟨v19, σ20, e20, hf⟩ := obd_out hf
              refine z_cVv h (n := 3) (c_X2_addBar l G e20) zC2 tg_2 ln_2 rfl rfl wd_192 wd_193 wd_194 wd_14 wd_195 (by decide +kernel) ⟨rfl, rfl⟩ rfl rfl rfl dX5_bar_84 ⟨Nat.zero_le _, Nat.zero_le _⟩ ?_
              exact z_iret h (rt_I hf hq) dX5_bar_87
            · have hf := it_neg g16 hf
              refine z_bipush h (v := (-4 : Int32)) dX5_bar_70 bp_m4 ?_
              exact z_iret h (rt_I hf hq) dX5_bar_72
          · have hf := it_neg g15 hf
            refine z_bipush h (v := (-5 : Int32)) dX5_bar_55 bp_m5 ?_
            exact z_iret h (rt_I hf hq) dX5_bar_57
        · have hf := it_pos g12 hf
          refine z_bipush h (v := (-2 : Int32)) dX5_bar_40 bp_m2 ?_
          exact z_iret h (rt_I hf hq) dX5_bar_42
    · have hf := it_pos g6 hf
      refine z_iconst h (v := (-1 : Int32)) dX5_bar_16 ic_m1 ?_
      exact z_iret h (rt_I hf hq) dX5_bar_17
theorem dX5_isBar_0 : decode cX5_isBar 0 = .ok (.iload_n 1, 1) := by decide +kernel
theorem dX5_isBar_1 : decode cX5_isBar 1 = .ok (.iconst 0, 1) := by decide +kernel
theorem dX5_isBar_2 : decode cX5_isBar 2 = .ok (.aload_n 0, 1) := by decide +kernel
theorem dX5_isBar_3 : decode cX5_isBar 3 = .ok (.getfield 12, 3) := by decide +kernel
theorem dX5_isBar_6 : decode cX5_isBar 6 = .ok (.getfield 79, 3) := by decide +kernel
theorem dX5_isBar_9 : decode cX5_isBar 9 = .ok (.iconst 1, 1) := by decide +kernel
theorem dX5_isBar_10 : decode cX5_isBar 10 = .ok (.isub, 1) := by decide +kernel
theorem dX5_isBar_11 : decode cX5_isBar 11 = .ok (.invokestatic 46, 3) := by decide +kernel
theorem dX5_isBar_14 : decode cX5_isBar 14 = .ok (.ireturn, 1) := by decide +kernel
abbrev rm_X5_isBar : Room := { frames := 1, cells := 0, slots := 0, locals := 30 }
noncomputable def f_X5_isBar (N : Nat) (x1 : Int32) (σ : ZS) : Option (Int32 × ZS) := obd (f_X5_within N x1 (0 : Int32) ((gI σ 2 1) - (1 : Int32)) σ) fun v1 σ2 => ck (bb v1) (some (v1, σ2))
set_option maxHeartbeats 4000000 in
set_option maxRecDepth 100000 in
theorem c_X5_isBar (l : Launch) (G : ZG) {N : Nat} {x1 : Int32} {σ σ' : ZS} {r : Int32} (hf : f_X5_isBar N x1 σ = some (r, σ')) : zMet l G yX5_isBar cX5_isBar 2 (some .boolean) rm_X5_isBar [.ref (G.1 0), .int x1] σ (some (.int r)) σ' := by
  refine z_met (by decide +kernel) rfl (fun Y h hq => ?_)
  have h : zOk (l, rm_X5_isBar, 2, 0, 0) Y G cX5_isBar RX5 (some .boolean) := h
  rw [f_X5_isBar] at hf
  refine z_sub (lv' := [(0, .ref (G.1 0)), (1, .int x1)]) [0, 1] rfl ?_
  refine z_iload_n h dX5_isBar_0 rfl 1 rfl ?_
  refine z_iconst h (v := (0 : Int32)) dX5_isBar_1 ic_0 ?_
  refine z_aload_n h dX5_isBar_2 rfl 0 rfl ?_
  refine z_gfR h zC5 (d := 2) (c := 0) tg_0 ln_0 0 rfl ft_5_0 rf_0_0 wd_15 dX5_isBar_3 ?_
  refine z_gfIN h zC2 (c := 2) tg_2 ln_2 1 rfl ft_2_1 (by decide +kernel) dX5_isBar_6 ?_
  refine z_iconst h (v := (1 : Int32)) dX5_isBar_9 ic_1 ?_
  refine z_isub h dX5_isBar_10 ?_
  obtain ⟨v1, σ2, e2, hf⟩ := obd_out hf
  refine z_cSv h (n := 3) (c_X5_within l G e2) rfl wd_133 wd_134 wd_2 wd_135 (by decide +kernel) ⟨rfl, rfl⟩ rfl rfl rfl dX5_isBar_11 ⟨Nat.zero_le _, Nat.zero_le _⟩ ?_
  obtain ⟨g3, hf⟩ := ck_out hf
  exact z_zret h g3 (rt_I hf hq) dX5_isBar_14
theorem dX5_lift_0 : decode cX5_lift 0 = .ok (.aload_n 0, 1) := by decide +kernel
theorem dX5_lift_1 : decode cX5_lift 1 = .ok (.iload_n 1, 1) := by decide +kernel
theorem dX5_lift_2 : decode cX5_lift 2 = .ok (.invokevirtual 85, 3) := by decide +kernel
theorem dX5_lift_5 : decode cX5_lift 5 = .ok (.ifCond .ne 5, 3) := by decide +kernel
theorem dX5_lift_8 : decode cX5_lift 8 = .ok (.iconst (-1), 1) := by decide +kernel
theorem dX5_lift_9 : decode cX5_lift 9 = .ok (.ireturn, 1) := by decide +kernel
theorem dX5_lift_10 : decode cX5_lift 10 = .ok (.aload_n 0, 1) := by decide +kernel
theorem dX5_lift_11 : decode cX5_lift 11 = .ok (.invokevirtual 58, 3) := by decide +kernel
theorem dX5_lift_14 : decode cX5_lift 14 = .ok (.aload_n 0, 1) := by decide +kernel
theorem dX5_lift_15 : decode cX5_lift 15 = .ok (.getfield 12, 3) := by decide +kernel
theorem dX5_lift_18 : decode cX5_lift 18 = .ok (.iload_n 1, 1) := by decide +kernel
theorem dX5_lift_19 : decode cX5_lift 19 = .ok (.invokevirtual 88, 3) := by decide +kernel
theorem dX5_lift_22 : decode cX5_lift 22 = .ok (.ireturn, 1) := by decide +kernel
abbrev rm_X5_lift : Room := { frames := 2, cells := 0, slots := 0, locals := 59 }
noncomputable def f_X5_lift (N : Nat) (x1 : Int32) (σ : ZS) : Option (Int32 × ZS) := obd (f_X5_isBar N x1 σ) fun v1 σ2 => (if v1 = 0 then some ((-1 : Int32), σ2) else obd (f_X5_forgetShape N σ2) fun _ σ5 => obd (f_X2_removeBar N x1 σ5) fun v6 σ7 => some (v6, σ7))
set_option maxHeartbeats 4000000 in
set_option maxRecDepth 100000 in
theorem c_X5_lift (l : Launch) (G : ZG) {N : Nat} {x1 : Int32} {σ σ' : ZS} {r : Int32} (hf : f_X5_lift N x1 σ = some (r, σ')) : zMet l G yX5_lift cX5_lift 2 (some .int) rm_X5_lift [.ref (G.1 0), .int x1] σ (some (.int r)) σ' := by
  refine z_met (by decide +kernel) rfl (fun Y h hq => ?_)
  have h : zOk (l, rm_X5_lift, 2, 0, 0) Y G cX5_lift RX5 (some .int) := h
  rw [f_X5_lift] at hf
  refine z_sub (lv' := [(0, .ref (G.1 0)), (1, .int x1)]) [0, 1] rfl ?_
  refine z_aload_n h dX5_lift_0 rfl 0 rfl ?_
  refine z_iload_n h dX5_lift_1 rfl 1 rfl ?_
  obtain ⟨v1, σ2, e2, hf⟩ := obd_out hf
  refine z_cVv h (n := 1) (c_X5_isBar l G e2) zC5 tg_0 ln_0 rfl rfl wd_205 wd_206 wd_207 wd_2 wd_208 (by decide +kernel) ⟨rfl, rfl⟩ rfl rfl rfl dX5_lift_2 ⟨Nat.zero_le _, Nat.zero_le _⟩ ?_
  refine z_if_ne h (tgt := 10) dX5_lift_5 (by decide) (fun g3 => ?_) (fun g3 => ?_)
  · have hf := it_neg g3 hf
    refine z_aload_n h dX5_lift_10 rfl 0 rfl ?_
    obtain ⟨v4, σ5, e5, hf⟩ := obd_out hf
    refine z_cV0 h (n := 0) (c_X5_forgetShape l G e5) zC5 tg_0 ln_0 rfl rfl wd_141 wd_142 wd_143 wd_2 wd_144 (by decide +kernel) ⟨rfl, rfl⟩ rfl rfl rfl dX5_lift_11 ⟨Nat.zero_le _, Nat.zero_le _⟩ ?_
    refine z_aload_n h dX5_lift_14 rfl 0 rfl ?_
    refine z_gfR h zC5 (d := 2) (c := 0) tg_0 ln_0 0 rfl ft_5_0 rf_0_0 wd_15 dX5_lift_15 ?_
    refine z_iload_n h dX5_lift_18 rfl 1 rfl ?_
    obtain ⟨v6, σ7, e7, hf⟩ := obd_out hf
    refine z_cVv h (n := 1) (c_X2_removeBar l G e7) zC2 tg_2 ln_2 rfl rfl wd_209 wd_210 wd_211 wd_14 wd_212 (by decide +kernel) ⟨rfl, rfl⟩ rfl rfl rfl dX5_lift_19 ⟨Nat.zero_le _, Nat.zero_le _⟩ ?_
    exact z_iret h (rt_I hf hq) dX5_lift_22
  · have hf := it_pos g3 hf
    refine z_iconst h (v := (-1 : Int32)) dX5_lift_8 ic_m1 ?_
    exact z_iret h (rt_I hf hq) dX5_lift_9
theorem dX5_strengthen_0 : decode cX5_strengthen 0 = .ok (.aload_n 0, 1) := by decide +kernel
theorem dX5_strengthen_1 : decode cX5_strengthen 1 = .ok (.iload_n 1, 1) := by decide +kernel
theorem dX5_strengthen_2 : decode cX5_strengthen 2 = .ok (.invokevirtual 85, 3) := by decide +kernel
theorem dX5_strengthen_5 : decode cX5_strengthen 5 = .ok (.ifCond .ne 5, 3) := by decide +kernel
theorem dX5_strengthen_8 : decode cX5_strengthen 8 = .ok (.iconst (-1), 1) := by decide +kernel
theorem dX5_strengthen_9 : decode cX5_strengthen 9 = .ok (.ireturn, 1) := by decide +kernel
theorem dX5_strengthen_10 : decode cX5_strengthen 10 = .ok (.iload_n 2, 1) := by decide +kernel
theorem dX5_strengthen_11 : decode cX5_strengthen 11 = .ok (.iconst 1, 1) := by decide +kernel
theorem dX5_strengthen_12 : decode cX5_strengthen 12 = .ok (.bipush 12, 2) := by decide +kernel
theorem dX5_strengthen_14 : decode cX5_strengthen 14 = .ok (.invokestatic 46, 3) := by decide +kernel
theorem dX5_strengthen_17 : decode cX5_strengthen 17 = .ok (.ifCond .ne 6, 3) := by decide +kernel
theorem dX5_strengthen_20 : decode cX5_strengthen 20 = .ok (.bipush (-2), 2) := by decide +kernel
theorem dX5_strengthen_22 : decode cX5_strengthen 22 = .ok (.ireturn, 1) := by decide +kernel
theorem dX5_strengthen_23 : decode cX5_strengthen 23 = .ok (.aload_n 0, 1) := by decide +kernel
theorem dX5_strengthen_24 : decode cX5_strengthen 24 = .ok (.getfield 12, 3) := by decide +kernel
theorem dX5_strengthen_27 : decode cX5_strengthen 27 = .ok (.getfield 92, 3) := by decide +kernel
theorem dX5_strengthen_30 : decode cX5_strengthen 30 = .ok (.iload_n 1, 1) := by decide +kernel
theorem dX5_strengthen_31 : decode cX5_strengthen 31 = .ok (.iaload, 1) := by decide +kernel
theorem dX5_strengthen_32 : decode cX5_strengthen 32 = .ok (.istore_n 3, 1) := by decide +kernel
theorem dX5_strengthen_33 : decode cX5_strengthen 33 = .ok (.aload_n 0, 1) := by decide +kernel
theorem dX5_strengthen_34 : decode cX5_strengthen 34 = .ok (.getfield 12, 3) := by decide +kernel
theorem dX5_strengthen_37 : decode cX5_strengthen 37 = .ok (.getfield 92, 3) := by decide +kernel
theorem dX5_strengthen_40 : decode cX5_strengthen 40 = .ok (.iload_n 1, 1) := by decide +kernel
theorem dX5_strengthen_41 : decode cX5_strengthen 41 = .ok (.iload_n 2, 1) := by decide +kernel
theorem dX5_strengthen_42 : decode cX5_strengthen 42 = .ok (.iastore, 1) := by decide +kernel
theorem dX5_strengthen_43 : decode cX5_strengthen 43 = .ok (.aload_n 0, 1) := by decide +kernel
theorem dX5_strengthen_44 : decode cX5_strengthen 44 = .ok (.iconst 0, 1) := by decide +kernel
theorem dX5_strengthen_45 : decode cX5_strengthen 45 = .ok (.putfield 95, 3) := by decide +kernel
theorem dX5_strengthen_48 : decode cX5_strengthen 48 = .ok (.iload_n 3, 1) := by decide +kernel
theorem dX5_strengthen_49 : decode cX5_strengthen 49 = .ok (.ireturn, 1) := by decide +kernel
abbrev rm_X5_strengthen : Room := { frames := 2, cells := 0, slots := 0, locals := 59 }
noncomputable def f_X5_strengthen (N : Nat) (x1 : Int32) (x2 : Int32) (σ : ZS) : Option (Int32 × ZS) := obd (f_X5_isBar N x1 σ) fun v1 σ2 => (if v1 = 0 then some ((-1 : Int32), σ2) else obd (f_X5_within N x2 (1 : Int32) (12 : Int32) σ2) fun v4 σ5 => (if v4 = 0 then some ((-2 : Int32), σ5) else ck (inb x1 6) (bd (gI σ5 25 (x1.toNatClampNeg)) fun v8 => ck (inb x1 6) (bd (sI σ5 25 (x1.toNatClampNeg) x2) fun σ10 => bd (sI σ10 0 8 (0 : Int32)) fun σ11 => some (v8, σ11)))))
set_option maxHeartbeats 4000000 in
set_option maxRecDepth 100000 in
theorem c_X5_strengthen (l : Launch) (G : ZG) {N : Nat} {x1 : Int32} {x2 : Int32} {σ σ' : ZS} {r : Int32} (hf : f_X5_strengthen N x1 x2 σ = some (r, σ')) : zMet l G yX5_strengthen cX5_strengthen 4 (some .int) rm_X5_strengthen [.ref (G.1 0), .int x1, .int x2] σ (some (.int r)) σ' := by
  refine z_met (by decide +kernel) rfl (fun Y h hq => ?_)
  have h : zOk (l, rm_X5_strengthen, 4, 0, 0) Y G cX5_strengthen RX5 (some .int) := h
  rw [f_X5_strengthen] at hf
  refine z_sub (lv' := [(0, .ref (G.1 0)), (1, .int x1), (2, .int x2)]) [0, 1, 2] rfl ?_
  refine z_aload_n h dX5_strengthen_0 rfl 0 rfl ?_
  refine z_iload_n h dX5_strengthen_1 rfl 1 rfl ?_
  obtain ⟨v1, σ2, e2, hf⟩ := obd_out hf
  refine z_cVv h (n := 1) (c_X5_isBar l G e2) zC5 tg_0 ln_0 rfl rfl wd_205 wd_206 wd_207 wd_2 wd_208 (by decide +kernel) ⟨rfl, rfl⟩ rfl rfl rfl dX5_strengthen_2 ⟨Nat.zero_le _, Nat.zero_le _⟩ ?_
  refine z_if_ne h (tgt := 10) dX5_strengthen_5 (by decide) (fun g3 => ?_) (fun g3 => ?_)
  · have hf := it_neg g3 hf
    refine z_iload_n h dX5_strengthen_10 rfl 2 rfl ?_
    refine z_iconst h (v := (1 : Int32)) dX5_strengthen_11 ic_1 ?_
    refine z_bipush h (v := (12 : Int32)) dX5_strengthen_12 bp_12 ?_
    obtain ⟨v4, σ5, e5, hf⟩ := obd_out hf
    refine z_cSv h (n := 3) (c_X5_within l G e5) rfl wd_133 wd_134 wd_2 wd_135 (by decide +kernel) ⟨rfl, rfl⟩ rfl rfl rfl dX5_strengthen_14 ⟨Nat.zero_le _, Nat.zero_le _⟩ ?_
    refine z_if_ne h (tgt := 23) dX5_strengthen_17 (by decide) (fun g6 => ?_) (fun g6 => ?_)
    · have hf := it_neg g6 hf
      refine z_aload_n h dX5_strengthen_23 rfl 0 rfl ?_
      refine z_gfR h zC5 (d := 2) (c := 0) tg_0 ln_0 0 rfl ft_5_0 rf_0_0 wd_15 dX5_strengthen_24 ?_
      refine z_gfRN h zC2 (d := 25) (c := 2) tg_2 ln_2 7 rfl ft_2_7 rf_2_7 (by decide +kernel) dX5_strengthen_27 ?_
      refine z_iload_n h dX5_strengthen_30 rfl 1 rfl ?_
      obtain ⟨g7, hf⟩ := ck_out hf
      refine z_iald h (c := 25) tg_25 ln_25 g7 dX5_strengthen_31 ?_
      refine z_topI (fun v8 ev8 => ?_)
      have hf := bd_to ev8 hf
      refine z_istore_n h dX5_strengthen_32 rfl (lv' := [(3, .int v8), (0, .ref (G.1 0)), (1, .int x1), (2, .int x2)]) rfl rfl ?_
      refine z_aload_n h dX5_strengthen_33 rfl 1 rfl ?_
      refine z_gfR h zC5 (d := 2) (c := 0) tg_0 ln_0 0 rfl ft_5_0 rf_0_0 wd_15 dX5_strengthen_34 ?_
      refine z_gfRN h zC2 (d := 25) (c := 2) tg_2 ln_2 7 rfl ft_2_7 rf_2_7 (by decide +kernel) dX5_strengthen_37 ?_
      refine z_iload_n h dX5_strengthen_40 rfl 2 rfl ?_
      refine z_iload_n h dX5_strengthen_41 rfl 3 rfl ?_
      obtain ⟨g9, hf⟩ := ck_out hf
      refine z_iast h (c := 25) tg_25 ln_25 g9 dX5_strengthen_42 ?_
      refine z_gen (fun σ10 eσ10 => ?_)
      have hf := bd_to eσ10 hf
      refine z_aload_n h dX5_strengthen_43 rfl 1 rfl ?_
      refine z_iconst h (v := (0 : Int32)) dX5_strengthen_44 ic_0 ?_
      refine z_pfI h zC5 (c := 0) tg_0 ln_0 8 rfl ft_5_8 wd_146 rfl (ty := .boolean) (by decide +kernel) rfl rfl dX5_strengthen_45 ?_
      refine z_gen (fun σ11 eσ11 => ?_)
      have hf := bd_to eσ11 hf
      refine z_iload_n h dX5_strengthen_48 rfl 0 rfl ?_
      exact z_iret h (rt_I hf hq) dX5_strengthen_49
    · have hf := it_pos g6 hf
      refine z_bipush h (v := (-2 : Int32)) dX5_strengthen_20 bp_m2 ?_
      exact z_iret h (rt_I hf hq) dX5_strengthen_22
  · have hf := it_pos g3 hf
    refine z_iconst h (v := (-1 : Int32)) dX5_strengthen_8 ic_m1 ?_
    exact z_iret h (rt_I hf hq) dX5_strengthen_9
theorem dX5_load_0 : decode cX5_load 0 = .ok (.aload_n 0, 1) := by decide +kernel
theorem dX5_load_1 : decode cX5_load 1 = .ok (.iload_n 2, 1) := by decide +kernel
theorem dX5_load_2 : decode cX5_load 2 = .ok (.invokevirtual 65, 3) := by decide +kernel
theorem dX5_load_5 : decode cX5_load 5 = .ok (.ifCond .ne 5, 3) := by decide +kernel
theorem dX5_load_8 : decode cX5_load 8 = .ok (.iconst (-1), 1) := by decide +kernel
theorem dX5_load_9 : decode cX5_load 9 = .ok (.ireturn, 1) := by decide +kernel
theorem dX5_load_10 : decode cX5_load 10 = .ok (.iload_n 1, 1) := by decide +kernel
theorem dX5_load_11 : decode cX5_load 11 = .ok (.iconst 0, 1) := by decide +kernel
theorem dX5_load_12 : decode cX5_load 12 = .ok (.iconst 2, 1) := by decide +kernel
theorem dX5_load_13 : decode cX5_load 13 = .ok (.invokestatic 46, 3) := by decide +kernel
theorem dX5_load_16 : decode cX5_load 16 = .ok (.ifCond .eq 24, 3) := by decide +kernel
theorem dX5_load_19 : decode cX5_load 19 = .ok (.iload_n 3, 1) := by decide +kernel
theorem dX5_load_20 : decode cX5_load 20 = .ok (.bipush (-5), 2) := by decide +kernel
theorem dX5_load_22 : decode cX5_load 22 = .ok (.iconst 5, 1) := by decide +kernel
theorem dX5_load_23 : decode cX5_load 23 = .ok (.invokestatic 46, 3) := by decide +kernel
theorem dX5_load_26 : decode cX5_load 26 = .ok (.ifCond .eq 14, 3) := by decide +kernel
theorem dX5_load_29 : decode cX5_load 29 = .ok (.iload 4, 2) := by decide +kernel
theorem dX5_load_31 : decode cX5_load 31 = .ok (.bipush (-5), 2) := by decide +kernel
theorem dX5_load_33 : decode cX5_load 33 = .ok (.iconst 5, 1) := by decide +kernel
theorem dX5_load_34 : decode cX5_load 34 = .ok (.invokestatic 46, 3) := by decide +kernel
theorem dX5_load_37 : decode cX5_load 37 = .ok (.ifCond .ne 6, 3) := by decide +kernel
theorem dX5_load_40 : decode cX5_load 40 = .ok (.bipush (-2), 2) := by decide +kernel
theorem dX5_load_42 : decode cX5_load 42 = .ok (.ireturn, 1) := by decide +kernel
theorem dX5_load_43 : decode cX5_load 43 = .ok (.aload_n 0, 1) := by decide +kernel
theorem dX5_load_44 : decode cX5_load 44 = .ok (.getfield 12, 3) := by decide +kernel
theorem dX5_load_47 : decode cX5_load 47 = .ok (.getfield 99, 3) := by decide +kernel
theorem dX5_load_50 : decode cX5_load 50 = .ok (.iconst 2, 1) := by decide +kernel
theorem dX5_load_51 : decode cX5_load 51 = .ok (.iload_n 1, 1) := by decide +kernel
theorem dX5_load_52 : decode cX5_load 52 = .ok (.imul, 1) := by decide +kernel
theorem dX5_load_53 : decode cX5_load 53 = .ok (.aaload, 1) := by decide +kernel
theorem dX5_load_54 : decode cX5_load 54 = .ok (.iload_n 2, 1) := by decide +kernel
theorem dX5_load_55 : decode cX5_load 55 = .ok (.iload_n 3, 1) := by decide +kernel
theorem dX5_load_56 : decode cX5_load 56 = .ok (.iastore, 1) := by decide +kernel
theorem dX5_load_57 : decode cX5_load 57 = .ok (.aload_n 0, 1) := by decide +kernel
theorem dX5_load_58 : decode cX5_load 58 = .ok (.getfield 12, 3) := by decide +kernel
theorem dX5_load_61 : decode cX5_load 61 = .ok (.getfield 99, 3) := by decide +kernel
theorem dX5_load_64 : decode cX5_load 64 = .ok (.iconst 2, 1) := by decide +kernel
theorem dX5_load_65 : decode cX5_load 65 = .ok (.iload_n 1, 1) := by decide +kernel
theorem dX5_load_66 : decode cX5_load 66 = .ok (.imul, 1) := by decide +kernel
theorem dX5_load_67 : decode cX5_load 67 = .ok (.iconst 1, 1) := by decide +kernel
theorem dX5_load_68 : decode cX5_load 68 = .ok (.iadd, 1) := by decide +kernel
theorem dX5_load_69 : decode cX5_load 69 = .ok (.aaload, 1) := by decide +kernel
theorem dX5_load_70 : decode cX5_load 70 = .ok (.iload_n 2, 1) := by decide +kernel
theorem dX5_load_71 : decode cX5_load 71 = .ok (.iload 4, 2) := by decide +kernel
theorem dX5_load_73 : decode cX5_load 73 = .ok (.iastore, 1) := by decide +kernel
theorem dX5_load_74 : decode cX5_load 74 = .ok (.aload_n 0, 1) := by decide +kernel
theorem dX5_load_75 : decode cX5_load 75 = .ok (.iconst 0, 1) := by decide +kernel
theorem dX5_load_76 : decode cX5_load 76 = .ok (.putfield 95, 3) := by decide +kernel
theorem dX5_load_79 : decode cX5_load 79 = .ok (.aload_n 0, 1) := by decide +kernel
theorem dX5_load_80 : decode cX5_load 80 = .ok (.getfield 12, 3) := by decide +kernel
theorem dX5_load_83 : decode cX5_load 83 = .ok (.iload_n 1, 1) := by decide +kernel
theorem dX5_load_84 : decode cX5_load 84 = .ok (.invokevirtual 103, 3) := by decide +kernel
theorem dX5_load_87 : decode cX5_load 87 = .ok (.ireturn, 1) := by decide +kernel
abbrev rm_X5_load : Room := { frames := 2, cells := 0, slots := 0, locals := 59 }
noncomputable def f_X5_load (N : Nat) (x1 : Int32) (x2 : Int32) (x3 : Int32) (x4 : Int32) (σ : ZS) : Option (Int32 × ZS) := obd (f_X5_isNode N x2 σ) fun v1 σ2 => (if v1 = 0 then some ((-1 : Int32), σ2) else obd (f_X5_within N x1 (0 : Int32) (2 : Int32) σ2) fun v4 σ5 => (if v4 = 0 then some ((-2 : Int32), σ5) else obd (f_X5_within N x3 (-5 : Int32) (5 : Int32) σ5) fun v7 σ8 => (if v7 = 0 then some ((-2 : Int32), σ8) else obd (f_X5_within N x4 (-5 : Int32) (5 : Int32) σ8) fun v10 σ11 => (if v10 = 0 then some ((-2 : Int32), σ11) else ck (inb ((2 : Int32) * x1) 6) (ck (tg (38 + ((2 : Int32) * x1).toNatClampNeg) == 1) (ck (inb x2 (ln (38 + ((2 : Int32) * x1).toNatClampNeg))) (bd (sI σ11 (38 + ((2 : Int32) * x1).toNatClampNeg) (x2.toNatClampNeg) x3) fun σ16 => ck (inb (((2 : Int32) * x1) + (1 : Int32)) 6) (ck (tg (38 + (((2 : Int32) * x1) + (1 : Int32)).toNatClampNeg) == 1) (ck (inb x2 (ln (38 + (((2 : Int32) * x1) + (1 : Int32)).toNatClampNeg))) (bd (sI σ16 (38 + (((2 : Int32) * x1) + (1 : Int32)).toNatClampNeg) (x2.toNatClampNeg) x4) fun σ20 => bd (sI σ20 0 8 (0 : Int32)) fun σ21 => obd (f_X2_loadedNodes N x1 σ21) fun v22 σ23 => some (v22, σ23)))))))))))
set_option maxHeartbeats 4000000 in
set_option maxRecDepth 100000 in
theorem c_X5_load (l : Launch) (G : ZG) {N : Nat} {x1 : Int32} {x2 : Int32} {x3 : Int32} {x4 : Int32} {σ σ' : ZS} {r : Int32} (hf : f_X5_load N x1 x2 x3 x4 σ = some (r, σ')) : zMet l G yX5_load cX5_load 5 (some .int) rm_X5_load [.ref (G.1 0), .int x1, .int x2, .int x3, .int x4] σ (some (.int r)) σ' := by
  refine z_met (by decide +kernel) rfl (fun Y h hq => ?_)
  have h : zOk (l, rm_X5_load, 5, 0, 0) Y G cX5_load RX5 (some .int) := h
  rw [f_X5_load] at hf
  refine z_sub (lv' := [(0, .ref (G.1 0)), (1, .int x1), (2, .int x2), (3, .int x3), (4, .int x4)]) [0, 1, 2, 3, 4] rfl ?_
  refine z_aload_n h dX5_load_0 rfl 0 rfl ?_
  refine z_iload_n h dX5_load_1 rfl 2 rfl ?_
  obtain ⟨v1, σ2, e2, hf⟩ := obd_out hf
  refine z_cVv h (n := 1) (c_X5_isNode l G e2) zC5 tg_0 ln_0 rfl rfl wd_167 wd_168 wd_169 wd_2 wd_170 (by decide +kernel) ⟨rfl, rfl⟩ rfl rfl rfl dX5_load_2 ⟨Nat.zero_le _, Nat.zero_le _⟩ ?_
  refine z_if_ne h (tgt := 10) dX5_load_5 (by decide) (fun g3 => ?_) (fun g3 => ?_)
  · have hf := it_neg g3 hf
    refine z_iload_n h dX5_load_10 rfl 1 rfl ?_
    refine z_iconst h (v := (0 : Int32)) dX5_load_11 ic_0 ?_
    refine z_iconst h (v := (2 : Int32)) dX5_load_12 ic_2 ?_
    obtain ⟨v4, σ5, e5, hf⟩ := obd_out hf
    refine z_cSv h (n := 3) (c_X5_within l G e5) rfl wd_133 wd_134 wd_2 wd_135 (by decide +kernel) ⟨rfl, rfl⟩ rfl rfl rfl dX5_load_13 ⟨Nat.zero_le _, Nat.zero_le _⟩ ?_
    refine z_if_eq h (tgt := 40) dX5_load_16 (by decide) (fun g6 => ?_) (fun g6 => ?_)
    · have hf := it_pos g6 hf
      refine z_bipush h (v := (-2 : Int32)) dX5_load_40 bp_m2 ?_
      exact z_iret h (rt_I hf hq) dX5_load_42
    · have hf := it_neg g6 hf
      refine z_iload_n h dX5_load_19 rfl 3 rfl ?_
      refine z_bipush h (v := (-5 : Int32)) dX5_load_20 bp_m5 ?_
      refine z_iconst h (v := (5 : Int32)) dX5_load_22 ic_5 ?_
      obtain ⟨v7, σ8, e8, hf⟩ := obd_out hf
      refine z_cSv h (n := 3) (c_X5_within l G e8) rfl wd_133 wd_134 wd_2 wd_135 (by decide +kernel) ⟨rfl, rfl⟩ rfl rfl rfl dX5_load_23 ⟨Nat.zero_le _, Nat.zero_le _⟩ ?_
      refine z_if_eq h (tgt := 40) dX5_load_26 (by decide) (fun g9 => ?_) (fun g9 => ?_)
      · have hf := it_pos g9 hf
        refine z_bipush h (v := (-2 : Int32)) dX5_load_40 bp_m2 ?_
        exact z_iret h (rt_I hf hq) dX5_load_42
      · have hf := it_neg g9 hf
        refine z_iload h dX5_load_29 4 rfl ?_
        refine z_bipush h (v := (-5 : Int32)) dX5_load_31 bp_m5 ?_
        refine z_iconst h (v := (5 : Int32)) dX5_load_33 ic_5 ?_
        obtain ⟨v10, σ11, e11, hf⟩ := obd_out hf
        refine z_cSv h (n := 3) (c_X5_within l G e11) rfl wd_133 wd_134 wd_2 wd_135 (by decide +kernel) ⟨rfl, rfl⟩ rfl rfl rfl dX5_load_34 ⟨Nat.zero_le _, Nat.zero_le _⟩ ?_
        refine z_if_ne h (tgt := 43) dX5_load_37 (by decide) (fun g12 => ?_) (fun g12 => ?_)
        · have hf := it_neg g12 hf
          refine z_aload_n h dX5_load_43 rfl 0 rfl ?_
          refine z_gfR h zC5 (d := 2) (c := 0) tg_0 ln_0 0 rfl ft_5_0 rf_0_0 wd_15 dX5_load_44 ?_
          refine z_gfRN h zC2 (d := 13) (c := 2) tg_2 ln_2 8 rfl ft_2_8 rf_2_8 (by decide +kernel) dX5_load_47 ?_
          refine z_iconst h (v := (2 : Int32)) dX5_load_50 ic_2 ?_
          refine z_iload_n h dX5_load_51 rfl 1 rfl ?_
          refine z_imul h dX5_load_52 ?_
          obtain ⟨g13, hf⟩ := ck_out hf
          refine z_aald h (c := 13) (d := 38 + ((2 : Int32) * x1).toNatClampNeg) tg_13 rfl ln_13 rfl g13 dX5_load_53 ?_
          refine z_iload_n h dX5_load_54 rfl 2 rfl ?_
          refine z_iload_n h dX5_load_55 rfl 3 rfl ?_
          obtain ⟨g14, hf⟩ := ck_out hf
          obtain ⟨g15, hf⟩ := ck_out hf
          refine z_iast h (eq_of_beq g14) rfl g15 dX5_load_56 ?_
          refine z_gen (fun σ16 eσ16 => ?_)
          have hf := bd_to eσ16 hf
          refine z_aload_n h dX5_load_57 rfl 0 rfl ?_
          refine z_gfR h zC5 (d := 2) (c := 0) tg_0 ln_0 0 rfl ft_5_0 rf_0_0 wd_15 dX5_load_58 ?_
          refine z_gfRN h zC2 (d := 13) (c := 2) tg_2 ln_2 8 rfl ft_2_8 rf_2_8 (by decide +kernel) dX5_load_61 ?_
          refine z_iconst h (v := (2 : Int32)) dX5_load_64 ic_2 ?_
          refine z_iload_n h dX5_load_65 rfl 1 rfl ?_
          refine z_imul h dX5_load_66 ?_
          refine z_iconst h (v := (1 : Int32)) dX5_load_67 ic_1 ?_
          refine z_iadd h dX5_load_68 ?_
          obtain ⟨g17, hf⟩ := ck_out hf
          refine z_aald h (c := 13) (d := 38 + (((2 : Int32) * x1) + (1 : Int32)).toNatClampNeg) tg_13 rfl ln_13 rfl g17 dX5_load_69 ?_
          refine z_iload_n h dX5_load_70 rfl 2 rfl ?_
          refine z_iload h dX5_load_71 4 rfl ?_
          obtain ⟨g18, hf⟩ := ck_out hf
          obtain ⟨g19, hf⟩ := ck_out hf
          refine z_iast h (eq_of_beq g18) rfl g19 dX5_load_73 ?_
          refine z_gen (fun σ20 eσ20 => ?_)
          have hf := bd_to eσ20 hf
          refine z_aload_n h dX5_load_74 rfl 0 rfl ?_
          refine z_iconst h (v := (0 : Int32)) dX5_load_75 ic_0 ?_
          refine z_pfI h zC5 (c := 0) tg_0 ln_0 8 rfl ft_5_8 wd_146 rfl (ty := .boolean) (by decide +kernel) rfl rfl dX5_load_76 ?_
          refine z_gen (fun σ21 eσ21 => ?_)
          have hf := bd_to eσ21 hf
          refine z_aload_n h dX5_load_79 rfl 0 rfl ?_
          refine z_gfR h zC5 (d := 2) (c := 0) tg_0 ln_0 0 rfl ft_5_0 rf_0_0 wd_15 dX5_load_80 ?_
          refine z_iload_n h dX5_load_83 rfl 1 rfl ?_
          obtain ⟨v22, σ23, e23, hf⟩ := obd_out hf
          refine z_cVv h (n := 1) (c_X2_loadedNodes l G e23) zC2 tg_2 ln_2 rfl rfl wd_233 wd_234 wd_235 wd_14 wd_236 (by decide +kernel) ⟨rfl, rfl⟩ rfl rfl rfl dX5_load_84 ⟨Nat.zero_le _, Nat.zero_le _⟩ ?_
          exact z_iret h (rt_I hf hq) dX5_load_87
        · have hf := it_pos g12 hf
          refine z_bipush h (v := (-2 : Int32)) dX5_load_40 bp_m2 ?_
          exact z_iret h (rt_I hf hq) dX5_load_42
  · have hf := it_pos g3 hf
    refine z_iconst h (v := (-1 : Int32)) dX5_load_8 ic_m1 ?_
    exact z_iret h (rt_I hf hq) dX5_load_9
theorem dX5_ofNode_0 : decode cX5_ofNode 0 = .ok (.aload_n 0, 1) := by decide +kernel
theorem dX5_ofNode_1 : decode cX5_ofNode 1 = .ok (.iload_n 1, 1) := by decide +kernel
theorem dX5_ofNode_2 : decode cX5_ofNode 2 = .ok (.invokevirtual 65, 3) := by decide +kernel
theorem dX5_ofNode_5 : decode cX5_ofNode 5 = .ok (.ifCond .ne 5, 3) := by decide +kernel
theorem dX5_ofNode_8 : decode cX5_ofNode 8 = .ok (.iconst (-1), 1) := by decide +kernel
theorem dX5_ofNode_9 : decode cX5_ofNode 9 = .ok (.ireturn, 1) := by decide +kernel
theorem dX5_ofNode_10 : decode cX5_ofNode 10 = .ok (.iload_n 2, 1) := by decide +kernel
theorem dX5_ofNode_11 : decode cX5_ofNode 11 = .ok (.iconst 0, 1) := by decide +kernel
theorem dX5_ofNode_12 : decode cX5_ofNode 12 = .ok (.bipush 8, 2) := by decide +kernel
theorem dX5_ofNode_14 : decode cX5_ofNode 14 = .ok (.invokestatic 46, 3) := by decide +kernel
theorem dX5_ofNode_17 : decode cX5_ofNode 17 = .ok (.ifCond .ne 6, 3) := by decide +kernel
theorem dX5_ofNode_20 : decode cX5_ofNode 20 = .ok (.bipush (-2), 2) := by decide +kernel
theorem dX5_ofNode_22 : decode cX5_ofNode 22 = .ok (.ireturn, 1) := by decide +kernel
theorem dX5_ofNode_23 : decode cX5_ofNode 23 = .ok (.iload_n 2, 1) := by decide +kernel
theorem dX5_ofNode_24 : decode cX5_ofNode 24 = .ok (.tableswitch 58 0 2 #[28, 38, 48], 28) := by decide +kernel
theorem dX5_ofNode_52 : decode cX5_ofNode 52 = .ok (.aload_n 0, 1) := by decide +kernel
theorem dX5_ofNode_53 : decode cX5_ofNode 53 = .ok (.getfield 12, 3) := by decide +kernel
theorem dX5_ofNode_56 : decode cX5_ofNode 56 = .ok (.getfield 106, 3) := by decide +kernel
theorem dX5_ofNode_59 : decode cX5_ofNode 59 = .ok (.iload_n 1, 1) := by decide +kernel
theorem dX5_ofNode_60 : decode cX5_ofNode 60 = .ok (.iaload, 1) := by decide +kernel
theorem dX5_ofNode_61 : decode cX5_ofNode 61 = .ok (.ireturn, 1) := by decide +kernel
theorem dX5_ofNode_62 : decode cX5_ofNode 62 = .ok (.aload_n 0, 1) := by decide +kernel
theorem dX5_ofNode_63 : decode cX5_ofNode 63 = .ok (.getfield 12, 3) := by decide +kernel
theorem dX5_ofNode_66 : decode cX5_ofNode 66 = .ok (.getfield 109, 3) := by decide +kernel
theorem dX5_ofNode_69 : decode cX5_ofNode 69 = .ok (.iload_n 1, 1) := by decide +kernel
theorem dX5_ofNode_70 : decode cX5_ofNode 70 = .ok (.iaload, 1) := by decide +kernel
theorem dX5_ofNode_71 : decode cX5_ofNode 71 = .ok (.ireturn, 1) := by decide +kernel
theorem dX5_ofNode_72 : decode cX5_ofNode 72 = .ok (.aload_n 0, 1) := by decide +kernel
theorem dX5_ofNode_73 : decode cX5_ofNode 73 = .ok (.getfield 12, 3) := by decide +kernel
theorem dX5_ofNode_76 : decode cX5_ofNode 76 = .ok (.getfield 69, 3) := by decide +kernel
theorem dX5_ofNode_79 : decode cX5_ofNode 79 = .ok (.iload_n 1, 1) := by decide +kernel
theorem dX5_ofNode_80 : decode cX5_ofNode 80 = .ok (.iaload, 1) := by decide +kernel
theorem dX5_ofNode_81 : decode cX5_ofNode 81 = .ok (.ireturn, 1) := by decide +kernel
theorem dX5_ofNode_82 : decode cX5_ofNode 82 = .ok (.aload_n 0, 1) := by decide +kernel
theorem dX5_ofNode_83 : decode cX5_ofNode 83 = .ok (.getfield 12, 3) := by decide +kernel
theorem dX5_ofNode_86 : decode cX5_ofNode 86 = .ok (.getfield 99, 3) := by decide +kernel
theorem dX5_ofNode_89 : decode cX5_ofNode 89 = .ok (.iload_n 2, 1) := by decide +kernel
theorem dX5_ofNode_90 : decode cX5_ofNode 90 = .ok (.iconst 3, 1) := by decide +kernel
theorem dX5_ofNode_91 : decode cX5_ofNode 91 = .ok (.isub, 1) := by decide +kernel
theorem dX5_ofNode_92 : decode cX5_ofNode 92 = .ok (.aaload, 1) := by decide +kernel
theorem dX5_ofNode_93 : decode cX5_ofNode 93 = .ok (.iload_n 1, 1) := by decide +kernel
theorem dX5_ofNode_94 : decode cX5_ofNode 94 = .ok (.iaload, 1) := by decide +kernel
theorem dX5_ofNode_95 : decode cX5_ofNode 95 = .ok (.ireturn, 1) := by decide +kernel
abbrev rm_X5_ofNode : Room := { frames := 2, cells := 0, slots := 0, locals := 59 }
noncomputable def f_X5_ofNode (N : Nat) (x1 : Int32) (x2 : Int32) (σ : ZS) : Option (Int32 × ZS) := obd (f_X5_isNode N x1 σ) fun v1 σ2 => (if v1 = 0 then some ((-1 : Int32), σ2) else obd (f_X5_within N x2 (0 : Int32) (8 : Int32) σ2) fun v4 σ5 => (if v4 = 0 then some ((-2 : Int32), σ5) else (if x2 = (0 : Int32) then ck (inb x1 7) (some (gI σ5 20 (x1.toNatClampNeg), σ5)) else (if x2 = (1 : Int32) then ck (inb x1 7) (some (gI σ5 21 (x1.toNatClampNeg), σ5)) else (if x2 = (2 : Int32) then ck (inb x1 7) (some (gI σ5 22 (x1.toNatClampNeg), σ5)) else ck (inb (x2 - (3 : Int32)) 6) (ck (tg (38 + (x2 - (3 : Int32)).toNatClampNeg) == 1) (ck (inb x1 (ln (38 + (x2 - (3 : Int32)).toNatClampNeg))) (some (gI σ5 (38 + (x2 - (3 : Int32)).toNatClampNeg) (x1.toNatClampNeg), σ5)))))))))
set_option maxHeartbeats 4000000 in
set_option maxRecDepth 100000 in
theorem c_X5_ofNode (l : Launch) (G : ZG) {N : Nat} {x1 : Int32} {x2 : Int32} {σ σ' : ZS} {r : Int32} (hf : f_X5_ofNode N x1 x2 σ = some (r, σ')) : zMet l G yX5_ofNode cX5_ofNode 3 (some .int) rm_X5_ofNode [.ref (G.1 0), .int x1, .int x2] σ (some (.int r)) σ' := by
  refine z_met (by decide +kernel) rfl (fun Y h hq => ?_)
  have h : zOk (l, rm_X5_ofNode, 3, 0, 0) Y G cX5_ofNode RX5 (some .int) := h
  rw [f_X5_ofNode] at hf
  refine z_sub (lv' := [(0, .ref (G.1 0)), (1, .int x1), (2, .int x2)]) [0, 1, 2] rfl ?_
  refine z_aload_n h dX5_ofNode_0 rfl 0 rfl ?_
  refine z_iload_n h dX5_ofNode_1 rfl 1 rfl ?_
  obtain ⟨v1, σ2, e2, hf⟩ := obd_out hf
  refine z_cVv h (n := 1) (c_X5_isNode l G e2) zC5 tg_0 ln_0 rfl rfl wd_167 wd_168 wd_169 wd_2 wd_170 (by decide +kernel) ⟨rfl, rfl⟩ rfl rfl rfl dX5_ofNode_2 ⟨Nat.zero_le _, Nat.zero_le _⟩ ?_
  refine z_if_ne h (tgt := 10) dX5_ofNode_5 (by decide) (fun g3 => ?_) (fun g3 => ?_)
  · have hf := it_neg g3 hf
    refine z_iload_n h dX5_ofNode_10 rfl 2 rfl ?_
    refine z_iconst h (v := (0 : Int32)) dX5_ofNode_11 ic_0 ?_
    refine z_bipush h (v := (8 : Int32)) dX5_ofNode_12 bp_8 ?_
    obtain ⟨v4, σ5, e5, hf⟩ := obd_out hf
    refine z_cSv h (n := 3) (c_X5_within l G e5) rfl wd_133 wd_134 wd_2 wd_135 (by decide +kernel) ⟨rfl, rfl⟩ rfl rfl rfl dX5_ofNode_14 ⟨Nat.zero_le _, Nat.zero_le _⟩ ?_
    refine z_if_ne h (tgt := 23) dX5_ofNode_17 (by decide) (fun g6 => ?_) (fun g6 => ?_)
    · have hf := it_neg g6 hf
      refine z_iload_n h dX5_ofNode_23 rfl 2 rfl ?_
      by_cases g7 : x2 = (0 : Int32)
      · have hf := it_pos g7 hf
        refine z_tin h (v := 0) (tgt := 52) dX5_ofNode_24 (by rw [g7]; rfl) (by decide) (by decide) rfl (by decide) ?_
        refine z_aload_n h dX5_ofNode_52 rfl 0 rfl ?_
        refine z_gfR h zC5 (d := 2) (c := 0) tg_0 ln_0 0 rfl ft_5_0 rf_0_0 wd_15 dX5_ofNode_53 ?_
        refine z_gfRN h zC2 (d := 20) (c := 2) tg_2 ln_2 2 rfl ft_2_2 rf_2_2 (by decide +kernel) dX5_ofNode_56 ?_
        refine z_iload_n h dX5_ofNode_59 rfl 1 rfl ?_
        obtain ⟨g8, hf⟩ := ck_out hf
        refine z_iald h (c := 20) tg_20 ln_20 g8 dX5_ofNode_60 ?_
        exact z_iret h (rt_I hf hq) dX5_ofNode_61
      have hf := it_neg g7 hf
      by_cases g9 : x2 = (1 : Int32)
      · have hf := it_pos g9 hf
        refine z_tin h (v := 1) (tgt := 62) dX5_ofNode_24 (by rw [g9]; rfl) (by decide) (by decide) rfl (by decide) ?_
        refine z_aload_n h dX5_ofNode_62 rfl 0 rfl ?_
        refine z_gfR h zC5 (d := 2) (c := 0) tg_0 ln_0 0 rfl ft_5_0 rf_0_0 wd_15 dX5_ofNode_63 ?_
        refine z_gfRN h zC2 (d := 21) (c := 2) tg_2 ln_2 3 rfl ft_2_3 rf_2_3 (by decide +kernel) dX5_ofNode_66 ?_
        refine z_iload_n h dX5_ofNode_69 rfl 1 rfl ?_
        obtain ⟨g10, hf⟩ := ck_out hf
        refine z_iald h (c := 21) tg_21 ln_21 g10 dX5_ofNode_70 ?_
        exact z_iret h (rt_I hf hq) dX5_ofNode_71
      have hf := it_neg g9 hf
      by_cases g11 : x2 = (2 : Int32)
      · have hf := it_pos g11 hf
        refine z_tin h (v := 2) (tgt := 72) dX5_ofNode_24 (by rw [g11]; rfl) (by decide) (by decide) rfl (by decide) ?_
        refine z_aload_n h dX5_ofNode_72 rfl 0 rfl ?_
        refine z_gfR h zC5 (d := 2) (c := 0) tg_0 ln_0 0 rfl ft_5_0 rf_0_0 wd_15 dX5_ofNode_73 ?_
        refine z_gfRN h zC2 (d := 22) (c := 2) tg_2 ln_2 4 rfl ft_2_4 rf_2_4 (by decide +kernel) dX5_ofNode_76 ?_
        refine z_iload_n h dX5_ofNode_79 rfl 1 rfl ?_
        obtain ⟨g12, hf⟩ := ck_out hf
        refine z_iald h (c := 22) tg_22 ln_22 g12 dX5_ofNode_80 ?_
        exact z_iret h (rt_I hf hq) dX5_ofNode_81
      have hf := it_neg g11 hf
      refine z_tout h (tgt := 82) dX5_ofNode_24 (by have := lv_neT (a := 0) g7 rfl; have := lv_neT (a := 1) g9 rfl; have := lv_neT (a := 2) g11 rfl; omega) (by decide) ?_
      refine z_aload_n h dX5_ofNode_82 rfl 0 rfl ?_
      refine z_gfR h zC5 (d := 2) (c := 0) tg_0 ln_0 0 rfl ft_5_0 rf_0_0 wd_15 dX5_ofNode_83 ?_
      refine z_gfRN h zC2 (d := 13) (c := 2) tg_2 ln_2 8 rfl ft_2_8 rf_2_8 (by decide +kernel) dX5_ofNode_86 ?_
      refine z_iload_n h dX5_ofNode_89 rfl 2 rfl ?_
      refine z_iconst h (v := (3 : Int32)) dX5_ofNode_90 ic_3 ?_
      refine z_isub h dX5_ofNode_91 ?_
      obtain ⟨g13, hf⟩ := ck_out hf
      refine z_aald h (c := 13) (d := 38 + (x2 - (3 : Int32)).toNatClampNeg) tg_13 rfl ln_13 rfl g13 dX5_ofNode_92 ?_
      refine z_iload_n h dX5_ofNode_93 rfl 1 rfl ?_
      obtain ⟨g14, hf⟩ := ck_out hf
      obtain ⟨g15, hf⟩ := ck_out hf
      refine z_iald h (eq_of_beq g14) rfl g15 dX5_ofNode_94 ?_
      exact z_iret h (rt_I hf hq) dX5_ofNode_95
    · have hf := it_pos g6 hf
      refine z_bipush h (v := (-2 : Int32)) dX5_ofNode_20 bp_m2 ?_
      exact z_iret h (rt_I hf hq) dX5_ofNode_22
  · have hf := it_pos g3 hf
    refine z_iconst h (v := (-1 : Int32)) dX5_ofNode_8 ic_m1 ?_
    exact z_iret h (rt_I hf hq) dX5_ofNode_9
theorem dX5_ofBar_0 : decode cX5_ofBar 0 = .ok (.aload_n 0, 1) := by decide +kernel
theorem dX5_ofBar_1 : decode cX5_ofBar 1 = .ok (.iload_n 1, 1) := by decide +kernel
theorem dX5_ofBar_2 : decode cX5_ofBar 2 = .ok (.invokevirtual 85, 3) := by decide +kernel
theorem dX5_ofBar_5 : decode cX5_ofBar 5 = .ok (.ifCond .ne 5, 3) := by decide +kernel
theorem dX5_ofBar_8 : decode cX5_ofBar 8 = .ok (.iconst (-1), 1) := by decide +kernel
theorem dX5_ofBar_9 : decode cX5_ofBar 9 = .ok (.ireturn, 1) := by decide +kernel
theorem dX5_ofBar_10 : decode cX5_ofBar 10 = .ok (.iload_n 2, 1) := by decide +kernel
theorem dX5_ofBar_11 : decode cX5_ofBar 11 = .ok (.tableswitch 89 0 4 #[33, 43, 53, 62, 79], 33) := by decide +kernel
theorem dX5_ofBar_44 : decode cX5_ofBar 44 = .ok (.aload_n 0, 1) := by decide +kernel
theorem dX5_ofBar_45 : decode cX5_ofBar 45 = .ok (.getfield 12, 3) := by decide +kernel
theorem dX5_ofBar_48 : decode cX5_ofBar 48 = .ok (.getfield 112, 3) := by decide +kernel
theorem dX5_ofBar_51 : decode cX5_ofBar 51 = .ok (.iload_n 1, 1) := by decide +kernel
theorem dX5_ofBar_52 : decode cX5_ofBar 52 = .ok (.iaload, 1) := by decide +kernel
theorem dX5_ofBar_53 : decode cX5_ofBar 53 = .ok (.ireturn, 1) := by decide +kernel
theorem dX5_ofBar_54 : decode cX5_ofBar 54 = .ok (.aload_n 0, 1) := by decide +kernel
theorem dX5_ofBar_55 : decode cX5_ofBar 55 = .ok (.getfield 12, 3) := by decide +kernel
theorem dX5_ofBar_58 : decode cX5_ofBar 58 = .ok (.getfield 115, 3) := by decide +kernel
theorem dX5_ofBar_61 : decode cX5_ofBar 61 = .ok (.iload_n 1, 1) := by decide +kernel
theorem dX5_ofBar_62 : decode cX5_ofBar 62 = .ok (.iaload, 1) := by decide +kernel
theorem dX5_ofBar_63 : decode cX5_ofBar 63 = .ok (.ireturn, 1) := by decide +kernel
theorem dX5_ofBar_64 : decode cX5_ofBar 64 = .ok (.aload_n 0, 1) := by decide +kernel
theorem dX5_ofBar_65 : decode cX5_ofBar 65 = .ok (.getfield 12, 3) := by decide +kernel
theorem dX5_ofBar_68 : decode cX5_ofBar 68 = .ok (.iload_n 1, 1) := by decide +kernel
theorem dX5_ofBar_69 : decode cX5_ofBar 69 = .ok (.invokevirtual 118, 3) := by decide +kernel
theorem dX5_ofBar_72 : decode cX5_ofBar 72 = .ok (.ireturn, 1) := by decide +kernel
theorem dX5_ofBar_73 : decode cX5_ofBar 73 = .ok (.aload_n 0, 1) := by decide +kernel
theorem dX5_ofBar_74 : decode cX5_ofBar 74 = .ok (.getfield 12, 3) := by decide +kernel
theorem dX5_ofBar_77 : decode cX5_ofBar 77 = .ok (.iload_n 1, 1) := by decide +kernel
theorem dX5_ofBar_78 : decode cX5_ofBar 78 = .ok (.invokevirtual 121, 3) := by decide +kernel
theorem dX5_ofBar_81 : decode cX5_ofBar 81 = .ok (.ifCond .eq 7, 3) := by decide +kernel
theorem dX5_ofBar_84 : decode cX5_ofBar 84 = .ok (.iconst 1, 1) := by decide +kernel
theorem dX5_ofBar_85 : decode cX5_ofBar 85 = .ok (.goto 4, 3) := by decide +kernel
theorem dX5_ofBar_88 : decode cX5_ofBar 88 = .ok (.iconst 0, 1) := by decide +kernel
theorem dX5_ofBar_89 : decode cX5_ofBar 89 = .ok (.ireturn, 1) := by decide +kernel
theorem dX5_ofBar_90 : decode cX5_ofBar 90 = .ok (.aload_n 0, 1) := by decide +kernel
theorem dX5_ofBar_91 : decode cX5_ofBar 91 = .ok (.getfield 12, 3) := by decide +kernel
theorem dX5_ofBar_94 : decode cX5_ofBar 94 = .ok (.getfield 92, 3) := by decide +kernel
theorem dX5_ofBar_97 : decode cX5_ofBar 97 = .ok (.iload_n 1, 1) := by decide +kernel
theorem dX5_ofBar_98 : decode cX5_ofBar 98 = .ok (.iaload, 1) := by decide +kernel
theorem dX5_ofBar_99 : decode cX5_ofBar 99 = .ok (.ireturn, 1) := by decide +kernel
theorem dX5_ofBar_100 : decode cX5_ofBar 100 = .ok (.bipush (-2), 2) := by decide +kernel
theorem dX5_ofBar_102 : decode cX5_ofBar 102 = .ok (.ireturn, 1) := by decide +kernel
abbrev rm_X5_ofBar : Room := { frames := 2, cells := 0, slots := 0, locals := 59 }
noncomputable def f_X5_ofBar (N : Nat) (x1 : Int32) (x2 : Int32) (σ : ZS) : Option (Int32 × ZS) := obd (f_X5_isBar N x1 σ) fun v1 σ2 => (if v1 = 0 then some ((-1 : Int32), σ2) else (if x2 = (0 : Int32) then ck (inb x1 6) (some (gI σ2 23 (x1.toNatClampNeg), σ2)) else (if x2 = (1 : Int32) then ck (inb x1 6) (some (gI σ2 24 (x1.toNatClampNeg), σ2)) else (if x2 = (2 : Int32) then obd (f_X2_length N x1 σ2) fun v9 σ10 => some (v9, σ10) else (if x2 = (3 : Int32) then obd (f_X2_isVertical N x1 σ2) fun v12 σ13 => (if v12 = 0 then some ((0 : Int32), σ13) else some ((1 : Int32), σ13)) else (if x2 = (4 : Int32) then ck (inb x1 6) (some (gI σ2 25 (x1.toNatClampNeg), σ2)) else some ((-2 : Int32), σ2)))))))
set_option maxHeartbeats 4000000 in
set_option maxRecDepth 100000 in
theorem c_X5_ofBar (l : Launch) (G : ZG) {N : Nat} {x1 : Int32} {x2 : Int32} {σ σ' : ZS} {r : Int32} (hf : f_X5_ofBar N x1 x2 σ = some (r, σ')) : zMet l G yX5_ofBar cX5_ofBar 3 (some .int) rm_X5_ofBar [.ref (G.1 0), .int x1, .int x2] σ (some (.int r)) σ' := by
  refine z_met (by decide +kernel) rfl (fun Y h hq => ?_)
  have h : zOk (l, rm_X5_ofBar, 3, 0, 0) Y G cX5_ofBar RX5 (some .int) := h
  rw [f_X5_ofBar] at hf
  refine z_sub (lv' := [(0, .ref (G.1 0)), (1, .int x1), (2, .int x2)]) [0, 1, 2] rfl ?_
  refine z_aload_n h dX5_ofBar_0 rfl 0 rfl ?_
  refine z_iload_n h dX5_ofBar_1 rfl 1 rfl ?_
  obtain ⟨v1, σ2, e2, hf⟩ := obd_out hf
  refine z_cVv h (n := 1) (c_X5_isBar l G e2) zC5 tg_0 ln_0 rfl rfl wd_205 wd_206 wd_207 wd_2 wd_208 (by decide +kernel) ⟨rfl, rfl⟩ rfl rfl rfl dX5_ofBar_2 ⟨Nat.zero_le _, Nat.zero_le _⟩ ?_
  refine z_if_ne h (tgt := 10) dX5_ofBar_5 (by decide) (fun g3 => ?_) (fun g3 => ?_)
  · have hf := it_neg g3 hf
    refine z_iload_n h dX5_ofBar_10 rfl 2 rfl ?_
    by_cases g4 : x2 = (0 : Int32)
    · have hf := it_pos g4 hf
      refine z_tin h (v := 0) (tgt := 44) dX5_ofBar_11 (by rw [g4]; rfl) (by decide) (by decide) rfl (by decide) ?_
      refine z_aload_n h dX5_ofBar_44 rfl 0 rfl ?_
      refine z_gfR h zC5 (d := 2) (c := 0) tg_0 ln_0 0 rfl ft_5_0 rf_0_0 wd_15 dX5_ofBar_45 ?_
      refine z_gfRN h zC2 (d := 23) (c := 2) tg_2 ln_2 5 rfl ft_2_5 rf_2_5 (by decide +kernel) dX5_ofBar_48 ?_
      refine z_iload_n h dX5_ofBar_51 rfl 1 rfl ?_
      obtain ⟨g5, hf⟩ := ck_out hf
      refine z_iald h (c := 23) tg_23 ln_23 g5 dX5_ofBar_52 ?_
      exact z_iret h (rt_I hf hq) dX5_ofBar_53
    have hf := it_neg g4 hf
    by_cases g6 : x2 = (1 : Int32)
    · have hf := it_pos g6 hf
      refine z_tin h (v := 1) (tgt := 54) dX5_ofBar_11 (by rw [g6]; rfl) (by decide) (by decide) rfl (by decide) ?_
      refine z_aload_n h dX5_ofBar_54 rfl 0 rfl ?_
      refine z_gfR h zC5 (d := 2) (c := 0) tg_0 ln_0 0 rfl ft_5_0 rf_0_0 wd_15 dX5_ofBar_55 ?_
      refine z_gfRN h zC2 (d := 24) (c := 2) tg_2 ln_2 6 rfl ft_2_6 rf_2_6 (by decide +kernel) dX5_ofBar_58 ?_
      refine z_iload_n h dX5_ofBar_61 rfl 1 rfl ?_
      obtain ⟨g7, hf⟩ := ck_out hf
      refine z_iald h (c := 24) tg_24 ln_24 g7 dX5_ofBar_62 ?_
      exact z_iret h (rt_I hf hq) dX5_ofBar_63
    have hf := it_neg g6 hf
    by_cases g8 : x2 = (2 : Int32)
    · have hf := it_pos g8 hf
      refine z_tin h (v := 2) (tgt := 64) dX5_ofBar_11 (by rw [g8]; rfl) (by decide) (by decide) rfl (by decide) ?_
      refine z_aload_n h dX5_ofBar_64 rfl 0 rfl ?_
      refine z_gfR h zC5 (d := 2) (c := 0) tg_0 ln_0 0 rfl ft_5_0 rf_0_0 wd_15 dX5_ofBar_65 ?_
      refine z_iload_n h dX5_ofBar_68 rfl 1 rfl ?_
      obtain ⟨v9, σ10, e10, hf⟩ := obd_out hf
      refine z_cVv h (n := 1) (c_X2_length l G e10) zC2 tg_2 ln_2 rfl rfl wd_253 wd_254 wd_255 wd_14 wd_256 (by decide +kernel) ⟨rfl, rfl⟩ rfl rfl rfl dX5_ofBar_69 ⟨Nat.zero_le _, Nat.zero_le _⟩ ?_
      exact z_iret h (rt_I hf hq) dX5_ofBar_72
    have hf := it_neg g8 hf
    by_cases g11 : x2 = (3 : Int32)
    · have hf := it_pos g11 hf
      refine z_tin h (v := 3) (tgt := 73) dX5_ofBar_11 (by rw [g11]; rfl) (by decide) (by decide) rfl (by decide) ?_
      refine z_aload_n h dX5_ofBar_73 rfl 0 rfl ?_
      refine z_gfR h zC5 (d := 2) (c := 0) tg_0 ln_0 0 rfl ft_5_0 rf_0_0 wd_15 dX5_ofBar_74 ?_
      refine z_iload_n h dX5_ofBar_77 rfl 1 rfl ?_
      obtain ⟨v12, σ13, e13, hf⟩ := obd_out hf
      refine z_cVv h (n := 1) (c_X2_isVertical l G e13) zC2 tg_2 ln_2 rfl rfl wd_257 wd_258 wd_259 wd_14 wd_260 (by decide +kernel) ⟨rfl, rfl⟩ rfl rfl rfl dX5_ofBar_78 ⟨Nat.zero_le _, Nat.zero_le _⟩ ?_
      refine z_if_eq h (tgt := 88) dX5_ofBar_81 (by decide) (fun g14 => ?_) (fun g14 => ?_)
      · have hf := it_pos g14 hf
        refine z_iconst h (v := (0 : Int32)) dX5_ofBar_88 ic_0 ?_
        exact z_iret h (rt_I hf hq) dX5_ofBar_89
      · have hf := it_neg g14 hf
        refine z_iconst h (v := (1 : Int32)) dX5_ofBar_84 ic_1 ?_
        refine z_goto h (tgt := 89) dX5_ofBar_85 (by decide) ?_
        exact z_iret h (rt_I hf hq) dX5_ofBar_89
    have hf := it_neg g11 hf
    by_cases g15 : x2 = (4 : Int32)
    · have hf := it_pos g15 hf
      refine z_tin h (v := 4) (tgt := 90) dX5_ofBar_11 (by rw [g15]; rfl) (by decide) (by decide) rfl (by decide) ?_
      refine z_aload_n h dX5_ofBar_90 rfl 0 rfl ?_
      refine z_gfR h zC5 (d := 2) (c := 0) tg_0 ln_0 0 rfl ft_5_0 rf_0_0 wd_15 dX5_ofBar_91 ?_
      refine z_gfRN h zC2 (d := 25) (c := 2) tg_2 ln_2 7 rfl ft_2_7 rf_2_7 (by decide +kernel) dX5_ofBar_94 ?_
      refine z_iload_n h dX5_ofBar_97 rfl 1 rfl ?_
      obtain ⟨g16, hf⟩ := ck_out hf
      refine z_iald h (c := 25) tg_25 ln_25 g16 dX5_ofBar_98 ?_
      exact z_iret h (rt_I hf hq) dX5_ofBar_99
    have hf := it_neg g15 hf
    refine z_tout h (tgt := 100) dX5_ofBar_11 (by have := lv_neT (a := 0) g4 rfl; have := lv_neT (a := 1) g6 rfl; have := lv_neT (a := 2) g8 rfl; have := lv_neT (a := 3) g11 rfl; have := lv_neT (a := 4) g15 rfl; omega) (by decide) ?_
    refine z_bipush h (v := (-2 : Int32)) dX5_ofBar_100 bp_m2 ?_
    exact z_iret h (rt_I hf hq) dX5_ofBar_102
  · have hf := it_pos g3 hf
    refine z_iconst h (v := (-1 : Int32)) dX5_ofBar_8 ic_m1 ?_
    exact z_iret h (rt_I hf hq) dX5_ofBar_9
theorem dX5_refresh_0 : decode cX5_refresh 0 = .ok (.aload_n 0, 1) := by decide +kernel
theorem dX5_refresh_1 : decode cX5_refresh 1 = .ok (.getfield 238, 3) := by decide +kernel
theorem dX5_refresh_4 : decode cX5_refresh 4 = .ok (.ifCond .ne 26, 3) := by decide +kernel
theorem dX5_refresh_7 : decode cX5_refresh 7 = .ok (.aload_n 0, 1) := by decide +kernel
theorem dX5_refresh_8 : decode cX5_refresh 8 = .ok (.getfield 38, 3) := by decide +kernel
theorem dX5_refresh_11 : decode cX5_refresh 11 = .ok (.aload_n 0, 1) := by decide +kernel
theorem dX5_refresh_12 : decode cX5_refresh 12 = .ok (.getfield 12, 3) := by decide +kernel
theorem dX5_refresh_15 : decode cX5_refresh 15 = .ok (.invokevirtual 241, 3) := by decide +kernel
theorem dX5_refresh_18 : decode cX5_refresh 18 = .ok (.aload_n 0, 1) := by decide +kernel
theorem dX5_refresh_19 : decode cX5_refresh 19 = .ok (.getfield 31, 3) := by decide +kernel
theorem dX5_refresh_22 : decode cX5_refresh 22 = .ok (.invokevirtual 244, 3) := by decide +kernel
theorem dX5_refresh_25 : decode cX5_refresh 25 = .ok (.aload_n 0, 1) := by decide +kernel
theorem dX5_refresh_26 : decode cX5_refresh 26 = .ok (.iconst 1, 1) := by decide +kernel
theorem dX5_refresh_27 : decode cX5_refresh 27 = .ok (.putfield 238, 3) := by decide +kernel
theorem dX5_refresh_30 : decode cX5_refresh 30 = .ok (.aload_n 0, 1) := by decide +kernel
theorem dX5_refresh_31 : decode cX5_refresh 31 = .ok (.getfield 95, 3) := by decide +kernel
theorem dX5_refresh_34 : decode cX5_refresh 34 = .ok (.ifCond .ne 19, 3) := by decide +kernel
theorem dX5_refresh_37 : decode cX5_refresh 37 = .ok (.aload_n 0, 1) := by decide +kernel
theorem dX5_refresh_38 : decode cX5_refresh 38 = .ok (.getfield 23, 3) := by decide +kernel
theorem dX5_refresh_41 : decode cX5_refresh 41 = .ok (.aload_n 0, 1) := by decide +kernel
theorem dX5_refresh_42 : decode cX5_refresh 42 = .ok (.getfield 12, 3) := by decide +kernel
theorem dX5_refresh_45 : decode cX5_refresh 45 = .ok (.invokevirtual 247, 3) := by decide +kernel
theorem dX5_refresh_48 : decode cX5_refresh 48 = .ok (.aload_n 0, 1) := by decide +kernel
theorem dX5_refresh_49 : decode cX5_refresh 49 = .ok (.iconst 1, 1) := by decide +kernel
theorem dX5_refresh_50 : decode cX5_refresh 50 = .ok (.putfield 95, 3) := by decide +kernel
theorem dX5_refresh_53 : decode cX5_refresh 53 = .ok (.return_, 1) := by decide +kernel
abbrev rm_X5_refresh : Room := { frames := 26, cells := 0, slots := 0, locals := 743 }
noncomputable def f_X5_refresh_b30 (N : Nat) (σ : ZS) : Option (Unit × ZS) := (if (gI σ 0 8) = 0 then obd (f_X0_weigh N σ) fun _ σ4 => bd (sI σ4 0 8 (1 : Int32)) fun σ5 => some ((), σ5) else some ((), σ))
noncomputable def f_X5_refresh (N : Nat) (σ : ZS) : Option (Unit × ZS) := (if (gI σ 0 7) = 0 then obd (f_X4_span N σ) fun _ σ7 => obd (f_X3_find N σ7) fun _ σ9 => bd (sI σ9 0 7 (1 : Int32)) fun σ10 => f_X5_refresh_b30 N σ10 else f_X5_refresh_b30 N σ)
set_option maxHeartbeats 4000000 in
set_option maxRecDepth 100000 in
theorem k_X5_refresh_b30 {l : Launch} {Y : ZY} {G : ZG} {σ' : ZS} (h : zOk (l, rm_X5_refresh, 1, 0, 0) Y G cX5_refresh RX5 none) (hq : zRet (l, rm_X5_refresh, 1, 0, 0) Y G none σ') (N : Nat) (σ : ZS) (hf : f_X5_refresh_b30 N σ = some ((), σ')) : Z (l, rm_X5_refresh, 1, 0, 0) Y G σ [(0, .ref (G.1 0))] [] 30 := by
  rw [f_X5_refresh_b30] at hf
  refine z_aload_n h dX5_refresh_30 rfl 0 rfl ?_
  refine z_gfI h zC5 (c := 0) tg_0 ln_0 8 rfl ft_5_8 wd_146 dX5_refresh_31 ?_
  refine z_if_ne h (tgt := 53) dX5_refresh_34 (by decide) (fun g2 => ?_) (fun g2 => ?_)
  · have hf := it_neg g2 hf
    exact z_vret h (rt_V hf hq) dX5_refresh_53
  · have hf := it_pos g2 hf
    refine z_aload_n h dX5_refresh_37 rfl 0 rfl ?_
    refine z_gfR h zC5 (d := 7) (c := 0) tg_0 ln_0 4 rfl ft_5_4 rf_0_4 wd_20 dX5_refresh_38 ?_
    refine z_aload_n h dX5_refresh_41 rfl 0 rfl ?_
    refine z_gfR h zC5 (d := 2) (c := 0) tg_0 ln_0 0 rfl ft_5_0 rf_0_0 wd_15 dX5_refresh_42 ?_
    obtain ⟨v3, σ4, e4, hf⟩ := obd_out hf
    refine z_cV0 h (n := 1) (c_X0_weigh l G e4) zC0 tg_7 ln_7 rfl rfl wd_387 wd_388 wd_389 wd_19 wd_390 (by decide +kernel) ⟨rfl, rfl⟩ rfl rfl rfl dX5_refresh_45 ⟨Nat.zero_le _, Nat.zero_le _⟩ ?_
    refine z_aload_n h dX5_refresh_48 rfl 0 rfl ?_
    refine z_iconst h (v := (1 : Int32)) dX5_refresh_49 ic_1 ?_
    refine z_pfI h zC5 (c := 0) tg_0 ln_0 8 rfl ft_5_8 wd_146 rfl (ty := .boolean) (by decide +kernel) rfl rfl dX5_refresh_50 ?_
    refine z_gen (fun σ5 eσ5 => ?_)
    have hf := bd_to eσ5 hf
    exact z_vret h (rt_V hf hq) dX5_refresh_53
set_option maxHeartbeats 4000000 in
set_option maxRecDepth 100000 in
theorem c_X5_refresh (l : Launch) (G : ZG) {N : Nat} {σ σ' : ZS} {r : Unit} (hf : f_X5_refresh N σ = some (r, σ')) : zMet l G yX5_refresh cX5_refresh 1 none rm_X5_refresh [.ref (G.1 0)] σ none σ' := by
  refine z_met (by decide +kernel) rfl (fun Y h hq => ?_)
  have h : zOk (l, rm_X5_refresh, 1, 0, 0) Y G cX5_refresh RX5 none := h
  rw [f_X5_refresh] at hf
  refine z_sub (lv' := [(0, .ref (G.1 0))]) [0] rfl ?_
  refine z_aload_n h dX5_refresh_0 rfl 0 rfl ?_
  refine z_gfI h zC5 (c := 0) tg_0 ln_0 7 rfl ft_5_7 wd_145 dX5_refresh_1 ?_
  refine z_if_ne h (tgt := 30) dX5_refresh_4 (by decide) (fun g1 => ?_) (fun g1 => ?_)
  · have hf := it_neg g1 hf
    exact z_sub [0] rfl (k_X5_refresh_b30 h hq N _ hf)
  · have hf := it_pos g1 hf
    refine z_aload_n h dX5_refresh_7 rfl 0 rfl ?_
    refine z_gfR h zC5 (d := 5) (c := 0) tg_0 ln_0 2 rfl ft_5_2 rf_0_2 wd_22 dX5_refresh_8 ?_
    refine z_aload_n h dX5_refresh_11 rfl 0 rfl ?_
    refine z_gfR h zC5 (d := 2) (c := 0) tg_0 ln_0 0 rfl ft_5_0 rf_0_0 wd_15 dX5_refresh_12 ?_
    obtain ⟨v6, σ7, e7, hf⟩ := obd_out hf
    refine z_cV0 h (n := 1) (c_X4_span l G e7) zC4 tg_5 ln_5 rfl rfl wd_282 wd_283 wd_284 wd_64 wd_285 (by decide +kernel) ⟨rfl, rfl⟩ rfl rfl rfl dX5_refresh_15 ⟨Nat.zero_le _, Nat.zero_le _⟩ ?_
    refine z_aload_n h dX5_refresh_18 rfl 0 rfl ?_
    refine z_gfR h zC5 (d := 6) (c := 0) tg_0 ln_0 3 rfl ft_5_3 rf_0_3 wd_21 dX5_refresh_19 ?_
    obtain ⟨v8, σ9, e9, hf⟩ := obd_out hf
    refine z_cV0 h (n := 0) (c_X3_find l G e9) zC3 tg_6 ln_6 rfl rfl wd_358 wd_359 wd_360 wd_46 wd_361 (by decide +kernel) ⟨rfl, rfl⟩ rfl rfl rfl dX5_refresh_22 ⟨Nat.zero_le _, Nat.zero_le _⟩ ?_
    refine z_aload_n h dX5_refresh_25 rfl 0 rfl ?_
    refine z_iconst h (v := (1 : Int32)) dX5_refresh_26 ic_1 ?_
    refine z_pfI h zC5 (c := 0) tg_0 ln_0 7 rfl ft_5_7 wd_145 rfl (ty := .boolean) (by decide +kernel) rfl rfl dX5_refresh_27 ?_
    refine z_gen (fun σ10 eσ10 => ?_)
    have hf := bd_to eσ10 hf
    exact z_sub [0] rfl (k_X5_refresh_b30 h hq N _ hf)
theorem dX5_isLoose_0 : decode cX5_isLoose 0 = .ok (.aload_n 0, 1) := by decide +kernel
theorem dX5_isLoose_1 : decode cX5_isLoose 1 = .ok (.getfield 38, 3) := by decide +kernel
theorem dX5_isLoose_4 : decode cX5_isLoose 4 = .ok (.invokevirtual 250, 3) := by decide +kernel
theorem dX5_isLoose_7 : decode cX5_isLoose 7 = .ok (.ifCond .le 7, 3) := by decide +kernel
theorem dX5_isLoose_10 : decode cX5_isLoose 10 = .ok (.iconst 1, 1) := by decide +kernel
theorem dX5_isLoose_11 : decode cX5_isLoose 11 = .ok (.goto 4, 3) := by decide +kernel
theorem dX5_isLoose_14 : decode cX5_isLoose 14 = .ok (.iconst 0, 1) := by decide +kernel
theorem dX5_isLoose_15 : decode cX5_isLoose 15 = .ok (.ireturn, 1) := by decide +kernel
abbrev rm_X5_isLoose : Room := { frames := 1, cells := 0, slots := 0, locals := 28 }
noncomputable def f_X5_isLoose (N : Nat) (σ : ZS) : Option (Int32 × ZS) := obd (f_X4_looseness N σ) fun v1 σ2 => (if v1 ≤ 0 then some ((0 : Int32), σ2) else some ((1 : Int32), σ2))
set_option maxHeartbeats 4000000 in
set_option maxRecDepth 100000 in
theorem c_X5_isLoose (l : Launch) (G : ZG) {N : Nat} {σ σ' : ZS} {r : Int32} (hf : f_X5_isLoose N σ = some (r, σ')) : zMet l G yX5_isLoose cX5_isLoose 1 (some .boolean) rm_X5_isLoose [.ref (G.1 0)] σ (some (.int r)) σ' := by
  refine z_met (by decide +kernel) rfl (fun Y h hq => ?_)
  have h : zOk (l, rm_X5_isLoose, 1, 0, 0) Y G cX5_isLoose RX5 (some .boolean) := h
  rw [f_X5_isLoose] at hf
  refine z_sub (lv' := [(0, .ref (G.1 0))]) [0] rfl ?_
  refine z_aload_n h dX5_isLoose_0 rfl 0 rfl ?_
  refine z_gfR h zC5 (d := 5) (c := 0) tg_0 ln_0 2 rfl ft_5_2 rf_0_2 wd_22 dX5_isLoose_1 ?_
  obtain ⟨v1, σ2, e2, hf⟩ := obd_out hf
  refine z_cVv h (n := 0) (c_X4_looseness l G e2) zC4 tg_5 ln_5 rfl rfl wd_409 wd_364 wd_365 wd_64 wd_366 (by decide +kernel) ⟨rfl, rfl⟩ rfl rfl rfl dX5_isLoose_4 ⟨Nat.zero_le _, Nat.zero_le _⟩ ?_
  refine z_if_le h (tgt := 14) dX5_isLoose_7 (by decide) (fun g3 => ?_) (fun g3 => ?_)
  · have hf := it_pos g3 hf
    refine z_iconst h (v := (0 : Int32)) dX5_isLoose_14 ic_0 ?_
    exact z_zret h rfl (rt_I hf hq) dX5_isLoose_15
  · have hf := it_neg g3 hf
    refine z_iconst h (v := (1 : Int32)) dX5_isLoose_10 ic_1 ?_
    refine z_goto h (tgt := 15) dX5_isLoose_11 (by decide) ?_
    exact z_zret h rfl (rt_I hf hq) dX5_isLoose_15
theorem dX5_selfStressCount_0 : decode cX5_selfStressCount 0 = .ok (.iconst 3, 1) := by decide +kernel
theorem dX5_selfStressCount_1 : decode cX5_selfStressCount 1 = .ok (.aload_n 0, 1) := by decide +kernel
theorem dX5_selfStressCount_2 : decode cX5_selfStressCount 2 = .ok (.getfield 12, 3) := by decide +kernel
theorem dX5_selfStressCount_5 : decode cX5_selfStressCount 5 = .ok (.getfield 79, 3) := by decide +kernel
theorem dX5_selfStressCount_8 : decode cX5_selfStressCount 8 = .ok (.imul, 1) := by decide +kernel
theorem dX5_selfStressCount_9 : decode cX5_selfStressCount 9 = .ok (.aload_n 0, 1) := by decide +kernel
theorem dX5_selfStressCount_10 : decode cX5_selfStressCount 10 = .ok (.getfield 12, 3) := by decide +kernel
theorem dX5_selfStressCount_13 : decode cX5_selfStressCount 13 = .ok (.invokevirtual 253, 3) := by decide +kernel
theorem dX5_selfStressCount_16 : decode cX5_selfStressCount 16 = .ok (.aload_n 0, 1) := by decide +kernel
theorem dX5_selfStressCount_17 : decode cX5_selfStressCount 17 = .ok (.getfield 38, 3) := by decide +kernel
theorem dX5_selfStressCount_20 : decode cX5_selfStressCount 20 = .ok (.invokevirtual 250, 3) := by decide +kernel
theorem dX5_selfStressCount_23 : decode cX5_selfStressCount 23 = .ok (.isub, 1) := by decide +kernel
theorem dX5_selfStressCount_24 : decode cX5_selfStressCount 24 = .ok (.isub, 1) := by decide +kernel
theorem dX5_selfStressCount_25 : decode cX5_selfStressCount 25 = .ok (.ireturn, 1) := by decide +kernel
abbrev rm_X5_selfStressCount : Room := { frames := 2, cells := 0, slots := 0, locals := 60 }
noncomputable def f_X5_selfStressCount (N : Nat) (σ : ZS) : Option (Int32 × ZS) := obd (f_X2_freedoms N σ) fun v1 σ2 => obd (f_X4_looseness N σ2) fun v3 σ4 => some (((3 : Int32) * (gI σ 2 1)) - (v1 - v3), σ4)
set_option maxHeartbeats 4000000 in
set_option maxRecDepth 100000 in
theorem c_X5_selfStressCount (l : Launch) (G : ZG) {N : Nat} {σ σ' : ZS} {r : Int32} (hf : f_X5_selfStressCount N σ = some (r, σ')) : zMet l G yX5_selfStressCount cX5_selfStressCount 1 (some .int) rm_X5_selfStressCount [.ref (G.1 0)] σ (some (.int r)) σ' := by
  refine z_met (by decide +kernel) rfl (fun Y h hq => ?_)
  have h : zOk (l, rm_X5_selfStressCount, 1, 0, 0) Y G cX5_selfStressCount RX5 (some .int) := h
  rw [f_X5_selfStressCount] at hf
  refine z_sub (lv' := [(0, .ref (G.1 0))]) [0] rfl ?_
  refine z_iconst h (v := (3 : Int32)) dX5_selfStressCount_0 ic_3 ?_
  refine z_aload_n h dX5_selfStressCount_1 rfl 0 rfl ?_
  refine z_gfR h zC5 (d := 2) (c := 0) tg_0 ln_0 0 rfl ft_5_0 rf_0_0 wd_15 dX5_selfStressCount_2 ?_
  refine z_gfIN h zC2 (c := 2) tg_2 ln_2 1 rfl ft_2_1 (by decide +kernel) dX5_selfStressCount_5 ?_
  refine z_imul h dX5_selfStressCount_8 ?_
  refine z_aload_n h dX5_selfStressCount_9 rfl 0 rfl ?_
  refine z_gfR h zC5 (d := 2) (c := 0) tg_0 ln_0 0 rfl ft_5_0 rf_0_0 wd_15 dX5_selfStressCount_10 ?_
  obtain ⟨v1, σ2, e2, hf⟩ := obd_out hf
  refine z_cVv h (n := 0) (c_X2_freedoms l G e2) zC2 tg_2 ln_2 rfl rfl wd_414 wd_415 wd_416 wd_14 wd_417 (by decide +kernel) ⟨rfl, rfl⟩ rfl rfl rfl dX5_selfStressCount_13 ⟨Nat.zero_le _, Nat.zero_le _⟩ ?_
  refine z_aload_n h dX5_selfStressCount_16 rfl 0 rfl ?_
  refine z_gfR h zC5 (d := 5) (c := 0) tg_0 ln_0 2 rfl ft_5_2 rf_0_2 wd_22 dX5_selfStressCount_17 ?_
  obtain ⟨v3, σ4, e4, hf⟩ := obd_out hf
  refine z_cVv h (n := 0) (c_X4_looseness l G e4) zC4 tg_5 ln_5 rfl rfl wd_409 wd_364 wd_365 wd_64 wd_366 (by decide +kernel) ⟨rfl, rfl⟩ rfl rfl rfl dX5_selfStressCount_20 ⟨Nat.zero_le _, Nat.zero_le _⟩ ?_
  refine z_isub h dX5_selfStressCount_23 ?_
  refine z_isub h dX5_selfStressCount_24 ?_
  exact z_iret h (rt_I hf hq) dX5_selfStressCount_25
theorem dX5_count_0 : decode cX5_count 0 = .ok (.iload_n 1, 1) := by decide +kernel
theorem dX5_count_1 : decode cX5_count 1 = .ok (.iconst 2, 1) := by decide +kernel
theorem dX5_count_2 : decode cX5_count 2 = .ok (.iconst 5, 1) := by decide +kernel
theorem dX5_count_3 : decode cX5_count 3 = .ok (.invokestatic 46, 3) := by decide +kernel
theorem dX5_count_6 : decode cX5_count 6 = .ok (.ifCond .eq 7, 3) := by decide +kernel
theorem dX5_count_9 : decode cX5_count 9 = .ok (.aload_n 0, 1) := by decide +kernel
theorem dX5_count_10 : decode cX5_count 10 = .ok (.invokevirtual 124, 3) := by decide +kernel
theorem dX5_count_13 : decode cX5_count 13 = .ok (.iload_n 1, 1) := by decide +kernel
theorem dX5_count_14 : decode cX5_count 14 = .ok (.tableswitch 109 0 6 #[42, 50, 58, 71, 79, 84, 104], 42) := by decide +kernel
theorem dX5_count_56 : decode cX5_count 56 = .ok (.aload_n 0, 1) := by decide +kernel
theorem dX5_count_57 : decode cX5_count 57 = .ok (.getfield 12, 3) := by decide +kernel
theorem dX5_count_60 : decode cX5_count 60 = .ok (.getfield 54, 3) := by decide +kernel
theorem dX5_count_63 : decode cX5_count 63 = .ok (.ireturn, 1) := by decide +kernel
theorem dX5_count_64 : decode cX5_count 64 = .ok (.aload_n 0, 1) := by decide +kernel
theorem dX5_count_65 : decode cX5_count 65 = .ok (.getfield 12, 3) := by decide +kernel
theorem dX5_count_68 : decode cX5_count 68 = .ok (.getfield 79, 3) := by decide +kernel
theorem dX5_count_71 : decode cX5_count 71 = .ok (.ireturn, 1) := by decide +kernel
theorem dX5_count_72 : decode cX5_count 72 = .ok (.aload_n 0, 1) := by decide +kernel
theorem dX5_count_73 : decode cX5_count 73 = .ok (.invokevirtual 127, 3) := by decide +kernel
theorem dX5_count_76 : decode cX5_count 76 = .ok (.ifCond .eq 7, 3) := by decide +kernel
theorem dX5_count_79 : decode cX5_count 79 = .ok (.iconst 1, 1) := by decide +kernel
theorem dX5_count_80 : decode cX5_count 80 = .ok (.goto 4, 3) := by decide +kernel
theorem dX5_count_83 : decode cX5_count 83 = .ok (.iconst 0, 1) := by decide +kernel
theorem dX5_count_84 : decode cX5_count 84 = .ok (.ireturn, 1) := by decide +kernel
theorem dX5_count_85 : decode cX5_count 85 = .ok (.aload_n 0, 1) := by decide +kernel
theorem dX5_count_86 : decode cX5_count 86 = .ok (.getfield 38, 3) := by decide +kernel
theorem dX5_count_89 : decode cX5_count 89 = .ok (.getfield 131, 3) := by decide +kernel
theorem dX5_count_92 : decode cX5_count 92 = .ok (.ireturn, 1) := by decide +kernel
theorem dX5_count_93 : decode cX5_count 93 = .ok (.aload_n 0, 1) := by decide +kernel
theorem dX5_count_94 : decode cX5_count 94 = .ok (.invokevirtual 136, 3) := by decide +kernel
theorem dX5_count_97 : decode cX5_count 97 = .ok (.ireturn, 1) := by decide +kernel
theorem dX5_count_98 : decode cX5_count 98 = .ok (.aload_n 0, 1) := by decide +kernel
theorem dX5_count_99 : decode cX5_count 99 = .ok (.invokevirtual 127, 3) := by decide +kernel
theorem dX5_count_102 : decode cX5_count 102 = .ok (.ifCond .eq 8, 3) := by decide +kernel
theorem dX5_count_105 : decode cX5_count 105 = .ok (.bipush (-3), 2) := by decide +kernel
theorem dX5_count_107 : decode cX5_count 107 = .ok (.goto 10, 3) := by decide +kernel
theorem dX5_count_110 : decode cX5_count 110 = .ok (.aload_n 0, 1) := by decide +kernel
theorem dX5_count_111 : decode cX5_count 111 = .ok (.getfield 31, 3) := by decide +kernel
theorem dX5_count_114 : decode cX5_count 114 = .ok (.getfield 140, 3) := by decide +kernel
theorem dX5_count_117 : decode cX5_count 117 = .ok (.ireturn, 1) := by decide +kernel
theorem dX5_count_118 : decode cX5_count 118 = .ok (.aload_n 0, 1) := by decide +kernel
theorem dX5_count_119 : decode cX5_count 119 = .ok (.getfield 143, 3) := by decide +kernel
theorem dX5_count_122 : decode cX5_count 122 = .ok (.ireturn, 1) := by decide +kernel
theorem dX5_count_123 : decode cX5_count 123 = .ok (.bipush (-2), 2) := by decide +kernel
theorem dX5_count_125 : decode cX5_count 125 = .ok (.ireturn, 1) := by decide +kernel
abbrev rm_X5_count : Room := { frames := 27, cells := 0, slots := 0, locals := 771 }
noncomputable def f_X5_count_b13 (N : Nat) (x1 : Int32) (σ : ZS) : Option (Int32 × ZS) := (if x1 = (0 : Int32) then some (gI σ 2 0, σ) else (if x1 = (1 : Int32) then some (gI σ 2 1, σ) else (if x1 = (2 : Int32) then obd (f_X5_isLoose N σ) fun v7 σ8 => (if v7 = 0 then some ((0 : Int32), σ8) else some ((1 : Int32), σ8)) else (if x1 = (3 : Int32) then some (gI σ 5 3, σ) else (if x1 = (4 : Int32) then obd (f_X5_selfStressCount N σ) fun v12 σ13 => some (v12, σ13) else (if x1 = (5 : Int32) then obd (f_X5_isLoose N σ) fun v15 σ16 => (if v15 = 0 then some (gI σ16 6 3, σ16) else some ((-3 : Int32), σ16)) else (if x1 = (6 : Int32) then some (gI σ 0 6, σ) else some ((-2 : Int32), σ))))))))
noncomputable def f_X5_count (N : Nat) (x1 : Int32) (σ : ZS) : Option (Int32 × ZS) := obd (f_X5_within N x1 (2 : Int32) (5 : Int32) σ) fun v1 σ2 => (if v1 = 0 then f_X5_count_b13 N x1 σ2 else obd (f_X5_refresh N σ2) fun _ σ20 => f_X5_count_b13 N x1 σ20)
set_option maxHeartbeats 4000000 in
set_option maxRecDepth 100000 in
theorem k_X5_count_b13 {l : Launch} {Y : ZY} {G : ZG} {r : Int32} {σ' : ZS} (h : zOk (l, rm_X5_count, 2, 0, 0) Y G cX5_count RX5 (some .int)) (hq : zRet (l, rm_X5_count, 2, 0, 0) Y G (some (.int r)) σ') (N : Nat) (x1 : Int32) (σ : ZS) (hf : f_X5_count_b13 N x1 σ = some (r, σ')) : Z (l, rm_X5_count, 2, 0, 0) Y G σ [(0, .ref (G.1 0)), (1, .int x1)] [] 13 := by
  rw [f_X5_count_b13] at hf
  refine z_iload_n h dX5_count_13 rfl 1 rfl ?_
  by_cases g4 : x1 = (0 : Int32)
  · have hf := it_pos g4 hf
    refine z_tin h (v := 0) (tgt := 56) dX5_count_14 (by rw [g4]; rfl) (by decide) (by decide) rfl (by decide) ?_
    refine z_aload_n h dX5_count_56 rfl 0 rfl ?_
    refine z_gfR h zC5 (d := 2) (c := 0) tg_0 ln_0 0 rfl ft_5_0 rf_0_0 wd_15 dX5_count_57 ?_
    refine z_gfIN h zC2 (c := 2) tg_2 ln_2 0 rfl ft_2_0 (by decide +kernel) dX5_count_60 ?_
    exact z_iret h (rt_I hf hq) dX5_count_63
  have hf := it_neg g4 hf
  by_cases g5 : x1 = (1 : Int32)
  · have hf := it_pos g5 hf
    refine z_tin h (v := 1) (tgt := 64) dX5_count_14 (by rw [g5]; rfl) (by decide) (by decide) rfl (by decide) ?_
    refine z_aload_n h dX5_count_64 rfl 0 rfl ?_
    refine z_gfR h zC5 (d := 2) (c := 0) tg_0 ln_0 0 rfl ft_5_0 rf_0_0 wd_15 dX5_count_65 ?_
    refine z_gfIN h zC2 (c := 2) tg_2 ln_2 1 rfl ft_2_1 (by decide +kernel) dX5_count_68 ?_
    exact z_iret h (rt_I hf hq) dX5_count_71
  have hf := it_neg g5 hf
  by_cases g6 : x1 = (2 : Int32)
  · have hf := it_pos g6 hf
    refine z_tin h (v := 2) (tgt := 72) dX5_count_14 (by rw [g6]; rfl) (by decide) (by decide) rfl (by decide) ?_
    refine z_aload_n h dX5_count_72 rfl 0 rfl ?_
    obtain ⟨v7, σ8, e8, hf⟩ := obd_out hf
    refine z_cVv h (n := 0) (c_X5_isLoose l G e8) zC5 tg_0 ln_0 rfl rfl wd_405 wd_406 wd_407 wd_2 wd_408 (by decide +kernel) ⟨rfl, rfl⟩ rfl rfl rfl dX5_count_73 ⟨Nat.zero_le _, Nat.zero_le _⟩ ?_
    refine z_if_eq h (tgt := 83) dX5_count_76 (by decide) (fun g9 => ?_) (fun g9 => ?_)
    · have hf := it_pos g9 hf
      refine z_iconst h (v := (0 : Int32)) dX5_count_83 ic_0 ?_
      exact z_iret h (rt_I hf hq) dX5_count_84
    · have hf := it_neg g9 hf
      refine z_iconst h (v := (1 : Int32)) dX5_count_79 ic_1 ?_
      refine z_goto h (tgt := 84) dX5_count_80 (by decide) ?_
      exact z_iret h (rt_I hf hq) dX5_count_84
  have hf := it_neg g6 hf
  by_cases g10 : x1 = (3 : Int32)
  · have hf := it_pos g10 hf
    refine z_tin h (v := 3) (tgt := 85) dX5_count_14 (by rw [g10]; rfl) (by decide) (by decide) rfl (by decide) ?_
    refine z_aload_n h dX5_count_85 rfl 0 rfl ?_
    refine z_gfR h zC5 (d := 5) (c := 0) tg_0 ln_0 2 rfl ft_5_2 rf_0_2 wd_22 dX5_count_86 ?_
    refine z_gfIN h zC4 (c := 5) tg_5 ln_5 3 rfl ft_4_3 (by decide +kernel) dX5_count_89 ?_
    exact z_iret h (rt_I hf hq) dX5_count_92
  have hf := it_neg g10 hf
  by_cases g11 : x1 = (4 : Int32)
  · have hf := it_pos g11 hf
    refine z_tin h (v := 4) (tgt := 93) dX5_count_14 (by rw [g11]; rfl) (by decide) (by decide) rfl (by decide) ?_
    refine z_aload_n h dX5_count_93 rfl 0 rfl ?_
    obtain ⟨v12, σ13, e13, hf⟩ := obd_out hf
    refine z_cVv h (n := 0) (c_X5_selfStressCount l G e13) zC5 tg_0 ln_0 rfl rfl wd_410 wd_411 wd_412 wd_2 wd_413 (by decide +kernel) ⟨rfl, rfl⟩ rfl rfl rfl dX5_count_94 ⟨Nat.zero_le _, Nat.zero_le _⟩ ?_
    exact z_iret h (rt_I hf hq) dX5_count_97
  have hf := it_neg g11 hf
  by_cases g14 : x1 = (5 : Int32)
  · have hf := it_pos g14 hf
    refine z_tin h (v := 5) (tgt := 98) dX5_count_14 (by rw [g14]; rfl) (by decide) (by decide) rfl (by decide) ?_
    refine z_aload_n h dX5_count_98 rfl 0 rfl ?_
    obtain ⟨v15, σ16, e16, hf⟩ := obd_out hf
    refine z_cVv h (n := 0) (c_X5_isLoose l G e16) zC5 tg_0 ln_0 rfl rfl wd_405 wd_406 wd_407 wd_2 wd_408 (by decide +kernel) ⟨rfl, rfl⟩ rfl rfl rfl dX5_count_99 ⟨Nat.zero_le _, Nat.zero_le _⟩ ?_
    refine z_if_eq h (tgt := 110) dX5_count_102 (by decide) (fun g17 => ?_) (fun g17 => ?_)
    · have hf := it_pos g17 hf
      refine z_aload_n h dX5_count_110 rfl 0 rfl ?_
      refine z_gfR h zC5 (d := 6) (c := 0) tg_0 ln_0 3 rfl ft_5_3 rf_0_3 wd_21 dX5_count_111 ?_
      refine z_gfIN h zC3 (c := 6) tg_6 ln_6 3 rfl ft_3_3 (by decide +kernel) dX5_count_114 ?_
      exact z_iret h (rt_I hf hq) dX5_count_117
    · have hf := it_neg g17 hf
      refine z_bipush h (v := (-3 : Int32)) dX5_count_105 bp_m3 ?_
      refine z_goto h (tgt := 117) dX5_count_107 (by decide) ?_
      exact z_iret h (rt_I hf hq) dX5_count_117
  have hf := it_neg g14 hf
  by_cases g18 : x1 = (6 : Int32)
  · have hf := it_pos g18 hf
    refine z_tin h (v := 6) (tgt := 118) dX5_count_14 (by rw [g18]; rfl) (by decide) (by decide) rfl (by decide) ?_
    refine z_aload_n h dX5_count_118 rfl 0 rfl ?_
    refine z_gfI h zC5 (c := 0) tg_0 ln_0 6 rfl ft_5_6 wd_277 dX5_count_119 ?_
    exact z_iret h (rt_I hf hq) dX5_count_122
  have hf := it_neg g18 hf
  refine z_tout h (tgt := 123) dX5_count_14 (by have := lv_neT (a := 0) g4 rfl; have := lv_neT (a := 1) g5 rfl; have := lv_neT (a := 2) g6 rfl; have := lv_neT (a := 3) g10 rfl; have := lv_neT (a := 4) g11 rfl; have := lv_neT (a := 5) g14 rfl; have := lv_neT (a := 6) g18 rfl; omega) (by decide) ?_
  refine z_bipush h (v := (-2 : Int32)) dX5_count_123 bp_m2 ?_
  exact z_iret h (rt_I hf hq) dX5_count_125
set_option maxHeartbeats 4000000 in
set_option maxRecDepth 100000 in
theorem c_X5_count (l : Launch) (G : ZG) {N : Nat} {x1 : Int32} {σ σ' : ZS} {r : Int32} (hf : f_X5_count N x1 σ = some (r, σ')) : zMet l G yX5_count cX5_count 2 (some .int) rm_X5_count [.ref (G.1 0), .int x1] σ (some (.int r)) σ' := by
  refine z_met (by decide +kernel) rfl (fun Y h hq => ?_)
  have h : zOk (l, rm_X5_count, 2, 0, 0) Y G cX5_count RX5 (some .int) := h
  rw [f_X5_count] at hf
  refine z_sub (lv' := [(0, .ref (G.1 0)), (1, .int x1)]) [0, 1] rfl ?_
  refine z_iload_n h dX5_count_0 rfl 1 rfl ?_
  refine z_iconst h (v := (2 : Int32)) dX5_count_1 ic_2 ?_
  refine z_iconst h (v := (5 : Int32)) dX5_count_2 ic_5 ?_
  obtain ⟨v1, σ2, e2, hf⟩ := obd_out hf
  refine z_cSv h (n := 3) (c_X5_within l G e2) rfl wd_133 wd_134 wd_2 wd_135 (by decide +kernel) ⟨rfl, rfl⟩ rfl rfl rfl dX5_count_3 ⟨Nat.zero_le _, Nat.zero_le _⟩ ?_
  refine z_if_eq h (tgt := 13) dX5_count_6 (by decide) (fun g3 => ?_) (fun g3 => ?_)
  · have hf := it_pos g3 hf
    exact z_sub [0, 1] rfl (k_X5_count_b13 h hq N x1 _ hf)
  · have hf := it_neg g3 hf
    refine z_aload_n h dX5_count_9 rfl 0 rfl ?_
    obtain ⟨v19, σ20, e20, hf⟩ := obd_out hf
    refine z_cV0 h (n := 0) (c_X5_refresh l G e20) zC5 tg_0 ln_0 rfl rfl wd_278 wd_279 wd_280 wd_2 wd_281 (by decide +kernel) ⟨rfl, rfl⟩ rfl rfl rfl dX5_count_10 ⟨Nat.zero_le _, Nat.zero_le _⟩ ?_
    exact z_sub [0, 1] rfl (k_X5_count_b13 h hq N x1 _ hf)
theorem dX5_isMechanism_0 : decode cX5_isMechanism 0 = .ok (.iload_n 1, 1) := by decide +kernel
theorem dX5_isMechanism_1 : decode cX5_isMechanism 1 = .ok (.iconst 0, 1) := by decide +kernel
theorem dX5_isMechanism_2 : decode cX5_isMechanism 2 = .ok (.aload_n 0, 1) := by decide +kernel
theorem dX5_isMechanism_3 : decode cX5_isMechanism 3 = .ok (.getfield 31, 3) := by decide +kernel
theorem dX5_isMechanism_6 : decode cX5_isMechanism 6 = .ok (.getfield 140, 3) := by decide +kernel
theorem dX5_isMechanism_9 : decode cX5_isMechanism 9 = .ok (.iconst 1, 1) := by decide +kernel
theorem dX5_isMechanism_10 : decode cX5_isMechanism 10 = .ok (.isub, 1) := by decide +kernel
theorem dX5_isMechanism_11 : decode cX5_isMechanism 11 = .ok (.invokestatic 46, 3) := by decide +kernel
theorem dX5_isMechanism_14 : decode cX5_isMechanism 14 = .ok (.ireturn, 1) := by decide +kernel
abbrev rm_X5_isMechanism : Room := { frames := 1, cells := 0, slots := 0, locals := 30 }
noncomputable def f_X5_isMechanism (N : Nat) (x1 : Int32) (σ : ZS) : Option (Int32 × ZS) := obd (f_X5_within N x1 (0 : Int32) ((gI σ 6 3) - (1 : Int32)) σ) fun v1 σ2 => ck (bb v1) (some (v1, σ2))
set_option maxHeartbeats 4000000 in
set_option maxRecDepth 100000 in
theorem c_X5_isMechanism (l : Launch) (G : ZG) {N : Nat} {x1 : Int32} {σ σ' : ZS} {r : Int32} (hf : f_X5_isMechanism N x1 σ = some (r, σ')) : zMet l G yX5_isMechanism cX5_isMechanism 2 (some .boolean) rm_X5_isMechanism [.ref (G.1 0), .int x1] σ (some (.int r)) σ' := by
  refine z_met (by decide +kernel) rfl (fun Y h hq => ?_)
  have h : zOk (l, rm_X5_isMechanism, 2, 0, 0) Y G cX5_isMechanism RX5 (some .boolean) := h
  rw [f_X5_isMechanism] at hf
  refine z_sub (lv' := [(0, .ref (G.1 0)), (1, .int x1)]) [0, 1] rfl ?_
  refine z_iload_n h dX5_isMechanism_0 rfl 1 rfl ?_
  refine z_iconst h (v := (0 : Int32)) dX5_isMechanism_1 ic_0 ?_
  refine z_aload_n h dX5_isMechanism_2 rfl 0 rfl ?_
  refine z_gfR h zC5 (d := 6) (c := 0) tg_0 ln_0 3 rfl ft_5_3 rf_0_3 wd_21 dX5_isMechanism_3 ?_
  refine z_gfIN h zC3 (c := 6) tg_6 ln_6 3 rfl ft_3_3 (by decide +kernel) dX5_isMechanism_6 ?_
  refine z_iconst h (v := (1 : Int32)) dX5_isMechanism_9 ic_1 ?_
  refine z_isub h dX5_isMechanism_10 ?_
  obtain ⟨v1, σ2, e2, hf⟩ := obd_out hf
  refine z_cSv h (n := 3) (c_X5_within l G e2) rfl wd_133 wd_134 wd_2 wd_135 (by decide +kernel) ⟨rfl, rfl⟩ rfl rfl rfl dX5_isMechanism_11 ⟨Nat.zero_le _, Nat.zero_le _⟩ ?_
  obtain ⟨g3, hf⟩ := ck_out hf
  exact z_zret h g3 (rt_I hf hq) dX5_isMechanism_14
theorem dX5_mechanism_0 : decode cX5_mechanism 0 = .ok (.aload_n 0, 1) := by decide +kernel
theorem dX5_mechanism_1 : decode cX5_mechanism 1 = .ok (.invokevirtual 124, 3) := by decide +kernel
theorem dX5_mechanism_4 : decode cX5_mechanism 4 = .ok (.aload_n 0, 1) := by decide +kernel
theorem dX5_mechanism_5 : decode cX5_mechanism 5 = .ok (.invokevirtual 127, 3) := by decide +kernel
theorem dX5_mechanism_8 : decode cX5_mechanism 8 = .ok (.ifCond .eq 6, 3) := by decide +kernel
theorem dX5_mechanism_11 : decode cX5_mechanism 11 = .ok (.bipush (-3), 2) := by decide +kernel
theorem dX5_mechanism_13 : decode cX5_mechanism 13 = .ok (.ireturn, 1) := by decide +kernel
theorem dX5_mechanism_14 : decode cX5_mechanism 14 = .ok (.aload_n 0, 1) := by decide +kernel
theorem dX5_mechanism_15 : decode cX5_mechanism 15 = .ok (.iload_n 1, 1) := by decide +kernel
theorem dX5_mechanism_16 : decode cX5_mechanism 16 = .ok (.invokevirtual 146, 3) := by decide +kernel
theorem dX5_mechanism_19 : decode cX5_mechanism 19 = .ok (.ifCond .eq 15, 3) := by decide +kernel
theorem dX5_mechanism_22 : decode cX5_mechanism 22 = .ok (.aload_n 0, 1) := by decide +kernel
theorem dX5_mechanism_23 : decode cX5_mechanism 23 = .ok (.getfield 31, 3) := by decide +kernel
theorem dX5_mechanism_26 : decode cX5_mechanism 26 = .ok (.getfield 149, 3) := by decide +kernel
theorem dX5_mechanism_29 : decode cX5_mechanism 29 = .ok (.iload_n 1, 1) := by decide +kernel
theorem dX5_mechanism_30 : decode cX5_mechanism 30 = .ok (.iaload, 1) := by decide +kernel
theorem dX5_mechanism_31 : decode cX5_mechanism 31 = .ok (.goto 4, 3) := by decide +kernel
theorem dX5_mechanism_34 : decode cX5_mechanism 34 = .ok (.iconst (-1), 1) := by decide +kernel
theorem dX5_mechanism_35 : decode cX5_mechanism 35 = .ok (.ireturn, 1) := by decide +kernel
abbrev rm_X5_mechanism : Room := { frames := 27, cells := 0, slots := 0, locals := 771 }
noncomputable def f_X5_mechanism (N : Nat) (x1 : Int32) (σ : ZS) : Option (Int32 × ZS) := obd (f_X5_refresh N σ) fun _ σ2 => obd (f_X5_isLoose N σ2) fun v3 σ4 => (if v3 = 0 then obd (f_X5_isMechanism N x1 σ4) fun v6 σ7 => (if v6 = 0 then some ((-1 : Int32), σ7) else ck (inb x1 924) (some (gI σ7 59 (x1.toNatClampNeg), σ7))) else some ((-3 : Int32), σ4))
set_option maxHeartbeats 4000000 in
set_option maxRecDepth 100000 in
theorem c_X5_mechanism (l : Launch) (G : ZG) {N : Nat} {x1 : Int32} {σ σ' : ZS} {r : Int32} (hf : f_X5_mechanism N x1 σ = some (r, σ')) : zMet l G yX5_mechanism cX5_mechanism 2 (some .int) rm_X5_mechanism [.ref (G.1 0), .int x1] σ (some (.int r)) σ' := by
  refine z_met (by decide +kernel) rfl (fun Y h hq => ?_)
  have h : zOk (l, rm_X5_mechanism, 2, 0, 0) Y G cX5_mechanism RX5 (some .int) := h
  rw [f_X5_mechanism] at hf
  refine z_sub (lv' := [(0, .ref (G.1 0)), (1, .int x1)]) [0, 1] rfl ?_
  refine z_aload_n h dX5_mechanism_0 rfl 0 rfl ?_
  obtain ⟨v1, σ2, e2, hf⟩ := obd_out hf
  refine z_cV0 h (n := 0) (c_X5_refresh l G e2) zC5 tg_0 ln_0 rfl rfl wd_278 wd_279 wd_280 wd_2 wd_281 (by decide +kernel) ⟨rfl, rfl⟩ rfl rfl rfl dX5_mechanism_1 ⟨Nat.zero_le _, Nat.zero_le _⟩ ?_
  refine z_aload_n h dX5_mechanism_4 rfl 0 rfl ?_
  obtain ⟨v3, σ4, e4, hf⟩ := obd_out hf
  refine z_cVv h (n := 0) (c_X5_isLoose l G e4) zC5 tg_0 ln_0 rfl rfl wd_405 wd_406 wd_407 wd_2 wd_408 (by decide +kernel) ⟨rfl, rfl⟩ rfl rfl rfl dX5_mechanism_5 ⟨Nat.zero_le _, Nat.zero_le _⟩ ?_
  refine z_if_eq h (tgt := 14) dX5_mechanism_8 (by decide) (fun g5 => ?_) (fun g5 => ?_)
  · have hf := it_pos g5 hf
    refine z_aload_n h dX5_mechanism_14 rfl 0 rfl ?_
    refine z_iload_n h dX5_mechanism_15 rfl 1 rfl ?_
    obtain ⟨v6, σ7, e7, hf⟩ := obd_out hf
    refine z_cVv h (n := 1) (c_X5_isMechanism l G e7) zC5 tg_0 ln_0 rfl rfl wd_490 wd_491 wd_492 wd_2 wd_493 (by decide +kernel) ⟨rfl, rfl⟩ rfl rfl rfl dX5_mechanism_16 ⟨Nat.zero_le _, Nat.zero_le _⟩ ?_
    refine z_if_eq h (tgt := 34) dX5_mechanism_19 (by decide) (fun g8 => ?_) (fun g8 => ?_)
    · have hf := it_pos g8 hf
      refine z_iconst h (v := (-1 : Int32)) dX5_mechanism_34 ic_m1 ?_
      exact z_iret h (rt_I hf hq) dX5_mechanism_35
    · have hf := it_neg g8 hf
      refine z_aload_n h dX5_mechanism_22 rfl 0 rfl ?_
      refine z_gfR h zC5 (d := 6) (c := 0) tg_0 ln_0 3 rfl ft_5_3 rf_0_3 wd_21 dX5_mechanism_23 ?_
      refine z_gfRN h zC3 (d := 59) (c := 6) tg_6 ln_6 1 rfl ft_3_1 rf_6_1 (by decide +kernel) dX5_mechanism_26 ?_
      refine z_iload_n h dX5_mechanism_29 rfl 1 rfl ?_
      obtain ⟨g9, hf⟩ := ck_out hf
      refine z_iald h (c := 59) tg_59 ln_59 g9 dX5_mechanism_30 ?_
      refine z_goto h (tgt := 35) dX5_mechanism_31 (by decide) ?_
      exact z_iret h (rt_I hf hq) dX5_mechanism_35
  · have hf := it_neg g5 hf
    refine z_bipush h (v := (-3 : Int32)) dX5_mechanism_11 bp_m3 ?_
    exact z_iret h (rt_I hf hq) dX5_mechanism_13
theorem dX5_isEnd_0 : decode cX5_isEnd 0 = .ok (.iload_n 1, 1) := by decide +kernel
theorem dX5_isEnd_1 : decode cX5_isEnd 1 = .ok (.iconst 0, 1) := by decide +kernel
theorem dX5_isEnd_2 : decode cX5_isEnd 2 = .ok (.iconst 2, 1) := by decide +kernel
theorem dX5_isEnd_3 : decode cX5_isEnd 3 = .ok (.aload_n 0, 1) := by decide +kernel
theorem dX5_isEnd_4 : decode cX5_isEnd 4 = .ok (.getfield 12, 3) := by decide +kernel
theorem dX5_isEnd_7 : decode cX5_isEnd 7 = .ok (.getfield 79, 3) := by decide +kernel
theorem dX5_isEnd_10 : decode cX5_isEnd 10 = .ok (.imul, 1) := by decide +kernel
theorem dX5_isEnd_11 : decode cX5_isEnd 11 = .ok (.iconst 1, 1) := by decide +kernel
theorem dX5_isEnd_12 : decode cX5_isEnd 12 = .ok (.isub, 1) := by decide +kernel
theorem dX5_isEnd_13 : decode cX5_isEnd 13 = .ok (.invokestatic 46, 3) := by decide +kernel
theorem dX5_isEnd_16 : decode cX5_isEnd 16 = .ok (.ireturn, 1) := by decide +kernel
abbrev rm_X5_isEnd : Room := { frames := 1, cells := 0, slots := 0, locals := 30 }
noncomputable def f_X5_isEnd (N : Nat) (x1 : Int32) (σ : ZS) : Option (Int32 × ZS) := obd (f_X5_within N x1 (0 : Int32) (((2 : Int32) * (gI σ 2 1)) - (1 : Int32)) σ) fun v1 σ2 => ck (bb v1) (some (v1, σ2))
set_option maxHeartbeats 4000000 in
set_option maxRecDepth 100000 in
theorem c_X5_isEnd (l : Launch) (G : ZG) {N : Nat} {x1 : Int32} {σ σ' : ZS} {r : Int32} (hf : f_X5_isEnd N x1 σ = some (r, σ')) : zMet l G yX5_isEnd cX5_isEnd 2 (some .boolean) rm_X5_isEnd [.ref (G.1 0), .int x1] σ (some (.int r)) σ' := by
  refine z_met (by decide +kernel) rfl (fun Y h hq => ?_)
  have h : zOk (l, rm_X5_isEnd, 2, 0, 0) Y G cX5_isEnd RX5 (some .boolean) := h
  rw [f_X5_isEnd] at hf
  refine z_sub (lv' := [(0, .ref (G.1 0)), (1, .int x1)]) [0, 1] rfl ?_
  refine z_iload_n h dX5_isEnd_0 rfl 1 rfl ?_
  refine z_iconst h (v := (0 : Int32)) dX5_isEnd_1 ic_0 ?_
  refine z_iconst h (v := (2 : Int32)) dX5_isEnd_2 ic_2 ?_
  refine z_aload_n h dX5_isEnd_3 rfl 0 rfl ?_
  refine z_gfR h zC5 (d := 2) (c := 0) tg_0 ln_0 0 rfl ft_5_0 rf_0_0 wd_15 dX5_isEnd_4 ?_
  refine z_gfIN h zC2 (c := 2) tg_2 ln_2 1 rfl ft_2_1 (by decide +kernel) dX5_isEnd_7 ?_
  refine z_imul h dX5_isEnd_10 ?_
  refine z_iconst h (v := (1 : Int32)) dX5_isEnd_11 ic_1 ?_
  refine z_isub h dX5_isEnd_12 ?_
  obtain ⟨v1, σ2, e2, hf⟩ := obd_out hf
  refine z_cSv h (n := 3) (c_X5_within l G e2) rfl wd_133 wd_134 wd_2 wd_135 (by decide +kernel) ⟨rfl, rfl⟩ rfl rfl rfl dX5_isEnd_13 ⟨Nat.zero_le _, Nat.zero_le _⟩ ?_
  obtain ⟨g3, hf⟩ := ck_out hf
  exact z_zret h g3 (rt_I hf hq) dX5_isEnd_16
theorem dX5_twist_0 : decode cX5_twist 0 = .ok (.iload_n 3, 1) := by decide +kernel
theorem dX5_twist_1 : decode cX5_twist 1 = .ok (.iconst 0, 1) := by decide +kernel
theorem dX5_twist_2 : decode cX5_twist 2 = .ok (.iconst 1, 1) := by decide +kernel
theorem dX5_twist_3 : decode cX5_twist 3 = .ok (.invokestatic 46, 3) := by decide +kernel
theorem dX5_twist_6 : decode cX5_twist 6 = .ok (.ifCond .ne 7, 3) := by decide +kernel
theorem dX5_twist_9 : decode cX5_twist 9 = .ok (.ldc2_w 152, 3) := by decide +kernel
theorem dX5_twist_12 : decode cX5_twist 12 = .ok (.lreturn, 1) := by decide +kernel
theorem dX5_twist_13 : decode cX5_twist 13 = .ok (.aload_n 0, 1) := by decide +kernel
theorem dX5_twist_14 : decode cX5_twist 14 = .ok (.invokevirtual 124, 3) := by decide +kernel
theorem dX5_twist_17 : decode cX5_twist 17 = .ok (.aload_n 0, 1) := by decide +kernel
theorem dX5_twist_18 : decode cX5_twist 18 = .ok (.invokevirtual 127, 3) := by decide +kernel
theorem dX5_twist_21 : decode cX5_twist 21 = .ok (.ifCond .eq 7, 3) := by decide +kernel
theorem dX5_twist_24 : decode cX5_twist 24 = .ok (.ldc2_w 154, 3) := by decide +kernel
theorem dX5_twist_27 : decode cX5_twist 27 = .ok (.lreturn, 1) := by decide +kernel
theorem dX5_twist_28 : decode cX5_twist 28 = .ok (.aload_n 0, 1) := by decide +kernel
theorem dX5_twist_29 : decode cX5_twist 29 = .ok (.iload_n 1, 1) := by decide +kernel
theorem dX5_twist_30 : decode cX5_twist 30 = .ok (.invokevirtual 146, 3) := by decide +kernel
theorem dX5_twist_33 : decode cX5_twist 33 = .ok (.ifCond .eq 11, 3) := by decide +kernel
theorem dX5_twist_36 : decode cX5_twist 36 = .ok (.aload_n 0, 1) := by decide +kernel
theorem dX5_twist_37 : decode cX5_twist 37 = .ok (.iload_n 2, 1) := by decide +kernel
theorem dX5_twist_38 : decode cX5_twist 38 = .ok (.invokevirtual 156, 3) := by decide +kernel
theorem dX5_twist_41 : decode cX5_twist 41 = .ok (.ifCond .ne 7, 3) := by decide +kernel
theorem dX5_twist_44 : decode cX5_twist 44 = .ok (.ldc2_w 159, 3) := by decide +kernel
theorem dX5_twist_47 : decode cX5_twist 47 = .ok (.lreturn, 1) := by decide +kernel
theorem dX5_twist_48 : decode cX5_twist 48 = .ok (.aload_n 0, 1) := by decide +kernel
theorem dX5_twist_49 : decode cX5_twist 49 = .ok (.getfield 42, 3) := by decide +kernel
theorem dX5_twist_52 : decode cX5_twist 52 = .ok (.aload_n 0, 1) := by decide +kernel
theorem dX5_twist_53 : decode cX5_twist 53 = .ok (.getfield 31, 3) := by decide +kernel
theorem dX5_twist_56 : decode cX5_twist 56 = .ok (.iload_n 1, 1) := by decide +kernel
theorem dX5_twist_57 : decode cX5_twist 57 = .ok (.iload_n 2, 1) := by decide +kernel
theorem dX5_twist_58 : decode cX5_twist 58 = .ok (.invokevirtual 161, 3) := by decide +kernel
theorem dX5_twist_61 : decode cX5_twist 61 = .ok (.aload_n 0, 1) := by decide +kernel
theorem dX5_twist_62 : decode cX5_twist 62 = .ok (.getfield 31, 3) := by decide +kernel
theorem dX5_twist_65 : decode cX5_twist 65 = .ok (.iload_n 1, 1) := by decide +kernel
theorem dX5_twist_66 : decode cX5_twist 66 = .ok (.invokevirtual 165, 3) := by decide +kernel
theorem dX5_twist_69 : decode cX5_twist 69 = .ok (.invokevirtual 169, 3) := by decide +kernel
theorem dX5_twist_72 : decode cX5_twist 72 = .ok (.aload_n 0, 1) := by decide +kernel
theorem dX5_twist_73 : decode cX5_twist 73 = .ok (.getfield 42, 3) := by decide +kernel
theorem dX5_twist_76 : decode cX5_twist 76 = .ok (.iload_n 3, 1) := by decide +kernel
theorem dX5_twist_77 : decode cX5_twist 77 = .ok (.invokevirtual 173, 3) := by decide +kernel
theorem dX5_twist_80 : decode cX5_twist 80 = .ok (.lreturn, 1) := by decide +kernel
abbrev rm_X5_twist : Room := { frames := 27, cells := 0, slots := 0, locals := 771 }
noncomputable def f_X5_twist (N : Nat) (x1 : Int32) (x2 : Int32) (x3 : Int32) (σ : ZS) : Option (Int64 × ZS) := obd (f_X5_within N x3 (0 : Int32) (1 : Int32) σ) fun v1 σ2 => (if v1 = 0 then some ((-4000000000000000002 : Int64), σ2) else obd (f_X5_refresh N σ2) fun _ σ5 => obd (f_X5_isLoose N σ5) fun v6 σ7 => (if v6 = 0 then obd (f_X5_isMechanism N x1 σ7) fun v9 σ10 => (if v9 = 0 then some ((-4000000000000000001 : Int64), σ10) else obd (f_X5_isEnd N x2 σ10) fun v12 σ13 => (if v12 = 0 then some ((-4000000000000000001 : Int64), σ13) else obd (f_X3_twistOf N x1 x2 σ13) fun v15 σ16 => obd (f_X3_lowestTwist N x1 σ16) fun v17 σ18 => obd (f_X1_put N 8 v15 v17 σ18) fun _ σ20 => obd (f_X1_lowestTerm N 8 x3 σ20) fun v21 σ22 => some (v21, σ22))) else some ((-4000000000000000003 : Int64), σ7)))
set_option maxHeartbeats 4000000 in
set_option maxRecDepth 100000 in
theorem c_X5_twist (l : Launch) (G : ZG) {N : Nat} {x1 : Int32} {x2 : Int32} {x3 : Int32} {σ σ' : ZS} {r : Int64} (hf : f_X5_twist N x1 x2 x3 σ = some (r, σ')) : zMet l G yX5_twist cX5_twist 4 (some .long) rm_X5_twist [.ref (G.1 0), .int x1, .int x2, .int x3] σ (some (.long r)) σ' := by
  refine z_met (by decide +kernel) rfl (fun Y h hq => ?_)
  have h : zOk (l, rm_X5_twist, 4, 0, 0) Y G cX5_twist RX5 (some .long) := h
  rw [f_X5_twist] at hf
  refine z_sub (lv' := [(0, .ref (G.1 0)), (1, .int x1), (2, .int x2), (3, .int x3)]) [0, 1, 2, 3] rfl ?_
  refine z_iload_n h dX5_twist_0 rfl 3 rfl ?_
  refine z_iconst h (v := (0 : Int32)) dX5_twist_1 ic_0 ?_
  refine z_iconst h (v := (1 : Int32)) dX5_twist_2 ic_1 ?_
  obtain ⟨v1, σ2, e2, hf⟩ := obd_out hf
  refine z_cSv h (n := 3) (c_X5_within l G e2) rfl wd_133 wd_134 wd_2 wd_135 (by decide +kernel) ⟨rfl, rfl⟩ rfl rfl rfl dX5_twist_3 ⟨Nat.zero_le _, Nat.zero_le _⟩ ?_
  refine z_if_ne h (tgt := 13) dX5_twist_6 (by decide) (fun g3 => ?_) (fun g3 => ?_)
  · have hf := it_neg g3 hf
    refine z_aload_n h dX5_twist_13 rfl 0 rfl ?_
    obtain ⟨v4, σ5, e5, hf⟩ := obd_out hf
    refine z_cV0 h (n := 0) (c_X5_refresh l G e5) zC5 tg_0 ln_0 rfl rfl wd_278 wd_279 wd_280 wd_2 wd_281 (by decide +kernel) ⟨rfl, rfl⟩ rfl rfl rfl dX5_twist_14 ⟨Nat.zero_le _, Nat.zero_le _⟩ ?_
    refine z_aload_n h dX5_twist_17 rfl 0 rfl ?_
    obtain ⟨v6, σ7, e7, hf⟩ := obd_out hf
    refine z_cVv h (n := 0) (c_X5_isLoose l G e7) zC5 tg_0 ln_0 rfl rfl wd_405 wd_406 wd_407 wd_2 wd_408 (by decide +kernel) ⟨rfl, rfl⟩ rfl rfl rfl dX5_twist_18 ⟨Nat.zero_le _, Nat.zero_le _⟩ ?_
    refine z_if_eq h (tgt := 28) dX5_twist_21 (by decide) (fun g8 => ?_) (fun g8 => ?_)
    · have hf := it_pos g8 hf
      refine z_aload_n h dX5_twist_28 rfl 0 rfl ?_
      refine z_iload_n h dX5_twist_29 rfl 1 rfl ?_
      obtain ⟨v9, σ10, e10, hf⟩ := obd_out hf
      refine z_cVv h (n := 1) (c_X5_isMechanism l G e10) zC5 tg_0 ln_0 rfl rfl wd_490 wd_491 wd_492 wd_2 wd_493 (by decide +kernel) ⟨rfl, rfl⟩ rfl rfl rfl dX5_twist_30 ⟨Nat.zero_le _, Nat.zero_le _⟩ ?_
      refine z_if_eq h (tgt := 44) dX5_twist_33 (by decide) (fun g11 => ?_) (fun g11 => ?_)
      · have hf := it_pos g11 hf
        refine z_ldc2 h (v := (-4000000000000000001 : Int64)) wd_504 dX5_twist_44 ?_
        exact z_lret h (rt_J hf hq) dX5_twist_47
      · have hf := it_neg g11 hf
        refine z_aload_n h dX5_twist_36 rfl 0 rfl ?_
        refine z_iload_n h dX5_twist_37 rfl 2 rfl ?_
        obtain ⟨v12, σ13, e13, hf⟩ := obd_out hf
        refine z_cVv h (n := 1) (c_X5_isEnd l G e13) zC5 tg_0 ln_0 rfl rfl wd_505 wd_506 wd_507 wd_2 wd_508 (by decide +kernel) ⟨rfl, rfl⟩ rfl rfl rfl dX5_twist_38 ⟨Nat.zero_le _, Nat.zero_le _⟩ ?_
        refine z_if_ne h (tgt := 48) dX5_twist_41 (by decide) (fun g14 => ?_) (fun g14 => ?_)
        · have hf := it_neg g14 hf
          refine z_aload_n h dX5_twist_48 rfl 0 rfl ?_
          refine z_gfR h zC5 (d := 8) (c := 0) tg_0 ln_0 5 rfl ft_5_5 rf_0_5 wd_26 dX5_twist_49 ?_
          refine z_aload_n h dX5_twist_52 rfl 0 rfl ?_
          refine z_gfR h zC5 (d := 6) (c := 0) tg_0 ln_0 3 rfl ft_5_3 rf_0_3 wd_21 dX5_twist_53 ?_
          refine z_iload_n h dX5_twist_56 rfl 1 rfl ?_
          refine z_iload_n h dX5_twist_57 rfl 2 rfl ?_
          obtain ⟨v15, σ16, e16, hf⟩ := obd_out hf
          refine z_cVv h (n := 2) (c_X3_twistOf l G e16) zC3 tg_6 ln_6 rfl rfl wd_509 wd_510 wd_511 wd_46 wd_512 (by decide +kernel) ⟨rfl, rfl⟩ rfl rfl rfl dX5_twist_58 ⟨Nat.zero_le _, Nat.zero_le _⟩ ?_
          refine z_aload_n h dX5_twist_61 rfl 0 rfl ?_
          refine z_gfR h zC5 (d := 6) (c := 0) tg_0 ln_0 3 rfl ft_5_3 rf_0_3 wd_21 dX5_twist_62 ?_
          refine z_iload_n h dX5_twist_65 rfl 1 rfl ?_
          obtain ⟨v17, σ18, e18, hf⟩ := obd_out hf
          refine z_cVv h (n := 1) (c_X3_lowestTwist l G e18) zC3 tg_6 ln_6 rfl rfl wd_513 wd_514 wd_515 wd_46 wd_516 (by decide +kernel) ⟨rfl, rfl⟩ rfl rfl rfl dX5_twist_66 ⟨Nat.zero_le _, Nat.zero_le _⟩ ?_
          obtain ⟨v19, σ20, e20, hf⟩ := obd_out hf
          refine z_cV0 h (n := 2) (c_X1_put l G e20) zC1 tg_8 ln_8 rfl rfl wd_517 wd_518 wd_519 wd_25 wd_520 (by decide +kernel) ⟨rfl, rfl⟩ rfl rfl rfl dX5_twist_69 ⟨Nat.zero_le _, Nat.zero_le _⟩ ?_
          refine z_aload_n h dX5_twist_72 rfl 0 rfl ?_
          refine z_gfR h zC5 (d := 8) (c := 0) tg_0 ln_0 5 rfl ft_5_5 rf_0_5 wd_26 dX5_twist_73 ?_
          refine z_iload_n h dX5_twist_76 rfl 3 rfl ?_
          obtain ⟨v21, σ22, e22, hf⟩ := obd_out hf
          refine z_cVv h (n := 1) (c_X1_lowestTerm l G e22) zC1 tg_8 ln_8 rfl rfl wd_522 wd_523 wd_524 wd_25 wd_525 (by decide +kernel) ⟨rfl, rfl⟩ rfl rfl rfl dX5_twist_77 ⟨Nat.zero_le _, Nat.zero_le _⟩ ?_
          exact z_lret h (rt_J hf hq) dX5_twist_80
        · have hf := it_pos g14 hf
          refine z_ldc2 h (v := (-4000000000000000001 : Int64)) wd_504 dX5_twist_44 ?_
          exact z_lret h (rt_J hf hq) dX5_twist_47
    · have hf := it_neg g8 hf
      refine z_ldc2 h (v := (-4000000000000000003 : Int64)) wd_503 dX5_twist_24 ?_
      exact z_lret h (rt_J hf hq) dX5_twist_27
  · have hf := it_pos g3 hf
    refine z_ldc2 h (v := (-4000000000000000002 : Int64)) wd_502 dX5_twist_9 ?_
    exact z_lret h (rt_J hf hq) dX5_twist_12
theorem dX5_isFactored_0 : decode cX5_isFactored 0 = .ok (.iload_n 0, 1) := by decide +kernel
theorem dX5_isFactored_1 : decode cX5_isFactored 1 = .ok (.iconst 1, 1) := by decide +kernel
theorem dX5_isFactored_2 : decode cX5_isFactored 2 = .ok (.iconst 2, 1) := by decide +kernel
theorem dX5_isFactored_3 : decode cX5_isFactored 3 = .ok (.invokestatic 46, 3) := by decide +kernel
theorem dX5_isFactored_6 : decode cX5_isFactored 6 = .ok (.ireturn, 1) := by decide +kernel
abbrev rm_X5_isFactored : Room := { frames := 1, cells := 0, slots := 0, locals := 30 }
noncomputable def f_X5_isFactored (N : Nat) (x0 : Int32) (σ : ZS) : Option (Int32 × ZS) := obd (f_X5_within N x0 (1 : Int32) (2 : Int32) σ) fun v1 σ2 => ck (bb v1) (some (v1, σ2))
set_option maxHeartbeats 4000000 in
set_option maxRecDepth 100000 in
theorem c_X5_isFactored (l : Launch) (G : ZG) {N : Nat} {x0 : Int32} {σ σ' : ZS} {r : Int32} (hf : f_X5_isFactored N x0 σ = some (r, σ')) : zMet l G yX5_isFactored cX5_isFactored 1 (some .boolean) rm_X5_isFactored [.int x0] σ (some (.int r)) σ' := by
  refine z_met (by decide +kernel) rfl (fun Y h hq => ?_)
  have h : zOk (l, rm_X5_isFactored, 1, 0, 0) Y G cX5_isFactored RX5 (some .boolean) := h
  rw [f_X5_isFactored] at hf
  refine z_sub (lv' := [(0, .int x0)]) [0] rfl ?_
  refine z_iload_n h dX5_isFactored_0 rfl 0 rfl ?_
  refine z_iconst h (v := (1 : Int32)) dX5_isFactored_1 ic_1 ?_
  refine z_iconst h (v := (2 : Int32)) dX5_isFactored_2 ic_2 ?_
  obtain ⟨v1, σ2, e2, hf⟩ := obd_out hf
  refine z_cSv h (n := 3) (c_X5_within l G e2) rfl wd_133 wd_134 wd_2 wd_135 (by decide +kernel) ⟨rfl, rfl⟩ rfl rfl rfl dX5_isFactored_3 ⟨Nat.zero_le _, Nat.zero_le _⟩ ?_
  obtain ⟨g3, hf⟩ := ck_out hf
  exact z_zret h g3 (rt_I hf hq) dX5_isFactored_6
theorem dX5_bound_0 : decode cX5_bound 0 = .ok (.iload_n 2, 1) := by decide +kernel
theorem dX5_bound_1 : decode cX5_bound 1 = .ok (.invokestatic 176, 3) := by decide +kernel
theorem dX5_bound_4 : decode cX5_bound 4 = .ok (.ifCond .eq 12, 3) := by decide +kernel
theorem dX5_bound_7 : decode cX5_bound 7 = .ok (.iload_n 3, 1) := by decide +kernel
theorem dX5_bound_8 : decode cX5_bound 8 = .ok (.iconst 0, 1) := by decide +kernel
theorem dX5_bound_9 : decode cX5_bound 9 = .ok (.iconst 3, 1) := by decide +kernel
theorem dX5_bound_10 : decode cX5_bound 10 = .ok (.invokestatic 46, 3) := by decide +kernel
theorem dX5_bound_13 : decode cX5_bound 13 = .ok (.ifCond .ne 7, 3) := by decide +kernel
theorem dX5_bound_16 : decode cX5_bound 16 = .ok (.ldc2_w 152, 3) := by decide +kernel
theorem dX5_bound_19 : decode cX5_bound 19 = .ok (.lreturn, 1) := by decide +kernel
theorem dX5_bound_20 : decode cX5_bound 20 = .ok (.aload_n 0, 1) := by decide +kernel
theorem dX5_bound_21 : decode cX5_bound 21 = .ok (.invokevirtual 124, 3) := by decide +kernel
theorem dX5_bound_24 : decode cX5_bound 24 = .ok (.aload_n 0, 1) := by decide +kernel
theorem dX5_bound_25 : decode cX5_bound 25 = .ok (.invokevirtual 127, 3) := by decide +kernel
theorem dX5_bound_28 : decode cX5_bound 28 = .ok (.ifCond .eq 7, 3) := by decide +kernel
theorem dX5_bound_31 : decode cX5_bound 31 = .ok (.ldc2_w 154, 3) := by decide +kernel
theorem dX5_bound_34 : decode cX5_bound 34 = .ok (.lreturn, 1) := by decide +kernel
theorem dX5_bound_35 : decode cX5_bound 35 = .ok (.aload_n 0, 1) := by decide +kernel
theorem dX5_bound_36 : decode cX5_bound 36 = .ok (.iload_n 1, 1) := by decide +kernel
theorem dX5_bound_37 : decode cX5_bound 37 = .ok (.invokevirtual 146, 3) := by decide +kernel
theorem dX5_bound_40 : decode cX5_bound 40 = .ok (.ifCond .ne 7, 3) := by decide +kernel
theorem dX5_bound_43 : decode cX5_bound 43 = .ok (.ldc2_w 159, 3) := by decide +kernel
theorem dX5_bound_46 : decode cX5_bound 46 = .ok (.lreturn, 1) := by decide +kernel
theorem dX5_bound_47 : decode cX5_bound 47 = .ok (.aload_n 0, 1) := by decide +kernel
theorem dX5_bound_48 : decode cX5_bound 48 = .ok (.getfield 23, 3) := by decide +kernel
theorem dX5_bound_51 : decode cX5_bound 51 = .ok (.iload_n 1, 1) := by decide +kernel
theorem dX5_bound_52 : decode cX5_bound 52 = .ok (.iload_n 2, 1) := by decide +kernel
theorem dX5_bound_53 : decode cX5_bound 53 = .ok (.invokevirtual 179, 3) := by decide +kernel
theorem dX5_bound_56 : decode cX5_bound 56 = .ok (.ifCond .ne 7, 3) := by decide +kernel
theorem dX5_bound_59 : decode cX5_bound 59 = .ok (.ldc2_w 182, 3) := by decide +kernel
theorem dX5_bound_62 : decode cX5_bound 62 = .ok (.lreturn, 1) := by decide +kernel
theorem dX5_bound_63 : decode cX5_bound 63 = .ok (.aload_n 0, 1) := by decide +kernel
theorem dX5_bound_64 : decode cX5_bound 64 = .ok (.getfield 23, 3) := by decide +kernel
theorem dX5_bound_67 : decode cX5_bound 67 = .ok (.iload_n 3, 1) := by decide +kernel
theorem dX5_bound_68 : decode cX5_bound 68 = .ok (.invokevirtual 184, 3) := by decide +kernel
theorem dX5_bound_71 : decode cX5_bound 71 = .ok (.lreturn, 1) := by decide +kernel
abbrev rm_X5_bound : Room := { frames := 27, cells := 0, slots := 0, locals := 771 }
noncomputable def f_X5_bound (N : Nat) (x1 : Int32) (x2 : Int32) (x3 : Int32) (σ : ZS) : Option (Int64 × ZS) := obd (f_X5_isFactored N x2 σ) fun v1 σ2 => (if v1 = 0 then some ((-4000000000000000002 : Int64), σ2) else obd (f_X5_within N x3 (0 : Int32) (3 : Int32) σ2) fun v4 σ5 => (if v4 = 0 then some ((-4000000000000000002 : Int64), σ5) else obd (f_X5_refresh N σ5) fun _ σ8 => obd (f_X5_isLoose N σ8) fun v9 σ10 => (if v9 = 0 then obd (f_X5_isMechanism N x1 σ10) fun v12 σ13 => (if v12 = 0 then some ((-4000000000000000001 : Int64), σ13) else obd (f_X0_findBounds N x1 x2 σ13) fun v15 σ16 => (if v15 = 0 then some ((-4000000000000000005 : Int64), σ16) else obd (f_X0_extreme N x3 σ16) fun v18 σ19 => some (v18, σ19))) else some ((-4000000000000000003 : Int64), σ10))))
set_option maxHeartbeats 4000000 in
set_option maxRecDepth 100000 in
theorem c_X5_bound (l : Launch) (G : ZG) {N : Nat} {x1 : Int32} {x2 : Int32} {x3 : Int32} {σ σ' : ZS} {r : Int64} (hf : f_X5_bound N x1 x2 x3 σ = some (r, σ')) : zMet l G yX5_bound cX5_bound 4 (some .long) rm_X5_bound [.ref (G.1 0), .int x1, .int x2, .int x3] σ (some (.long r)) σ' := by
  refine z_met (by decide +kernel) rfl (fun Y h hq => ?_)
  have h : zOk (l, rm_X5_bound, 4, 0, 0) Y G cX5_bound RX5 (some .long) := h
  rw [f_X5_bound] at hf
  refine z_sub (lv' := [(0, .ref (G.1 0)), (1, .int x1), (2, .int x2), (3, .int x3)]) [0, 1, 2, 3] rfl ?_
  refine z_iload_n h dX5_bound_0 rfl 2 rfl ?_
  obtain ⟨v1, σ2, e2, hf⟩ := obd_out hf
  refine z_cSv h (n := 1) (c_X5_isFactored l G e2) rfl wd_559 wd_560 wd_2 wd_561 (by decide +kernel) ⟨rfl, rfl⟩ rfl rfl rfl dX5_bound_1 ⟨Nat.zero_le _, Nat.zero_le _⟩ ?_
  refine z_if_eq h (tgt := 16) dX5_bound_4 (by decide) (fun g3 => ?_) (fun g3 => ?_)
  · have hf := it_pos g3 hf
    refine z_ldc2 h (v := (-4000000000000000002 : Int64)) wd_502 dX5_bound_16 ?_
    exact z_lret h (rt_J hf hq) dX5_bound_19
  · have hf := it_neg g3 hf
    refine z_iload_n h dX5_bound_7 rfl 3 rfl ?_
    refine z_iconst h (v := (0 : Int32)) dX5_bound_8 ic_0 ?_
    refine z_iconst h (v := (3 : Int32)) dX5_bound_9 ic_3 ?_
    obtain ⟨v4, σ5, e5, hf⟩ := obd_out hf
    refine z_cSv h (n := 3) (c_X5_within l G e5) rfl wd_133 wd_134 wd_2 wd_135 (by decide +kernel) ⟨rfl, rfl⟩ rfl rfl rfl dX5_bound_10 ⟨Nat.zero_le _, Nat.zero_le _⟩ ?_
    refine z_if_ne h (tgt := 20) dX5_bound_13 (by decide) (fun g6 => ?_) (fun g6 => ?_)
    · have hf := it_neg g6 hf
      refine z_aload_n h dX5_bound_20 rfl 0 rfl ?_
      obtain ⟨v7, σ8, e8, hf⟩ := obd_out hf
      refine z_cV0 h (n := 0) (c_X5_refresh l G e8) zC5 tg_0 ln_0 rfl rfl wd_278 wd_279 wd_280 wd_2 wd_281 (by decide +kernel) ⟨rfl, rfl⟩ rfl rfl rfl dX5_bound_21 ⟨Nat.zero_le _, Nat.zero_le _⟩ ?_
      refine z_aload_n h dX5_bound_24 rfl 0 rfl ?_
      obtain ⟨v9, σ10, e10, hf⟩ := obd_out hf
      refine z_cVv h (n := 0) (c_X5_isLoose l G e10) zC5 tg_0 ln_0 rfl rfl wd_405 wd_406 wd_407 wd_2 wd_408 (by decide +kernel) ⟨rfl, rfl⟩ rfl rfl rfl dX5_bound_25 ⟨Nat.zero_le _, Nat.zero_le _⟩ ?_
      refine z_if_eq h (tgt := 35) dX5_bound_28 (by decide) (fun g11 => ?_) (fun g11 => ?_)
      · have hf := it_pos g11 hf
        refine z_aload_n h dX5_bound_35 rfl 0 rfl ?_
        refine z_iload_n h dX5_bound_36 rfl 1 rfl ?_
        obtain ⟨v12, σ13, e13, hf⟩ := obd_out hf
        refine z_cVv h (n := 1) (c_X5_isMechanism l G e13) zC5 tg_0 ln_0 rfl rfl wd_490 wd_491 wd_492 wd_2 wd_493 (by decide +kernel) ⟨rfl, rfl⟩ rfl rfl rfl dX5_bound_37 ⟨Nat.zero_le _, Nat.zero_le _⟩ ?_
        refine z_if_ne h (tgt := 47) dX5_bound_40 (by decide) (fun g14 => ?_) (fun g14 => ?_)
        · have hf := it_neg g14 hf
          refine z_aload_n h dX5_bound_47 rfl 0 rfl ?_
          refine z_gfR h zC5 (d := 7) (c := 0) tg_0 ln_0 4 rfl ft_5_4 rf_0_4 wd_20 dX5_bound_48 ?_
          refine z_iload_n h dX5_bound_51 rfl 1 rfl ?_
          refine z_iload_n h dX5_bound_52 rfl 2 rfl ?_
          obtain ⟨v15, σ16, e16, hf⟩ := obd_out hf
          refine z_cVv h (n := 2) (c_X0_findBounds l G e16) zC0 tg_7 ln_7 rfl rfl wd_562 wd_563 wd_564 wd_19 wd_565 (by decide +kernel) ⟨rfl, rfl⟩ rfl rfl rfl dX5_bound_53 ⟨Nat.zero_le _, Nat.zero_le _⟩ ?_
          refine z_if_ne h (tgt := 63) dX5_bound_56 (by decide) (fun g17 => ?_) (fun g17 => ?_)
          · have hf := it_neg g17 hf
            refine z_aload_n h dX5_bound_63 rfl 0 rfl ?_
            refine z_gfR h zC5 (d := 7) (c := 0) tg_0 ln_0 4 rfl ft_5_4 rf_0_4 wd_20 dX5_bound_64 ?_
            refine z_iload_n h dX5_bound_67 rfl 3 rfl ?_
            obtain ⟨v18, σ19, e19, hf⟩ := obd_out hf
            refine z_cVv h (n := 1) (c_X0_extreme l G e19) zC0 tg_7 ln_7 rfl rfl wd_568 wd_569 wd_570 wd_19 wd_571 (by decide +kernel) ⟨rfl, rfl⟩ rfl rfl rfl dX5_bound_68 ⟨Nat.zero_le _, Nat.zero_le _⟩ ?_
            exact z_lret h (rt_J hf hq) dX5_bound_71
          · have hf := it_pos g17 hf
            refine z_ldc2 h (v := (-4000000000000000005 : Int64)) wd_558 dX5_bound_59 ?_
            exact z_lret h (rt_J hf hq) dX5_bound_62
        · have hf := it_pos g14 hf
          refine z_ldc2 h (v := (-4000000000000000001 : Int64)) wd_504 dX5_bound_43 ?_
          exact z_lret h (rt_J hf hq) dX5_bound_46
      · have hf := it_neg g11 hf
        refine z_ldc2 h (v := (-4000000000000000003 : Int64)) wd_503 dX5_bound_31 ?_
        exact z_lret h (rt_J hf hq) dX5_bound_34
    · have hf := it_pos g6 hf
      refine z_ldc2 h (v := (-4000000000000000002 : Int64)) wd_502 dX5_bound_16 ?_
      exact z_lret h (rt_J hf hq) dX5_bound_19
theorem dX5_limits_0 : decode cX5_limits 0 = .ok (.iload_n 1, 1) := by decide +kernel
theorem dX5_limits_1 : decode cX5_limits 1 = .ok (.invokestatic 176, 3) := by decide +kernel
theorem dX5_limits_4 : decode cX5_limits 4 = .ok (.ifCond .ne 6, 3) := by decide +kernel
theorem dX5_limits_7 : decode cX5_limits 7 = .ok (.bipush (-2), 2) := by decide +kernel
theorem dX5_limits_9 : decode cX5_limits 9 = .ok (.ireturn, 1) := by decide +kernel
theorem dX5_limits_10 : decode cX5_limits 10 = .ok (.aload_n 0, 1) := by decide +kernel
theorem dX5_limits_11 : decode cX5_limits 11 = .ok (.invokevirtual 124, 3) := by decide +kernel
theorem dX5_limits_14 : decode cX5_limits 14 = .ok (.aload_n 0, 1) := by decide +kernel
theorem dX5_limits_15 : decode cX5_limits 15 = .ok (.invokevirtual 127, 3) := by decide +kernel
theorem dX5_limits_18 : decode cX5_limits 18 = .ok (.ifCond .eq 8, 3) := by decide +kernel
theorem dX5_limits_21 : decode cX5_limits 21 = .ok (.bipush (-3), 2) := by decide +kernel
theorem dX5_limits_23 : decode cX5_limits 23 = .ok (.goto 13, 3) := by decide +kernel
theorem dX5_limits_26 : decode cX5_limits 26 = .ok (.aload_n 0, 1) := by decide +kernel
theorem dX5_limits_27 : decode cX5_limits 27 = .ok (.getfield 23, 3) := by decide +kernel
theorem dX5_limits_30 : decode cX5_limits 30 = .ok (.iload_n 1, 1) := by decide +kernel
theorem dX5_limits_31 : decode cX5_limits 31 = .ok (.iconst 0, 1) := by decide +kernel
theorem dX5_limits_32 : decode cX5_limits 32 = .ok (.iconst 0, 1) := by decide +kernel
theorem dX5_limits_33 : decode cX5_limits 33 = .ok (.invokevirtual 187, 3) := by decide +kernel
theorem dX5_limits_36 : decode cX5_limits 36 = .ok (.ireturn, 1) := by decide +kernel
abbrev rm_X5_limits : Room := { frames := 27, cells := 0, slots := 0, locals := 771 }
noncomputable def f_X5_limits (N : Nat) (x1 : Int32) (σ : ZS) : Option (Int32 × ZS) := obd (f_X5_isFactored N x1 σ) fun v1 σ2 => (if v1 = 0 then some ((-2 : Int32), σ2) else obd (f_X5_refresh N σ2) fun _ σ5 => obd (f_X5_isLoose N σ5) fun v6 σ7 => (if v6 = 0 then obd (f_X0_range N x1 (0 : Int32) (0 : Int32) σ7) fun v9 σ10 => some (v9, σ10) else some ((-3 : Int32), σ7)))
set_option maxHeartbeats 4000000 in
set_option maxRecDepth 100000 in
theorem c_X5_limits (l : Launch) (G : ZG) {N : Nat} {x1 : Int32} {σ σ' : ZS} {r : Int32} (hf : f_X5_limits N x1 σ = some (r, σ')) : zMet l G yX5_limits cX5_limits 2 (some .int) rm_X5_limits [.ref (G.1 0), .int x1] σ (some (.int r)) σ' := by
  refine z_met (by decide +kernel) rfl (fun Y h hq => ?_)
  have h : zOk (l, rm_X5_limits, 2, 0, 0) Y G cX5_limits RX5 (some .int) := h
  rw [f_X5_limits] at hf
  refine z_sub (lv' := [(0, .ref (G.1 0)), (1, .int x1)]) [0, 1] rfl ?_
  refine z_iload_n h dX5_limits_0 rfl 1 rfl ?_
  obtain ⟨v1, σ2, e2, hf⟩ := obd_out hf
  refine z_cSv h (n := 1) (c_X5_isFactored l G e2) rfl wd_559 wd_560 wd_2 wd_561 (by decide +kernel) ⟨rfl, rfl⟩ rfl rfl rfl dX5_limits_1 ⟨Nat.zero_le _, Nat.zero_le _⟩ ?_
  refine z_if_ne h (tgt := 10) dX5_limits_4 (by decide) (fun g3 => ?_) (fun g3 => ?_)
  · have hf := it_neg g3 hf
    refine z_aload_n h dX5_limits_10 rfl 0 rfl ?_
    obtain ⟨v4, σ5, e5, hf⟩ := obd_out hf
    refine z_cV0 h (n := 0) (c_X5_refresh l G e5) zC5 tg_0 ln_0 rfl rfl wd_278 wd_279 wd_280 wd_2 wd_281 (by decide +kernel) ⟨rfl, rfl⟩ rfl rfl rfl dX5_limits_11 ⟨Nat.zero_le _, Nat.zero_le _⟩ ?_
    refine z_aload_n h dX5_limits_14 rfl 0 rfl ?_
    obtain ⟨v6, σ7, e7, hf⟩ := obd_out hf
    refine z_cVv h (n := 0) (c_X5_isLoose l G e7) zC5 tg_0 ln_0 rfl rfl wd_405 wd_406 wd_407 wd_2 wd_408 (by decide +kernel) ⟨rfl, rfl⟩ rfl rfl rfl dX5_limits_15 ⟨Nat.zero_le _, Nat.zero_le _⟩ ?_
    refine z_if_eq h (tgt := 26) dX5_limits_18 (by decide) (fun g8 => ?_) (fun g8 => ?_)
    · have hf := it_pos g8 hf
      refine z_aload_n h dX5_limits_26 rfl 0 rfl ?_
      refine z_gfR h zC5 (d := 7) (c := 0) tg_0 ln_0 4 rfl ft_5_4 rf_0_4 wd_20 dX5_limits_27 ?_
      refine z_iload_n h dX5_limits_30 rfl 1 rfl ?_
      refine z_iconst h (v := (0 : Int32)) dX5_limits_31 ic_0 ?_
      refine z_iconst h (v := (0 : Int32)) dX5_limits_32 ic_0 ?_
      obtain ⟨v9, σ10, e10, hf⟩ := obd_out hf
      refine z_cVv h (n := 3) (c_X0_range l G e10) zC0 tg_7 ln_7 rfl rfl wd_589 wd_590 wd_591 wd_19 wd_592 (by decide +kernel) ⟨rfl, rfl⟩ rfl rfl rfl dX5_limits_33 ⟨Nat.zero_le _, Nat.zero_le _⟩ ?_
      exact z_iret h (rt_I hf hq) dX5_limits_36
    · have hf := it_neg g8 hf
      refine z_bipush h (v := (-3 : Int32)) dX5_limits_21 bp_m3 ?_
      refine z_goto h (tgt := 36) dX5_limits_23 (by decide) ?_
      exact z_iret h (rt_I hf hq) dX5_limits_36
  · have hf := it_pos g3 hf
    refine z_bipush h (v := (-2 : Int32)) dX5_limits_7 bp_m2 ?_
    exact z_iret h (rt_I hf hq) dX5_limits_9
theorem dX5_limitError_0 : decode cX5_limitError 0 = .ok (.iload_n 1, 1) := by decide +kernel
theorem dX5_limitError_1 : decode cX5_limitError 1 = .ok (.invokestatic 176, 3) := by decide +kernel
theorem dX5_limitError_4 : decode cX5_limitError 4 = .ok (.ifCond .eq 12, 3) := by decide +kernel
theorem dX5_limitError_7 : decode cX5_limitError 7 = .ok (.iload_n 2, 1) := by decide +kernel
theorem dX5_limitError_8 : decode cX5_limitError 8 = .ok (.iconst 0, 1) := by decide +kernel
theorem dX5_limitError_9 : decode cX5_limitError 9 = .ok (.iconst 1, 1) := by decide +kernel
theorem dX5_limitError_10 : decode cX5_limitError 10 = .ok (.invokestatic 46, 3) := by decide +kernel
theorem dX5_limitError_13 : decode cX5_limitError 13 = .ok (.ifCond .ne 6, 3) := by decide +kernel
theorem dX5_limitError_16 : decode cX5_limitError 16 = .ok (.bipush (-2), 2) := by decide +kernel
theorem dX5_limitError_18 : decode cX5_limitError 18 = .ok (.ireturn, 1) := by decide +kernel
theorem dX5_limitError_19 : decode cX5_limitError 19 = .ok (.aload_n 0, 1) := by decide +kernel
theorem dX5_limitError_20 : decode cX5_limitError 20 = .ok (.invokevirtual 127, 3) := by decide +kernel
theorem dX5_limitError_23 : decode cX5_limitError 23 = .ok (.ifCond .eq 6, 3) := by decide +kernel
theorem dX5_limitError_26 : decode cX5_limitError 26 = .ok (.bipush (-3), 2) := by decide +kernel
theorem dX5_limitError_28 : decode cX5_limitError 28 = .ok (.ireturn, 1) := by decide +kernel
theorem dX5_limitError_29 : decode cX5_limitError 29 = .ok (.aload_n 0, 1) := by decide +kernel
theorem dX5_limitError_30 : decode cX5_limitError 30 = .ok (.getfield 23, 3) := by decide +kernel
theorem dX5_limitError_33 : decode cX5_limitError 33 = .ok (.iload_n 1, 1) := by decide +kernel
theorem dX5_limitError_34 : decode cX5_limitError 34 = .ok (.iconst 0, 1) := by decide +kernel
theorem dX5_limitError_35 : decode cX5_limitError 35 = .ok (.iconst 0, 1) := by decide +kernel
theorem dX5_limitError_36 : decode cX5_limitError 36 = .ok (.invokevirtual 187, 3) := by decide +kernel
theorem dX5_limitError_39 : decode cX5_limitError 39 = .ok (.ifCond .ne 7, 3) := by decide +kernel
theorem dX5_limitError_42 : decode cX5_limitError 42 = .ok (.iconst 0, 1) := by decide +kernel
theorem dX5_limitError_43 : decode cX5_limitError 43 = .ok (.goto 5, 3) := by decide +kernel
theorem dX5_limitError_46 : decode cX5_limitError 46 = .ok (.bipush (-5), 2) := by decide +kernel
theorem dX5_limitError_48 : decode cX5_limitError 48 = .ok (.ireturn, 1) := by decide +kernel
abbrev rm_X5_limitError : Room := { frames := 4, cells := 0, slots := 0, locals := 151 }
noncomputable def f_X5_limitError (N : Nat) (x1 : Int32) (x2 : Int32) (σ : ZS) : Option (Int32 × ZS) := obd (f_X5_isFactored N x1 σ) fun v1 σ2 => (if v1 = 0 then some ((-2 : Int32), σ2) else obd (f_X5_within N x2 (0 : Int32) (1 : Int32) σ2) fun v4 σ5 => (if v4 = 0 then some ((-2 : Int32), σ5) else obd (f_X5_isLoose N σ5) fun v7 σ8 => (if v7 = 0 then obd (f_X0_range N x1 (0 : Int32) (0 : Int32) σ8) fun v10 σ11 => (if v10 = 0 then some ((0 : Int32), σ11) else some ((-5 : Int32), σ11)) else some ((-3 : Int32), σ8))))
set_option maxHeartbeats 4000000 in
set_option maxRecDepth 100000 in
theorem c_X5_limitError (l : Launch) (G : ZG) {N : Nat} {x1 : Int32} {x2 : Int32} {σ σ' : ZS} {r : Int32} (hf : f_X5_limitError N x1 x2 σ = some (r, σ')) : zMet l G yX5_limitError cX5_limitError 3 (some .int) rm_X5_limitError [.ref (G.1 0), .int x1, .int x2] σ (some (.int r)) σ' := by
  refine z_met (by decide +kernel) rfl (fun Y h hq => ?_)
  have h : zOk (l, rm_X5_limitError, 3, 0, 0) Y G cX5_limitError RX5 (some .int) := h
  rw [f_X5_limitError] at hf
  refine z_sub (lv' := [(0, .ref (G.1 0)), (1, .int x1), (2, .int x2)]) [0, 1, 2] rfl ?_
  refine z_iload_n h dX5_limitError_0 rfl 1 rfl ?_
  obtain ⟨v1, σ2, e2, hf⟩ := obd_out hf
  refine z_cSv h (n := 1) (c_X5_isFactored l G e2) rfl wd_559 wd_560 wd_2 wd_561 (by decide +kernel) ⟨rfl, rfl⟩ rfl rfl rfl dX5_limitError_1 ⟨Nat.zero_le _, Nat.zero_le _⟩ ?_
  refine z_if_eq h (tgt := 16) dX5_limitError_4 (by decide) (fun g3 => ?_) (fun g3 => ?_)
  · have hf := it_pos g3 hf
    refine z_bipush h (v := (-2 : Int32)) dX5_limitError_16 bp_m2 ?_
    exact z_iret h (rt_I hf hq) dX5_limitError_18
  · have hf := it_neg g3 hf
    refine z_iload_n h dX5_limitError_7 rfl 2 rfl ?_
    refine z_iconst h (v := (0 : Int32)) dX5_limitError_8 ic_0 ?_
    refine z_iconst h (v := (1 : Int32)) dX5_limitError_9 ic_1 ?_
    obtain ⟨v4, σ5, e5, hf⟩ := obd_out hf
    refine z_cSv h (n := 3) (c_X5_within l G e5) rfl wd_133 wd_134 wd_2 wd_135 (by decide +kernel) ⟨rfl, rfl⟩ rfl rfl rfl dX5_limitError_10 ⟨Nat.zero_le _, Nat.zero_le _⟩ ?_
    refine z_if_ne h (tgt := 19) dX5_limitError_13 (by decide) (fun g6 => ?_) (fun g6 => ?_)
    · have hf := it_neg g6 hf
      refine z_aload_n h dX5_limitError_19 rfl 0 rfl ?_
      obtain ⟨v7, σ8, e8, hf⟩ := obd_out hf
      refine z_cVv h (n := 0) (c_X5_isLoose l G e8) zC5 tg_0 ln_0 rfl rfl wd_405 wd_406 wd_407 wd_2 wd_408 (by decide +kernel) ⟨rfl, rfl⟩ rfl rfl rfl dX5_limitError_20 ⟨Nat.zero_le _, Nat.zero_le _⟩ ?_
      refine z_if_eq h (tgt := 29) dX5_limitError_23 (by decide) (fun g9 => ?_) (fun g9 => ?_)
      · have hf := it_pos g9 hf
        refine z_aload_n h dX5_limitError_29 rfl 0 rfl ?_
        refine z_gfR h zC5 (d := 7) (c := 0) tg_0 ln_0 4 rfl ft_5_4 rf_0_4 wd_20 dX5_limitError_30 ?_
        refine z_iload_n h dX5_limitError_33 rfl 1 rfl ?_
        refine z_iconst h (v := (0 : Int32)) dX5_limitError_34 ic_0 ?_
        refine z_iconst h (v := (0 : Int32)) dX5_limitError_35 ic_0 ?_
        obtain ⟨v10, σ11, e11, hf⟩ := obd_out hf
        refine z_cVv h (n := 3) (c_X0_range l G e11) zC0 tg_7 ln_7 rfl rfl wd_589 wd_590 wd_591 wd_19 wd_592 (by decide +kernel) ⟨rfl, rfl⟩ rfl rfl rfl dX5_limitError_36 ⟨Nat.zero_le _, Nat.zero_le _⟩ ?_
        refine z_if_ne h (tgt := 46) dX5_limitError_39 (by decide) (fun g12 => ?_) (fun g12 => ?_)
        · have hf := it_neg g12 hf
          refine z_bipush h (v := (-5 : Int32)) dX5_limitError_46 bp_m5 ?_
          exact z_iret h (rt_I hf hq) dX5_limitError_48
        · have hf := it_pos g12 hf
          refine z_iconst h (v := (0 : Int32)) dX5_limitError_42 ic_0 ?_
          refine z_goto h (tgt := 48) dX5_limitError_43 (by decide) ?_
          exact z_iret h (rt_I hf hq) dX5_limitError_48
      · have hf := it_neg g9 hf
        refine z_bipush h (v := (-3 : Int32)) dX5_limitError_26 bp_m3 ?_
        exact z_iret h (rt_I hf hq) dX5_limitError_28
    · have hf := it_pos g6 hf
      refine z_bipush h (v := (-2 : Int32)) dX5_limitError_16 bp_m2 ?_
      exact z_iret h (rt_I hf hq) dX5_limitError_18
theorem dX5_factor_0 : decode cX5_factor 0 = .ok (.aload_n 0, 1) := by decide +kernel
theorem dX5_factor_1 : decode cX5_factor 1 = .ok (.invokevirtual 124, 3) := by decide +kernel
theorem dX5_factor_4 : decode cX5_factor 4 = .ok (.iload_n 3, 1) := by decide +kernel
theorem dX5_factor_5 : decode cX5_factor 5 = .ok (.iconst 0, 1) := by decide +kernel
theorem dX5_factor_6 : decode cX5_factor 6 = .ok (.iconst 1, 1) := by decide +kernel
theorem dX5_factor_7 : decode cX5_factor 7 = .ok (.invokestatic 46, 3) := by decide +kernel
theorem dX5_factor_10 : decode cX5_factor 10 = .ok (.ifCond .eq 12, 3) := by decide +kernel
theorem dX5_factor_13 : decode cX5_factor 13 = .ok (.aload_n 0, 1) := by decide +kernel
theorem dX5_factor_14 : decode cX5_factor 14 = .ok (.iload_n 1, 1) := by decide +kernel
theorem dX5_factor_15 : decode cX5_factor 15 = .ok (.iload_n 2, 1) := by decide +kernel
theorem dX5_factor_16 : decode cX5_factor 16 = .ok (.invokevirtual 190, 3) := by decide +kernel
theorem dX5_factor_19 : decode cX5_factor 19 = .ok (.goto 5, 3) := by decide +kernel
theorem dX5_factor_22 : decode cX5_factor 22 = .ok (.bipush (-2), 2) := by decide +kernel
theorem dX5_factor_24 : decode cX5_factor 24 = .ok (.istore 4, 2) := by decide +kernel
theorem dX5_factor_26 : decode cX5_factor 26 = .ok (.iload 4, 2) := by decide +kernel
theorem dX5_factor_28 : decode cX5_factor 28 = .ok (.ifCond .eq 11, 3) := by decide +kernel
theorem dX5_factor_31 : decode cX5_factor 31 = .ok (.ldc2_w 194, 3) := by decide +kernel
theorem dX5_factor_34 : decode cX5_factor 34 = .ok (.iload 4, 2) := by decide +kernel
theorem dX5_factor_36 : decode cX5_factor 36 = .ok (.i2l, 1) := by decide +kernel
theorem dX5_factor_37 : decode cX5_factor 37 = .ok (.ladd, 1) := by decide +kernel
theorem dX5_factor_38 : decode cX5_factor 38 = .ok (.lreturn, 1) := by decide +kernel
theorem dX5_factor_39 : decode cX5_factor 39 = .ok (.aload_n 0, 1) := by decide +kernel
theorem dX5_factor_40 : decode cX5_factor 40 = .ok (.getfield 23, 3) := by decide +kernel
theorem dX5_factor_43 : decode cX5_factor 43 = .ok (.iload_n 2, 1) := by decide +kernel
theorem dX5_factor_44 : decode cX5_factor 44 = .ok (.invokevirtual 196, 3) := by decide +kernel
theorem dX5_factor_47 : decode cX5_factor 47 = .ok (.iload_n 3, 1) := by decide +kernel
theorem dX5_factor_48 : decode cX5_factor 48 = .ok (.invokevirtual 173, 3) := by decide +kernel
theorem dX5_factor_51 : decode cX5_factor 51 = .ok (.lreturn, 1) := by decide +kernel
abbrev rm_X5_factor : Room := { frames := 27, cells := 0, slots := 0, locals := 771 }
noncomputable def f_X5_factor_b24 (N : Nat) (x2 : Int32) (x3 : Int32) (s0 : Int32) (σ : ZS) : Option (Int64 × ZS) := (if s0 = 0 then obd (f_X0_limit N x2 σ) fun v7 σ8 => ck (isc v7 1) (obd (f_X1_lowestTerm N v7 x3 σ8) fun v10 σ11 => some (v10, σ11)) else some ((-4000000000000000000 : Int64) + (s0.toInt64), σ))
noncomputable def f_X5_factor (N : Nat) (x1 : Int32) (x2 : Int32) (x3 : Int32) (σ : ZS) : Option (Int64 × ZS) := obd (f_X5_refresh N σ) fun _ σ2 => obd (f_X5_within N x3 (0 : Int32) (1 : Int32) σ2) fun v3 σ4 => (if v3 = 0 then f_X5_factor_b24 N x2 x3 (-2 : Int32) σ4 else obd (f_X5_limitError N x1 x2 σ4) fun v12 σ13 => f_X5_factor_b24 N x2 x3 v12 σ13)
set_option maxHeartbeats 4000000 in
set_option maxRecDepth 100000 in
theorem k_X5_factor_b24 {l : Launch} {Y : ZY} {G : ZG} {r : Int64} {σ' : ZS} (h : zOk (l, rm_X5_factor, 5, 0, 0) Y G cX5_factor RX5 (some .long)) (hq : zRet (l, rm_X5_factor, 5, 0, 0) Y G (some (.long r)) σ') (N : Nat) (x2 : Int32) (x3 : Int32) (s0 : Int32) (σ : ZS) (hf : f_X5_factor_b24 N x2 x3 s0 σ = some (r, σ')) : Z (l, rm_X5_factor, 5, 0, 0) Y G σ [(0, .ref (G.1 0)), (2, .int x2), (3, .int x3)] [.int s0] 24 := by
  rw [f_X5_factor_b24] at hf
  refine z_istore h dX5_factor_24 (lv' := [(4, .int s0), (0, .ref (G.1 0)), (2, .int x2), (3, .int x3)]) rfl rfl ?_
  refine z_iload h dX5_factor_26 0 rfl ?_
  refine z_if_eq h (tgt := 39) dX5_factor_28 (by decide) (fun g6 => ?_) (fun g6 => ?_)
  · have hf := it_pos g6 hf
    refine z_aload_n h dX5_factor_39 rfl 1 rfl ?_
    refine z_gfR h zC5 (d := 7) (c := 0) tg_0 ln_0 4 rfl ft_5_4 rf_0_4 wd_20 dX5_factor_40 ?_
    refine z_iload_n h dX5_factor_43 rfl 2 rfl ?_
    obtain ⟨v7, σ8, e8, hf⟩ := obd_out hf
    refine z_cVv h (n := 1) (c_X0_limit l G e8) zC0 tg_7 ln_7 rfl rfl wd_697 wd_573 wd_574 wd_19 wd_575 (by decide +kernel) ⟨rfl, rfl⟩ rfl rfl rfl dX5_factor_44 ⟨Nat.zero_le _, Nat.zero_le _⟩ ?_
    refine z_iload_n h dX5_factor_47 rfl 3 rfl ?_
    obtain ⟨g9, hf⟩ := ck_out hf
    obtain ⟨v10, σ11, e11, hf⟩ := obd_out hf
    refine z_cVv h (n := 1) (c_X1_lowestTerm l G e11) zC1 (isc_tg g9) (isc_ln g9) rfl rfl wd_522 wd_523 wd_524 wd_25 wd_525 (by decide +kernel) ⟨rfl, rfl⟩ rfl rfl rfl dX5_factor_48 ⟨Nat.zero_le _, Nat.zero_le _⟩ ?_
    exact z_lret h (rt_J hf hq) dX5_factor_51
  · have hf := it_neg g6 hf
    refine z_ldc2 h (v := (-4000000000000000000 : Int64)) wd_692 dX5_factor_31 ?_
    refine z_iload h dX5_factor_34 0 rfl ?_
    refine z_i2l h dX5_factor_36 ?_
    refine z_ladd h dX5_factor_37 ?_
    exact z_lret h (rt_J hf hq) dX5_factor_38
set_option maxHeartbeats 4000000 in
set_option maxRecDepth 100000 in
theorem c_X5_factor (l : Launch) (G : ZG) {N : Nat} {x1 : Int32} {x2 : Int32} {x3 : Int32} {σ σ' : ZS} {r : Int64} (hf : f_X5_factor N x1 x2 x3 σ = some (r, σ')) : zMet l G yX5_factor cX5_factor 5 (some .long) rm_X5_factor [.ref (G.1 0), .int x1, .int x2, .int x3] σ (some (.long r)) σ' := by
  refine z_met (by decide +kernel) rfl (fun Y h hq => ?_)
  have h : zOk (l, rm_X5_factor, 5, 0, 0) Y G cX5_factor RX5 (some .long) := h
  rw [f_X5_factor] at hf
  refine z_sub (lv' := [(0, .ref (G.1 0)), (1, .int x1), (2, .int x2), (3, .int x3)]) [0, 1, 2, 3] rfl ?_
  refine z_aload_n h dX5_factor_0 rfl 0 rfl ?_
  obtain ⟨v1, σ2, e2, hf⟩ := obd_out hf
  refine z_cV0 h (n := 0) (c_X5_refresh l G e2) zC5 tg_0 ln_0 rfl rfl wd_278 wd_279 wd_280 wd_2 wd_281 (by decide +kernel) ⟨rfl, rfl⟩ rfl rfl rfl dX5_factor_1 ⟨Nat.zero_le _, Nat.zero_le _⟩ ?_
  refine z_iload_n h dX5_factor_4 rfl 3 rfl ?_
  refine z_iconst h (v := (0 : Int32)) dX5_factor_5 ic_0 ?_
  refine z_iconst h (v := (1 : Int32)) dX5_factor_6 ic_1 ?_
  obtain ⟨v3, σ4, e4, hf⟩ := obd_out hf
  refine z_cSv h (n := 3) (c_X5_within l G e4) rfl wd_133 wd_134 wd_2 wd_135 (by decide +kernel) ⟨rfl, rfl⟩ rfl rfl rfl dX5_factor_7 ⟨Nat.zero_le _, Nat.zero_le _⟩ ?_
  refine z_if_eq h (tgt := 22) dX5_factor_10 (by decide) (fun g5 => ?_) (fun g5 => ?_)
  · have hf := it_pos g5 hf
    refine z_bipush h (v := (-2 : Int32)) dX5_factor_22 bp_m2 ?_
    exact z_sub [0, 2, 3] rfl (k_X5_factor_b24 h hq N x2 x3 (-2 : Int32) _ hf)
  · have hf := it_neg g5 hf
    refine z_aload_n h dX5_factor_13 rfl 0 rfl ?_
    refine z_iload_n h dX5_factor_14 rfl 1 rfl ?_
    refine z_iload_n h dX5_factor_15 rfl 2 rfl ?_
    obtain ⟨v12, σ13, e13, hf⟩ := obd_out hf
    refine z_cVv h (n := 2) (c_X5_limitError l G e13) zC5 tg_0 ln_0 rfl rfl wd_693 wd_694 wd_695 wd_2 wd_696 (by decide +kernel) ⟨rfl, rfl⟩ rfl rfl rfl dX5_factor_16 ⟨Nat.zero_le _, Nat.zero_le _⟩ ?_
    refine z_goto h (tgt := 24) dX5_factor_19 (by decide) ?_
    exact z_sub [0, 2, 3] rfl (k_X5_factor_b24 h hq N x2 x3 v12 _ hf)
theorem dX5_bitsOf_0 : decode cX5_bitsOf 0 = .ok (.fload_n 0, 1) := by decide +kernel
theorem dX5_bitsOf_1 : decode cX5_bitsOf 1 = .ok (.fconst 0, 1) := by decide +kernel
theorem dX5_bitsOf_2 : decode cX5_bitsOf 2 = .ok (.fcmp .g, 1) := by decide +kernel
theorem dX5_bitsOf_3 : decode cX5_bitsOf 3 = .ok (.ifCond .ge 8, 3) := by decide +kernel
theorem dX5_bitsOf_6 : decode cX5_bitsOf 6 = .ok (.fload_n 0, 1) := by decide +kernel
theorem dX5_bitsOf_7 : decode cX5_bitsOf 7 = .ok (.fneg, 1) := by decide +kernel
theorem dX5_bitsOf_8 : decode cX5_bitsOf 8 = .ok (.goto 4, 3) := by decide +kernel
theorem dX5_bitsOf_11 : decode cX5_bitsOf 11 = .ok (.fload_n 0, 1) := by decide +kernel
theorem dX5_bitsOf_12 : decode cX5_bitsOf 12 = .ok (.fstore_n 1, 1) := by decide +kernel
theorem dX5_bitsOf_13 : decode cX5_bitsOf 13 = .ok (.fload_n 1, 1) := by decide +kernel
theorem dX5_bitsOf_14 : decode cX5_bitsOf 14 = .ok (.fconst 0, 1) := by decide +kernel
theorem dX5_bitsOf_15 : decode cX5_bitsOf 15 = .ok (.fcmp .l, 1) := by decide +kernel
theorem dX5_bitsOf_16 : decode cX5_bitsOf 16 = .ok (.ifCond .gt 5, 3) := by decide +kernel
theorem dX5_bitsOf_19 : decode cX5_bitsOf 19 = .ok (.iconst 0, 1) := by decide +kernel
theorem dX5_bitsOf_20 : decode cX5_bitsOf 20 = .ok (.ireturn, 1) := by decide +kernel
theorem dX5_bitsOf_21 : decode cX5_bitsOf 21 = .ok (.bipush 127, 2) := by decide +kernel
theorem dX5_bitsOf_23 : decode cX5_bitsOf 23 = .ok (.istore_n 2, 1) := by decide +kernel
theorem dX5_bitsOf_24 : decode cX5_bitsOf 24 = .ok (.iconst 0, 1) := by decide +kernel
theorem dX5_bitsOf_25 : decode cX5_bitsOf 25 = .ok (.istore_n 3, 1) := by decide +kernel
theorem dX5_bitsOf_26 : decode cX5_bitsOf 26 = .ok (.iload_n 3, 1) := by decide +kernel
theorem dX5_bitsOf_27 : decode cX5_bitsOf 27 = .ok (.bipush 127, 2) := by decide +kernel
theorem dX5_bitsOf_29 : decode cX5_bitsOf 29 = .ok (.if_icmp .ge 22, 3) := by decide +kernel
theorem dX5_bitsOf_32 : decode cX5_bitsOf 32 = .ok (.fload_n 1, 1) := by decide +kernel
theorem dX5_bitsOf_33 : decode cX5_bitsOf 33 = .ok (.fconst 2, 1) := by decide +kernel
theorem dX5_bitsOf_34 : decode cX5_bitsOf 34 = .ok (.fcmp .l, 1) := by decide +kernel
theorem dX5_bitsOf_35 : decode cX5_bitsOf 35 = .ok (.ifCond .lt 16, 3) := by decide +kernel
theorem dX5_bitsOf_38 : decode cX5_bitsOf 38 = .ok (.fload_n 1, 1) := by decide +kernel
theorem dX5_bitsOf_39 : decode cX5_bitsOf 39 = .ok (.fconst 2, 1) := by decide +kernel
theorem dX5_bitsOf_40 : decode cX5_bitsOf 40 = .ok (.fdiv, 1) := by decide +kernel
theorem dX5_bitsOf_41 : decode cX5_bitsOf 41 = .ok (.fstore_n 1, 1) := by decide +kernel
theorem dX5_bitsOf_42 : decode cX5_bitsOf 42 = .ok (.iinc 2 1, 3) := by decide +kernel
theorem dX5_bitsOf_45 : decode cX5_bitsOf 45 = .ok (.iinc 3 1, 3) := by decide +kernel
theorem dX5_bitsOf_48 : decode cX5_bitsOf 48 = .ok (.goto (-22), 3) := by decide +kernel
theorem dX5_bitsOf_51 : decode cX5_bitsOf 51 = .ok (.iconst 0, 1) := by decide +kernel
theorem dX5_bitsOf_52 : decode cX5_bitsOf 52 = .ok (.istore_n 3, 1) := by decide +kernel
theorem dX5_bitsOf_53 : decode cX5_bitsOf 53 = .ok (.iload_n 3, 1) := by decide +kernel
theorem dX5_bitsOf_54 : decode cX5_bitsOf 54 = .ok (.bipush 126, 2) := by decide +kernel
theorem dX5_bitsOf_56 : decode cX5_bitsOf 56 = .ok (.if_icmp .ge 22, 3) := by decide +kernel
theorem dX5_bitsOf_59 : decode cX5_bitsOf 59 = .ok (.fload_n 1, 1) := by decide +kernel
theorem dX5_bitsOf_60 : decode cX5_bitsOf 60 = .ok (.fconst 1, 1) := by decide +kernel
theorem dX5_bitsOf_61 : decode cX5_bitsOf 61 = .ok (.fcmp .g, 1) := by decide +kernel
theorem dX5_bitsOf_62 : decode cX5_bitsOf 62 = .ok (.ifCond .ge 16, 3) := by decide +kernel
theorem dX5_bitsOf_65 : decode cX5_bitsOf 65 = .ok (.fload_n 1, 1) := by decide +kernel
theorem dX5_bitsOf_66 : decode cX5_bitsOf 66 = .ok (.fconst 2, 1) := by decide +kernel
theorem dX5_bitsOf_67 : decode cX5_bitsOf 67 = .ok (.fmul, 1) := by decide +kernel
theorem dX5_bitsOf_68 : decode cX5_bitsOf 68 = .ok (.fstore_n 1, 1) := by decide +kernel
theorem dX5_bitsOf_69 : decode cX5_bitsOf 69 = .ok (.iinc 2 (-1), 3) := by decide +kernel
theorem dX5_bitsOf_72 : decode cX5_bitsOf 72 = .ok (.iinc 3 1, 3) := by decide +kernel
theorem dX5_bitsOf_75 : decode cX5_bitsOf 75 = .ok (.goto (-22), 3) := by decide +kernel
theorem dX5_bitsOf_78 : decode cX5_bitsOf 78 = .ok (.fload_n 1, 1) := by decide +kernel
theorem dX5_bitsOf_79 : decode cX5_bitsOf 79 = .ok (.fconst 1, 1) := by decide +kernel
theorem dX5_bitsOf_80 : decode cX5_bitsOf 80 = .ok (.fsub, 1) := by decide +kernel
theorem dX5_bitsOf_81 : decode cX5_bitsOf 81 = .ok (.ldc_w 256, 3) := by decide +kernel
theorem dX5_bitsOf_84 : decode cX5_bitsOf 84 = .ok (.fmul, 1) := by decide +kernel
theorem dX5_bitsOf_85 : decode cX5_bitsOf 85 = .ok (.f2i, 1) := by decide +kernel
theorem dX5_bitsOf_86 : decode cX5_bitsOf 86 = .ok (.istore_n 3, 1) := by decide +kernel
theorem dX5_bitsOf_87 : decode cX5_bitsOf 87 = .ok (.fload_n 0, 1) := by decide +kernel
theorem dX5_bitsOf_88 : decode cX5_bitsOf 88 = .ok (.fconst 0, 1) := by decide +kernel
theorem dX5_bitsOf_89 : decode cX5_bitsOf 89 = .ok (.fcmp .g, 1) := by decide +kernel
theorem dX5_bitsOf_90 : decode cX5_bitsOf 90 = .ok (.ifCond .ge 9, 3) := by decide +kernel
theorem dX5_bitsOf_93 : decode cX5_bitsOf 93 = .ok (.ldc_w 257, 3) := by decide +kernel
theorem dX5_bitsOf_96 : decode cX5_bitsOf 96 = .ok (.goto 4, 3) := by decide +kernel
theorem dX5_bitsOf_99 : decode cX5_bitsOf 99 = .ok (.iconst 0, 1) := by decide +kernel
theorem dX5_bitsOf_100 : decode cX5_bitsOf 100 = .ok (.iload_n 2, 1) := by decide +kernel
theorem dX5_bitsOf_101 : decode cX5_bitsOf 101 = .ok (.bipush 23, 2) := by decide +kernel
theorem dX5_bitsOf_103 : decode cX5_bitsOf 103 = .ok (.ishl, 1) := by decide +kernel
theorem dX5_bitsOf_104 : decode cX5_bitsOf 104 = .ok (.ior, 1) := by decide +kernel
theorem dX5_bitsOf_105 : decode cX5_bitsOf 105 = .ok (.iload_n 3, 1) := by decide +kernel
theorem dX5_bitsOf_106 : decode cX5_bitsOf 106 = .ok (.ior, 1) := by decide +kernel
theorem dX5_bitsOf_107 : decode cX5_bitsOf 107 = .ok (.ireturn, 1) := by decide +kernel
abbrev rm_X5_bitsOf : Room := { frames := 0, cells := 0, slots := 0, locals := 0 }
noncomputable def f_X5_bitsOf_b100 (N : Nat) (x2 : Int32) (x3 : Int32) (s0 : Int32) (σ : ZS) : Option (Int32 × ZS) := some ((s0 ||| (x2 <<< ((23 : Int32) &&& 31))) ||| x3, σ)
noncomputable def f_X5_bitsOf_b78 (N : Nat) (x0 : UInt32) (x1 : UInt32) (x2 : Int32) (σ : ZS) : Option (Int32 × ZS) := ck (nn32 (FP.fsub x1 (FP.fconst1))) (ck (nn32 (FP.fmul (FP.fsub x1 (FP.fconst1)) (1258291200 : UInt32))) (bd (FP.f2i (FP.fmul (FP.fsub x1 (FP.fconst1)) (1258291200 : UInt32))) fun v7 => (if 0 ≤ (Op.cmpValue (FP.fcmp x0 (FP.fconst0)) .g) then f_X5_bitsOf_b100 N x2 v7 (0 : Int32) σ else f_X5_bitsOf_b100 N x2 v7 (-2147483648 : Int32) σ)))
noncomputable def f_X5_bitsOf_h53 (N : Nat) (x0 : UInt32) : Nat → UInt32 → Int32 → Int32 → ZS → Option (Int32 × ZS)
  | 0, _, _, _, _ => none
  | n + 1, x1, x2, x3, σ => (if (126 : Int32) ≤ x3 then f_X5_bitsOf_b78 N x0 x1 x2 σ else (if 0 ≤ (Op.cmpValue (FP.fcmp x1 (FP.fconst1)) .g) then f_X5_bitsOf_b78 N x0 x1 x2 σ else ck (nn32 (FP.fmul x1 (FP.fconst2))) (bd (FP.fmul x1 (FP.fconst2)) fun v11 => bd (x2 + (-1 : Int32)) fun v12 => bd (x3 + (1 : Int32)) fun v13 => f_X5_bitsOf_h53 N x0 n v11 v12 v13 σ)))
noncomputable def f_X5_bitsOf_b51 (N : Nat) (x0 : UInt32) (x1 : UInt32) (x2 : Int32) (σ : ZS) : Option (Int32 × ZS) := f_X5_bitsOf_h53 N x0 N x1 x2 (0 : Int32) σ
noncomputable def f_X5_bitsOf_h26 (N : Nat) (x0 : UInt32) : Nat → UInt32 → Int32 → Int32 → ZS → Option (Int32 × ZS)
  | 0, _, _, _, _ => none
  | n + 1, x1, x2, x3, σ => (if (127 : Int32) ≤ x3 then f_X5_bitsOf_b51 N x0 x1 x2 σ else (if (Op.cmpValue (FP.fcmp x1 (FP.fconst2)) .l) < 0 then f_X5_bitsOf_b51 N x0 x1 x2 σ else ck (nn32 (FP.fdiv x1 (FP.fconst2))) (bd (FP.fdiv x1 (FP.fconst2)) fun v16 => bd (x2 + (1 : Int32)) fun v17 => bd (x3 + (1 : Int32)) fun v18 => f_X5_bitsOf_h26 N x0 n v16 v17 v18 σ)))
noncomputable def f_X5_bitsOf_b12 (N : Nat) (x0 : UInt32) (s0 : UInt32) (σ : ZS) : Option (Int32 × ZS) := (if 0 < (Op.cmpValue (FP.fcmp s0 (FP.fconst0)) .l) then f_X5_bitsOf_h26 N x0 N s0 (127 : Int32) (0 : Int32) σ else some ((0 : Int32), σ))
noncomputable def f_X5_bitsOf (N : Nat) (x0 : UInt32) (σ : ZS) : Option (Int32 × ZS) := (if 0 ≤ (Op.cmpValue (FP.fcmp x0 (FP.fconst0)) .g) then f_X5_bitsOf_b12 N x0 x0 σ else f_X5_bitsOf_b12 N x0 (FP.fneg x0) σ)
set_option maxHeartbeats 4000000 in
set_option maxRecDepth 100000 in
theorem k_X5_bitsOf_b100 {l : Launch} {Y : ZY} {G : ZG} {r : Int32} {σ' : ZS} (h : zOk (l, rm_X5_bitsOf, 4, 0, 0) Y G cX5_bitsOf RX5 (some .int)) (hq : zRet (l, rm_X5_bitsOf, 4, 0, 0) Y G (some (.int r)) σ') (N : Nat) (x2 : Int32) (x3 : Int32) (s0 : Int32) (σ : ZS) (hf : f_X5_bitsOf_b100 N x2 x3 s0 σ = some (r, σ')) : Z (l, rm_X5_bitsOf, 4, 0, 0) Y G σ [(2, .int x2), (3, .int x3)] [.int s0] 100 := by
  rw [f_X5_bitsOf_b100] at hf
  refine z_iload_n h dX5_bitsOf_100 rfl 0 rfl ?_
  refine z_bipush h (v := (23 : Int32)) dX5_bitsOf_101 bp_23 ?_
  refine z_ishl h dX5_bitsOf_103 ?_
  refine z_ior h dX5_bitsOf_104 ?_
  refine z_iload_n h dX5_bitsOf_105 rfl 1 rfl ?_
  refine z_ior h dX5_bitsOf_106 ?_
  exact z_iret h (rt_I hf hq) dX5_bitsOf_107
set_option maxHeartbeats 4000000 in
set_option maxRecDepth 100000 in
theorem k_X5_bitsOf_b78 {l : Launch} {Y : ZY} {G : ZG} {r : Int32} {σ' : ZS} (h : zOk (l, rm_X5_bitsOf, 4, 0, 0) Y G cX5_bitsOf RX5 (some .int)) (hq : zRet (l, rm_X5_bitsOf, 4, 0, 0) Y G (some (.int r)) σ') (N : Nat) (x0 : UInt32) (x1 : UInt32) (x2 : Int32) (σ : ZS) (hf : f_X5_bitsOf_b78 N x0 x1 x2 σ = some (r, σ')) : Z (l, rm_X5_bitsOf, 4, 0, 0) Y G σ [(0, .float x0), (1, .float x1), (2, .int x2)] [] 78 := by
  rw [f_X5_bitsOf_b78] at hf
  refine z_fload_n h dX5_bitsOf_78 rfl 1 rfl ?_
  refine z_fconst1 h dX5_bitsOf_79 ?_
  obtain ⟨g5, hf⟩ := ck_out hf
  refine z_fsub h dX5_bitsOf_80 g5 ?_
  refine z_ldcfw h (v := (1258291200 : UInt32)) wd_718 dX5_bitsOf_81 ?_
  obtain ⟨g6, hf⟩ := ck_out hf
  refine z_fmul h dX5_bitsOf_84 g6 ?_
  refine z_f2i h dX5_bitsOf_85 ?_
  refine z_topI (fun v7 ev7 => ?_)
  have hf := bd_to ev7 hf
  refine z_istore_n h dX5_bitsOf_86 rfl (lv' := [(3, .int v7), (0, .float x0), (1, .float x1), (2, .int x2)]) rfl rfl ?_
  refine z_fload_n h dX5_bitsOf_87 rfl 1 rfl ?_
  refine z_fconst0 h dX5_bitsOf_88 ?_
  refine z_fcmp h dX5_bitsOf_89 ?_
  refine z_if_ge h (tgt := 99) dX5_bitsOf_90 (by decide) (fun g8 => ?_) (fun g8 => ?_)
  · have hf := it_pos g8 hf
    refine z_iconst h (v := (0 : Int32)) dX5_bitsOf_99 ic_0 ?_
    exact z_sub [3, 0] rfl (k_X5_bitsOf_b100 h hq N x2 v7 (0 : Int32) _ hf)
  · have hf := it_neg g8 hf
    refine z_ldcw h (v := (-2147483648 : Int32)) wd_719 dX5_bitsOf_93 ?_
    refine z_goto h (tgt := 100) dX5_bitsOf_96 (by decide) ?_
    exact z_sub [3, 0] rfl (k_X5_bitsOf_b100 h hq N x2 v7 (-2147483648 : Int32) _ hf)
set_option maxHeartbeats 4000000 in
set_option maxRecDepth 100000 in
theorem k_X5_bitsOf_h53 {l : Launch} {Y : ZY} {G : ZG} {r : Int32} {σ' : ZS} (h : zOk (l, rm_X5_bitsOf, 4, 0, 0) Y G cX5_bitsOf RX5 (some .int)) (hq : zRet (l, rm_X5_bitsOf, 4, 0, 0) Y G (some (.int r)) σ') (N : Nat) (x0 : UInt32) : ∀ (n : Nat) (x1 : UInt32) (x2 : Int32) (x3 : Int32) (σ : ZS), f_X5_bitsOf_h53 N x0 n x1 x2 x3 σ = some (r, σ') → Z (l, rm_X5_bitsOf, 4, 0, 0) Y G σ [(0, .float x0), (1, .float x1), (2, .int x2), (3, .int x3)] [] 53 := by
  intro n
  induction n with
  | zero =>
    intro x1 x2 x3 σ hf
    rw [f_X5_bitsOf_h53] at hf
    cases hf
  | succ n ih =>
    intro x1 x2 x3 σ hf
    rw [f_X5_bitsOf_h53] at hf
    refine z_iload_n h dX5_bitsOf_53 rfl 3 rfl ?_
    refine z_bipush h (v := (126 : Int32)) dX5_bitsOf_54 bp_126 ?_
    refine z_icmp_ge h (tgt := 78) dX5_bitsOf_56 (by decide) (fun g4 => ?_) (fun g4 => ?_)
    · have hf := it_pos g4 hf
      exact z_sub [0, 1, 2] rfl (k_X5_bitsOf_b78 h hq N x0 x1 x2 _ hf)
    · have hf := it_neg g4 hf
      refine z_fload_n h dX5_bitsOf_59 rfl 1 rfl ?_
      refine z_fconst1 h dX5_bitsOf_60 ?_
      refine z_fcmp h dX5_bitsOf_61 ?_
      refine z_if_ge h (tgt := 78) dX5_bitsOf_62 (by decide) (fun g9 => ?_) (fun g9 => ?_)
      · have hf := it_pos g9 hf
        exact z_sub [0, 1, 2] rfl (k_X5_bitsOf_b78 h hq N x0 x1 x2 _ hf)
      · have hf := it_neg g9 hf
        refine z_fload_n h dX5_bitsOf_65 rfl 1 rfl ?_
        refine z_fconst2 h dX5_bitsOf_66 ?_
        obtain ⟨g10, hf⟩ := ck_out hf
        refine z_fmul h dX5_bitsOf_67 g10 ?_
        refine z_topF (fun v11 ev11 => ?_)
        have hf := bd_to ev11 hf
        refine z_fstore_n h dX5_bitsOf_68 rfl (lv' := [(1, .float v11), (0, .float x0), (2, .int x2), (3, .int x3)]) rfl rfl ?_
        obtain ⟨v12, ev12, hf⟩ := bd_ex hf
        refine z_iinc h (v := v12) (lv' := [(2, .int v12), (1, .float v11), (0, .float x0), (3, .int x3)]) dX5_bitsOf_69 2 rfl (by rw [ev12]; rfl) rfl rfl ?_
        obtain ⟨v13, ev13, hf⟩ := bd_ex hf
        refine z_iinc h (v := v13) (lv' := [(3, .int v13), (2, .int v12), (1, .float v11), (0, .float x0)]) dX5_bitsOf_72 3 rfl (by rw [ev13]; rfl) rfl rfl ?_
        refine z_goto h (tgt := 53) dX5_bitsOf_75 (by decide) ?_
        exact z_sub [3, 2, 1, 0] rfl (ih _ _ _ _ hf)
set_option maxHeartbeats 4000000 in
set_option maxRecDepth 100000 in
theorem k_X5_bitsOf_b51 {l : Launch} {Y : ZY} {G : ZG} {r : Int32} {σ' : ZS} (h : zOk (l, rm_X5_bitsOf, 4, 0, 0) Y G cX5_bitsOf RX5 (some .int)) (hq : zRet (l, rm_X5_bitsOf, 4, 0, 0) Y G (some (.int r)) σ') (N : Nat) (x0 : UInt32) (x1 : UInt32) (x2 : Int32) (σ : ZS) (hf : f_X5_bitsOf_b51 N x0 x1 x2 σ = some (r, σ')) : Z (l, rm_X5_bitsOf, 4, 0, 0) Y G σ [(0, .float x0), (1, .float x1), (2, .int x2)] [] 51 := by
  rw [f_X5_bitsOf_b51] at hf
  refine z_iconst h (v := (0 : Int32)) dX5_bitsOf_51 ic_0 ?_
  refine z_istore_n h dX5_bitsOf_52 rfl (lv' := [(3, .int (0 : Int32)), (0, .float x0), (1, .float x1), (2, .int x2)]) rfl rfl ?_
  exact z_sub [1, 2, 3, 0] rfl (k_X5_bitsOf_h53 h hq N x0 _ _ _ _ _ hf)
set_option maxHeartbeats 4000000 in
set_option maxRecDepth 100000 in
theorem k_X5_bitsOf_h26 {l : Launch} {Y : ZY} {G : ZG} {r : Int32} {σ' : ZS} (h : zOk (l, rm_X5_bitsOf, 4, 0, 0) Y G cX5_bitsOf RX5 (some .int)) (hq : zRet (l, rm_X5_bitsOf, 4, 0, 0) Y G (some (.int r)) σ') (N : Nat) (x0 : UInt32) : ∀ (n : Nat) (x1 : UInt32) (x2 : Int32) (x3 : Int32) (σ : ZS), f_X5_bitsOf_h26 N x0 n x1 x2 x3 σ = some (r, σ') → Z (l, rm_X5_bitsOf, 4, 0, 0) Y G σ [(0, .float x0), (1, .float x1), (2, .int x2), (3, .int x3)] [] 26 := by
  intro n
  induction n with
  | zero =>
    intro x1 x2 x3 σ hf
    rw [f_X5_bitsOf_h26] at hf
    cases hf
  | succ n ih =>
    intro x1 x2 x3 σ hf
    rw [f_X5_bitsOf_h26] at hf
    refine z_iload_n h dX5_bitsOf_26 rfl 3 rfl ?_
    refine z_bipush h (v := (127 : Int32)) dX5_bitsOf_27 bp_127 ?_
    refine z_icmp_ge h (tgt := 51) dX5_bitsOf_29 (by decide) (fun g3 => ?_) (fun g3 => ?_)
    · have hf := it_pos g3 hf
      exact z_sub [0, 1, 2] rfl (k_X5_bitsOf_b51 h hq N x0 x1 x2 _ hf)
    · have hf := it_neg g3 hf
      refine z_fload_n h dX5_bitsOf_32 rfl 1 rfl ?_
      refine z_fconst2 h dX5_bitsOf_33 ?_
      refine z_fcmp h dX5_bitsOf_34 ?_
      refine z_if_lt h (tgt := 51) dX5_bitsOf_35 (by decide) (fun g14 => ?_) (fun g14 => ?_)
      · have hf := it_pos g14 hf
        exact z_sub [0, 1, 2] rfl (k_X5_bitsOf_b51 h hq N x0 x1 x2 _ hf)
      · have hf := it_neg g14 hf
        refine z_fload_n h dX5_bitsOf_38 rfl 1 rfl ?_
        refine z_fconst2 h dX5_bitsOf_39 ?_
        obtain ⟨g15, hf⟩ := ck_out hf
        refine z_fdiv h dX5_bitsOf_40 g15 ?_
        refine z_topF (fun v16 ev16 => ?_)
        have hf := bd_to ev16 hf
        refine z_fstore_n h dX5_bitsOf_41 rfl (lv' := [(1, .float v16), (0, .float x0), (2, .int x2), (3, .int x3)]) rfl rfl ?_
        obtain ⟨v17, ev17, hf⟩ := bd_ex hf
        refine z_iinc h (v := v17) (lv' := [(2, .int v17), (1, .float v16), (0, .float x0), (3, .int x3)]) dX5_bitsOf_42 2 rfl (by rw [ev17]; rfl) rfl rfl ?_
        obtain ⟨v18, ev18, hf⟩ := bd_ex hf
        refine z_iinc h (v := v18) (lv' := [(3, .int v18), (2, .int v17), (1, .float v16), (0, .float x0)]) dX5_bitsOf_45 3 rfl (by rw [ev18]; rfl) rfl rfl ?_
        refine z_goto h (tgt := 26) dX5_bitsOf_48 (by decide) ?_
        exact z_sub [3, 2, 1, 0] rfl (ih _ _ _ _ hf)
set_option maxHeartbeats 4000000 in
set_option maxRecDepth 100000 in
theorem k_X5_bitsOf_b12 {l : Launch} {Y : ZY} {G : ZG} {r : Int32} {σ' : ZS} (h : zOk (l, rm_X5_bitsOf, 4, 0, 0) Y G cX5_bitsOf RX5 (some .int)) (hq : zRet (l, rm_X5_bitsOf, 4, 0, 0) Y G (some (.int r)) σ') (N : Nat) (x0 : UInt32) (s0 : UInt32) (σ : ZS) (hf : f_X5_bitsOf_b12 N x0 s0 σ = some (r, σ')) : Z (l, rm_X5_bitsOf, 4, 0, 0) Y G σ [(0, .float x0)] [.float s0] 12 := by
  rw [f_X5_bitsOf_b12] at hf
  refine z_fstore_n h dX5_bitsOf_12 rfl (lv' := [(1, .float s0), (0, .float x0)]) rfl rfl ?_
  refine z_fload_n h dX5_bitsOf_13 rfl 0 rfl ?_
  refine z_fconst0 h dX5_bitsOf_14 ?_
  refine z_fcmp h dX5_bitsOf_15 ?_
  refine z_if_gt h (tgt := 21) dX5_bitsOf_16 (by decide) (fun g2 => ?_) (fun g2 => ?_)
  · have hf := it_pos g2 hf
    refine z_bipush h (v := (127 : Int32)) dX5_bitsOf_21 bp_127 ?_
    refine z_istore_n h dX5_bitsOf_23 rfl (lv' := [(2, .int (127 : Int32)), (1, .float s0), (0, .float x0)]) rfl rfl ?_
    refine z_iconst h (v := (0 : Int32)) dX5_bitsOf_24 ic_0 ?_
    refine z_istore_n h dX5_bitsOf_25 rfl (lv' := [(3, .int (0 : Int32)), (2, .int (127 : Int32)), (1, .float s0), (0, .float x0)]) rfl rfl ?_
    exact z_sub [3, 2, 1, 0] rfl (k_X5_bitsOf_h26 h hq N x0 _ _ _ _ _ hf)
  · have hf := it_neg g2 hf
    refine z_iconst h (v := (0 : Int32)) dX5_bitsOf_19 ic_0 ?_
    exact z_iret h (rt_I hf hq) dX5_bitsOf_20
set_option maxHeartbeats 4000000 in
set_option maxRecDepth 100000 in
theorem c_X5_bitsOf (l : Launch) (G : ZG) {N : Nat} {x0 : UInt32} {σ σ' : ZS} {r : Int32} (hf : f_X5_bitsOf N x0 σ = some (r, σ')) : zMet l G yX5_bitsOf cX5_bitsOf 4 (some .int) rm_X5_bitsOf [.float x0] σ (some (.int r)) σ' := by
  refine z_met (by decide +kernel) rfl (fun Y h hq => ?_)
  have h : zOk (l, rm_X5_bitsOf, 4, 0, 0) Y G cX5_bitsOf RX5 (some .int) := h
  rw [f_X5_bitsOf] at hf
  refine z_sub (lv' := [(0, .float x0)]) [0] rfl ?_
  refine z_fload_n h dX5_bitsOf_0 rfl 0 rfl ?_
  refine z_fconst0 h dX5_bitsOf_1 ?_
  refine z_fcmp h dX5_bitsOf_2 ?_
  refine z_if_ge h (tgt := 11) dX5_bitsOf_3 (by decide) (fun g1 => ?_) (fun g1 => ?_)
  · have hf := it_pos g1 hf
    refine z_fload_n h dX5_bitsOf_11 rfl 0 rfl ?_
    exact z_sub [0] rfl (k_X5_bitsOf_b12 h hq N x0 x0 _ hf)
  · have hf := it_neg g1 hf
    refine z_fload_n h dX5_bitsOf_6 rfl 0 rfl ?_
    refine z_fneg h dX5_bitsOf_7 ?_
    refine z_goto h (tgt := 12) dX5_bitsOf_8 (by decide) ?_
    exact z_sub [0] rfl (k_X5_bitsOf_b12 h hq N x0 (FP.fneg x0) _ hf)
theorem dX5_near_0 : decode cX5_near 0 = .ok (.aload_n 0, 1) := by decide +kernel
theorem dX5_near_1 : decode cX5_near 1 = .ok (.invokevirtual 124, 3) := by decide +kernel
theorem dX5_near_4 : decode cX5_near 4 = .ok (.aload_n 0, 1) := by decide +kernel
theorem dX5_near_5 : decode cX5_near 5 = .ok (.iload_n 1, 1) := by decide +kernel
theorem dX5_near_6 : decode cX5_near 6 = .ok (.iload_n 2, 1) := by decide +kernel
theorem dX5_near_7 : decode cX5_near 7 = .ok (.invokevirtual 190, 3) := by decide +kernel
theorem dX5_near_10 : decode cX5_near 10 = .ok (.istore_n 3, 1) := by decide +kernel
theorem dX5_near_11 : decode cX5_near 11 = .ok (.iload_n 3, 1) := by decide +kernel
theorem dX5_near_12 : decode cX5_near 12 = .ok (.ifCond .eq 5, 3) := by decide +kernel
theorem dX5_near_15 : decode cX5_near 15 = .ok (.iload_n 3, 1) := by decide +kernel
theorem dX5_near_16 : decode cX5_near 16 = .ok (.ireturn, 1) := by decide +kernel
theorem dX5_near_17 : decode cX5_near 17 = .ok (.aload_n 0, 1) := by decide +kernel
theorem dX5_near_18 : decode cX5_near 18 = .ok (.getfield 23, 3) := by decide +kernel
theorem dX5_near_21 : decode cX5_near 21 = .ok (.iload_n 2, 1) := by decide +kernel
theorem dX5_near_22 : decode cX5_near 22 = .ok (.invokevirtual 196, 3) := by decide +kernel
theorem dX5_near_25 : decode cX5_near 25 = .ok (.invokevirtual 200, 3) := by decide +kernel
theorem dX5_near_28 : decode cX5_near 28 = .ok (.invokestatic 204, 3) := by decide +kernel
theorem dX5_near_31 : decode cX5_near 31 = .ok (.ireturn, 1) := by decide +kernel
abbrev rm_X5_near : Room := { frames := 27, cells := 0, slots := 0, locals := 771 }
noncomputable def f_X5_near (N : Nat) (x1 : Int32) (x2 : Int32) (σ : ZS) : Option (Int32 × ZS) := obd (f_X5_refresh N σ) fun _ σ2 => obd (f_X5_limitError N x1 x2 σ2) fun v3 σ4 => (if v3 = 0 then obd (f_X0_limit N x2 σ4) fun v6 σ7 => ck (isc v6 1) (obd (f_X1_asFloat N v6 σ7) fun v9 σ10 => obd (f_X5_bitsOf N v9 σ10) fun v11 σ12 => some (v11, σ12)) else some (v3, σ4))
set_option maxHeartbeats 4000000 in
set_option maxRecDepth 100000 in
theorem c_X5_near (l : Launch) (G : ZG) {N : Nat} {x1 : Int32} {x2 : Int32} {σ σ' : ZS} {r : Int32} (hf : f_X5_near N x1 x2 σ = some (r, σ')) : zMet l G yX5_near cX5_near 4 (some .int) rm_X5_near [.ref (G.1 0), .int x1, .int x2] σ (some (.int r)) σ' := by
  refine z_met (by decide +kernel) rfl (fun Y h hq => ?_)
  have h : zOk (l, rm_X5_near, 4, 0, 0) Y G cX5_near RX5 (some .int) := h
  rw [f_X5_near] at hf
  refine z_sub (lv' := [(0, .ref (G.1 0)), (1, .int x1), (2, .int x2)]) [0, 1, 2] rfl ?_
  refine z_aload_n h dX5_near_0 rfl 0 rfl ?_
  obtain ⟨v1, σ2, e2, hf⟩ := obd_out hf
  refine z_cV0 h (n := 0) (c_X5_refresh l G e2) zC5 tg_0 ln_0 rfl rfl wd_278 wd_279 wd_280 wd_2 wd_281 (by decide +kernel) ⟨rfl, rfl⟩ rfl rfl rfl dX5_near_1 ⟨Nat.zero_le _, Nat.zero_le _⟩ ?_
  refine z_aload_n h dX5_near_4 rfl 0 rfl ?_
  refine z_iload_n h dX5_near_5 rfl 1 rfl ?_
  refine z_iload_n h dX5_near_6 rfl 2 rfl ?_
  obtain ⟨v3, σ4, e4, hf⟩ := obd_out hf
  refine z_cVv h (n := 2) (c_X5_limitError l G e4) zC5 tg_0 ln_0 rfl rfl wd_693 wd_694 wd_695 wd_2 wd_696 (by decide +kernel) ⟨rfl, rfl⟩ rfl rfl rfl dX5_near_7 ⟨Nat.zero_le _, Nat.zero_le _⟩ ?_
  refine z_istore_n h dX5_near_10 rfl (lv' := [(3, .int v3), (0, .ref (G.1 0)), (1, .int x1), (2, .int x2)]) rfl rfl ?_
  refine z_iload_n h dX5_near_11 rfl 0 rfl ?_
  refine z_if_eq h (tgt := 17) dX5_near_12 (by decide) (fun g5 => ?_) (fun g5 => ?_)
  · have hf := it_pos g5 hf
    refine z_aload_n h dX5_near_17 rfl 1 rfl ?_
    refine z_gfR h zC5 (d := 7) (c := 0) tg_0 ln_0 4 rfl ft_5_4 rf_0_4 wd_20 dX5_near_18 ?_
    refine z_iload_n h dX5_near_21 rfl 3 rfl ?_
    obtain ⟨v6, σ7, e7, hf⟩ := obd_out hf
    refine z_cVv h (n := 1) (c_X0_limit l G e7) zC0 tg_7 ln_7 rfl rfl wd_697 wd_573 wd_574 wd_19 wd_575 (by decide +kernel) ⟨rfl, rfl⟩ rfl rfl rfl dX5_near_22 ⟨Nat.zero_le _, Nat.zero_le _⟩ ?_
    obtain ⟨g8, hf⟩ := ck_out hf
    obtain ⟨v9, σ10, e10, hf⟩ := obd_out hf
    refine z_cVv h (n := 0) (c_X1_asFloat l G e10) zC1 (isc_tg g8) (isc_ln g8) rfl rfl wd_711 wd_712 wd_713 wd_25 wd_714 (by decide +kernel) ⟨rfl, rfl⟩ rfl rfl rfl dX5_near_25 ⟨Nat.zero_le _, Nat.zero_le _⟩ ?_
    obtain ⟨v11, σ12, e12, hf⟩ := obd_out hf
    refine z_cSv h (n := 1) (c_X5_bitsOf l G e12) rfl wd_715 wd_716 wd_2 wd_717 (by decide +kernel) ⟨rfl, rfl⟩ rfl rfl rfl dX5_near_28 ⟨Nat.zero_le _, Nat.zero_le _⟩ ?_
    exact z_iret h (rt_I hf hq) dX5_near_31
  · have hf := it_neg g5 hf
    refine z_iload_n h dX5_near_15 rfl 0 rfl ?_
    exact z_iret h (rt_I hf hq) dX5_near_16
theorem dX5_bears_0 : decode cX5_bears 0 = .ok (.iload_n 1, 1) := by decide +kernel
theorem dX5_bears_1 : decode cX5_bears 1 = .ok (.bipush (-99), 2) := by decide +kernel
theorem dX5_bears_3 : decode cX5_bears 3 = .ok (.bipush 99, 2) := by decide +kernel
theorem dX5_bears_5 : decode cX5_bears 5 = .ok (.invokestatic 46, 3) := by decide +kernel
theorem dX5_bears_8 : decode cX5_bears 8 = .ok (.ifCond .eq 24, 3) := by decide +kernel
theorem dX5_bears_11 : decode cX5_bears 11 = .ok (.iload_n 2, 1) := by decide +kernel
theorem dX5_bears_12 : decode cX5_bears 12 = .ok (.bipush (-99), 2) := by decide +kernel
theorem dX5_bears_14 : decode cX5_bears 14 = .ok (.bipush 99, 2) := by decide +kernel
theorem dX5_bears_16 : decode cX5_bears 16 = .ok (.invokestatic 46, 3) := by decide +kernel
theorem dX5_bears_19 : decode cX5_bears 19 = .ok (.ifCond .eq 13, 3) := by decide +kernel
theorem dX5_bears_22 : decode cX5_bears 22 = .ok (.iload_n 3, 1) := by decide +kernel
theorem dX5_bears_23 : decode cX5_bears 23 = .ok (.iconst 1, 1) := by decide +kernel
theorem dX5_bears_24 : decode cX5_bears 24 = .ok (.bipush 99, 2) := by decide +kernel
theorem dX5_bears_26 : decode cX5_bears 26 = .ok (.invokestatic 46, 3) := by decide +kernel
theorem dX5_bears_29 : decode cX5_bears 29 = .ok (.ifCond .ne 6, 3) := by decide +kernel
theorem dX5_bears_32 : decode cX5_bears 32 = .ok (.bipush (-2), 2) := by decide +kernel
theorem dX5_bears_34 : decode cX5_bears 34 = .ok (.ireturn, 1) := by decide +kernel
theorem dX5_bears_35 : decode cX5_bears 35 = .ok (.aload_n 0, 1) := by decide +kernel
theorem dX5_bears_36 : decode cX5_bears 36 = .ok (.invokevirtual 124, 3) := by decide +kernel
theorem dX5_bears_39 : decode cX5_bears 39 = .ok (.aload_n 0, 1) := by decide +kernel
theorem dX5_bears_40 : decode cX5_bears 40 = .ok (.invokevirtual 127, 3) := by decide +kernel
theorem dX5_bears_43 : decode cX5_bears 43 = .ok (.ifCond .eq 6, 3) := by decide +kernel
theorem dX5_bears_46 : decode cX5_bears 46 = .ok (.bipush (-3), 2) := by decide +kernel
theorem dX5_bears_48 : decode cX5_bears 48 = .ok (.ireturn, 1) := by decide +kernel
theorem dX5_bears_49 : decode cX5_bears 49 = .ok (.aload_n 0, 1) := by decide +kernel
theorem dX5_bears_50 : decode cX5_bears 50 = .ok (.getfield 23, 3) := by decide +kernel
theorem dX5_bears_53 : decode cX5_bears 53 = .ok (.iload_n 1, 1) := by decide +kernel
theorem dX5_bears_54 : decode cX5_bears 54 = .ok (.iload_n 2, 1) := by decide +kernel
theorem dX5_bears_55 : decode cX5_bears 55 = .ok (.iload_n 3, 1) := by decide +kernel
theorem dX5_bears_56 : decode cX5_bears 56 = .ok (.invokevirtual 208, 3) := by decide +kernel
theorem dX5_bears_59 : decode cX5_bears 59 = .ok (.ifCond .eq 7, 3) := by decide +kernel
theorem dX5_bears_62 : decode cX5_bears 62 = .ok (.iconst 1, 1) := by decide +kernel
theorem dX5_bears_63 : decode cX5_bears 63 = .ok (.goto 4, 3) := by decide +kernel
theorem dX5_bears_66 : decode cX5_bears 66 = .ok (.iconst 0, 1) := by decide +kernel
theorem dX5_bears_67 : decode cX5_bears 67 = .ok (.ireturn, 1) := by decide +kernel
abbrev rm_X5_bears : Room := { frames := 27, cells := 0, slots := 0, locals := 771 }
noncomputable def f_X5_bears (N : Nat) (x1 : Int32) (x2 : Int32) (x3 : Int32) (σ : ZS) : Option (Int32 × ZS) := obd (f_X5_within N x1 (-99 : Int32) (99 : Int32) σ) fun v1 σ2 => (if v1 = 0 then some ((-2 : Int32), σ2) else obd (f_X5_within N x2 (-99 : Int32) (99 : Int32) σ2) fun v4 σ5 => (if v4 = 0 then some ((-2 : Int32), σ5) else obd (f_X5_within N x3 (1 : Int32) (99 : Int32) σ5) fun v7 σ8 => (if v7 = 0 then some ((-2 : Int32), σ8) else obd (f_X5_refresh N σ8) fun _ σ11 => obd (f_X5_isLoose N σ11) fun v12 σ13 => (if v12 = 0 then obd (f_X0_carries N x1 x2 x3 σ13) fun v15 σ16 => (if v15 = 0 then some ((0 : Int32), σ16) else some ((1 : Int32), σ16)) else some ((-3 : Int32), σ13)))))
set_option maxHeartbeats 4000000 in
set_option maxRecDepth 100000 in
theorem c_X5_bears (l : Launch) (G : ZG) {N : Nat} {x1 : Int32} {x2 : Int32} {x3 : Int32} {σ σ' : ZS} {r : Int32} (hf : f_X5_bears N x1 x2 x3 σ = some (r, σ')) : zMet l G yX5_bears cX5_bears 4 (some .int) rm_X5_bears [.ref (G.1 0), .int x1, .int x2, .int x3] σ (some (.int r)) σ' := by
  refine z_met (by decide +kernel) rfl (fun Y h hq => ?_)
  have h : zOk (l, rm_X5_bears, 4, 0, 0) Y G cX5_bears RX5 (some .int) := h
  rw [f_X5_bears] at hf
  refine z_sub (lv' := [(0, .ref (G.1 0)), (1, .int x1), (2, .int x2), (3, .int x3)]) [0, 1, 2, 3] rfl ?_
  refine z_iload_n h dX5_bears_0 rfl 1 rfl ?_
  refine z_bipush h (v := (-99 : Int32)) dX5_bears_1 bp_m99 ?_
  refine z_bipush h (v := (99 : Int32)) dX5_bears_3 bp_99 ?_
  obtain ⟨v1, σ2, e2, hf⟩ := obd_out hf
  refine z_cSv h (n := 3) (c_X5_within l G e2) rfl wd_133 wd_134 wd_2 wd_135 (by decide +kernel) ⟨rfl, rfl⟩ rfl rfl rfl dX5_bears_5 ⟨Nat.zero_le _, Nat.zero_le _⟩ ?_
  refine z_if_eq h (tgt := 32) dX5_bears_8 (by decide) (fun g3 => ?_) (fun g3 => ?_)
  · have hf := it_pos g3 hf
    refine z_bipush h (v := (-2 : Int32)) dX5_bears_32 bp_m2 ?_
    exact z_iret h (rt_I hf hq) dX5_bears_34
  · have hf := it_neg g3 hf
    refine z_iload_n h dX5_bears_11 rfl 2 rfl ?_
    refine z_bipush h (v := (-99 : Int32)) dX5_bears_12 bp_m99 ?_
    refine z_bipush h (v := (99 : Int32)) dX5_bears_14 bp_99 ?_
    obtain ⟨v4, σ5, e5, hf⟩ := obd_out hf
    refine z_cSv h (n := 3) (c_X5_within l G e5) rfl wd_133 wd_134 wd_2 wd_135 (by decide +kernel) ⟨rfl, rfl⟩ rfl rfl rfl dX5_bears_16 ⟨Nat.zero_le _, Nat.zero_le _⟩ ?_
    refine z_if_eq h (tgt := 32) dX5_bears_19 (by decide) (fun g6 => ?_) (fun g6 => ?_)
    · have hf := it_pos g6 hf
      refine z_bipush h (v := (-2 : Int32)) dX5_bears_32 bp_m2 ?_
      exact z_iret h (rt_I hf hq) dX5_bears_34
    · have hf := it_neg g6 hf
      refine z_iload_n h dX5_bears_22 rfl 3 rfl ?_
      refine z_iconst h (v := (1 : Int32)) dX5_bears_23 ic_1 ?_
      refine z_bipush h (v := (99 : Int32)) dX5_bears_24 bp_99 ?_
      obtain ⟨v7, σ8, e8, hf⟩ := obd_out hf
      refine z_cSv h (n := 3) (c_X5_within l G e8) rfl wd_133 wd_134 wd_2 wd_135 (by decide +kernel) ⟨rfl, rfl⟩ rfl rfl rfl dX5_bears_26 ⟨Nat.zero_le _, Nat.zero_le _⟩ ?_
      refine z_if_ne h (tgt := 35) dX5_bears_29 (by decide) (fun g9 => ?_) (fun g9 => ?_)
      · have hf := it_neg g9 hf
        refine z_aload_n h dX5_bears_35 rfl 0 rfl ?_
        obtain ⟨v10, σ11, e11, hf⟩ := obd_out hf
        refine z_cV0 h (n := 0) (c_X5_refresh l G e11) zC5 tg_0 ln_0 rfl rfl wd_278 wd_279 wd_280 wd_2 wd_281 (by decide +kernel) ⟨rfl, rfl⟩ rfl rfl rfl dX5_bears_36 ⟨Nat.zero_le _, Nat.zero_le _⟩ ?_
        refine z_aload_n h dX5_bears_39 rfl 0 rfl ?_
        obtain ⟨v12, σ13, e13, hf⟩ := obd_out hf
        refine z_cVv h (n := 0) (c_X5_isLoose l G e13) zC5 tg_0 ln_0 rfl rfl wd_405 wd_406 wd_407 wd_2 wd_408 (by decide +kernel) ⟨rfl, rfl⟩ rfl rfl rfl dX5_bears_40 ⟨Nat.zero_le _, Nat.zero_le _⟩ ?_
        refine z_if_eq h (tgt := 49) dX5_bears_43 (by decide) (fun g14 => ?_) (fun g14 => ?_)
        · have hf := it_pos g14 hf
          refine z_aload_n h dX5_bears_49 rfl 0 rfl ?_
          refine z_gfR h zC5 (d := 7) (c := 0) tg_0 ln_0 4 rfl ft_5_4 rf_0_4 wd_20 dX5_bears_50 ?_
          refine z_iload_n h dX5_bears_53 rfl 1 rfl ?_
          refine z_iload_n h dX5_bears_54 rfl 2 rfl ?_
          refine z_iload_n h dX5_bears_55 rfl 3 rfl ?_
          obtain ⟨v15, σ16, e16, hf⟩ := obd_out hf
          refine z_cVv h (n := 3) (c_X0_carries l G e16) zC0 tg_7 ln_7 rfl rfl wd_740 wd_741 wd_742 wd_19 wd_743 (by decide +kernel) ⟨rfl, rfl⟩ rfl rfl rfl dX5_bears_56 ⟨Nat.zero_le _, Nat.zero_le _⟩ ?_
          refine z_if_eq h (tgt := 66) dX5_bears_59 (by decide) (fun g17 => ?_) (fun g17 => ?_)
          · have hf := it_pos g17 hf
            refine z_iconst h (v := (0 : Int32)) dX5_bears_66 ic_0 ?_
            exact z_iret h (rt_I hf hq) dX5_bears_67
          · have hf := it_neg g17 hf
            refine z_iconst h (v := (1 : Int32)) dX5_bears_62 ic_1 ?_
            refine z_goto h (tgt := 67) dX5_bears_63 (by decide) ?_
            exact z_iret h (rt_I hf hq) dX5_bears_67
        · have hf := it_neg g14 hf
          refine z_bipush h (v := (-3 : Int32)) dX5_bears_46 bp_m3 ?_
          exact z_iret h (rt_I hf hq) dX5_bears_48
      · have hf := it_pos g9 hf
        refine z_bipush h (v := (-2 : Int32)) dX5_bears_32 bp_m2 ?_
        exact z_iret h (rt_I hf hq) dX5_bears_34
theorem dX5_moment_0 : decode cX5_moment 0 = .ok (.aload_n 0, 1) := by decide +kernel
theorem dX5_moment_1 : decode cX5_moment 1 = .ok (.iload_n 3, 1) := by decide +kernel
theorem dX5_moment_2 : decode cX5_moment 2 = .ok (.invokevirtual 156, 3) := by decide +kernel
theorem dX5_moment_5 : decode cX5_moment 5 = .ok (.ifCond .ne 7, 3) := by decide +kernel
theorem dX5_moment_8 : decode cX5_moment 8 = .ok (.ldc2_w 159, 3) := by decide +kernel
theorem dX5_moment_11 : decode cX5_moment 11 = .ok (.lreturn, 1) := by decide +kernel
theorem dX5_moment_12 : decode cX5_moment 12 = .ok (.aload_n 0, 1) := by decide +kernel
theorem dX5_moment_13 : decode cX5_moment 13 = .ok (.invokevirtual 124, 3) := by decide +kernel
theorem dX5_moment_16 : decode cX5_moment 16 = .ok (.iload 4, 2) := by decide +kernel
theorem dX5_moment_18 : decode cX5_moment 18 = .ok (.iconst 0, 1) := by decide +kernel
theorem dX5_moment_19 : decode cX5_moment 19 = .ok (.iconst 3, 1) := by decide +kernel
theorem dX5_moment_20 : decode cX5_moment 20 = .ok (.invokestatic 46, 3) := by decide +kernel
theorem dX5_moment_23 : decode cX5_moment 23 = .ok (.ifCond .eq 12, 3) := by decide +kernel
theorem dX5_moment_26 : decode cX5_moment 26 = .ok (.aload_n 0, 1) := by decide +kernel
theorem dX5_moment_27 : decode cX5_moment 27 = .ok (.iload_n 1, 1) := by decide +kernel
theorem dX5_moment_28 : decode cX5_moment 28 = .ok (.iload_n 2, 1) := by decide +kernel
theorem dX5_moment_29 : decode cX5_moment 29 = .ok (.invokevirtual 190, 3) := by decide +kernel
theorem dX5_moment_32 : decode cX5_moment 32 = .ok (.goto 5, 3) := by decide +kernel
theorem dX5_moment_35 : decode cX5_moment 35 = .ok (.bipush (-2), 2) := by decide +kernel
theorem dX5_moment_37 : decode cX5_moment 37 = .ok (.istore 5, 2) := by decide +kernel
theorem dX5_moment_39 : decode cX5_moment 39 = .ok (.iload 5, 2) := by decide +kernel
theorem dX5_moment_41 : decode cX5_moment 41 = .ok (.ifCond .eq 11, 3) := by decide +kernel
theorem dX5_moment_44 : decode cX5_moment 44 = .ok (.ldc2_w 194, 3) := by decide +kernel
theorem dX5_moment_47 : decode cX5_moment 47 = .ok (.iload 5, 2) := by decide +kernel
theorem dX5_moment_49 : decode cX5_moment 49 = .ok (.i2l, 1) := by decide +kernel
theorem dX5_moment_50 : decode cX5_moment 50 = .ok (.ladd, 1) := by decide +kernel
theorem dX5_moment_51 : decode cX5_moment 51 = .ok (.lreturn, 1) := by decide +kernel
theorem dX5_moment_52 : decode cX5_moment 52 = .ok (.aload_n 0, 1) := by decide +kernel
theorem dX5_moment_53 : decode cX5_moment 53 = .ok (.getfield 23, 3) := by decide +kernel
theorem dX5_moment_56 : decode cX5_moment 56 = .ok (.iload_n 1, 1) := by decide +kernel
theorem dX5_moment_57 : decode cX5_moment 57 = .ok (.iload_n 2, 1) := by decide +kernel
theorem dX5_moment_58 : decode cX5_moment 58 = .ok (.invokevirtual 211, 3) := by decide +kernel
theorem dX5_moment_61 : decode cX5_moment 61 = .ok (.aload_n 0, 1) := by decide +kernel
theorem dX5_moment_62 : decode cX5_moment 62 = .ok (.getfield 23, 3) := by decide +kernel
theorem dX5_moment_65 : decode cX5_moment 65 = .ok (.iload_n 3, 1) := by decide +kernel
theorem dX5_moment_66 : decode cX5_moment 66 = .ok (.invokevirtual 215, 3) := by decide +kernel
theorem dX5_moment_69 : decode cX5_moment 69 = .ok (.aload_n 0, 1) := by decide +kernel
theorem dX5_moment_70 : decode cX5_moment 70 = .ok (.getfield 23, 3) := by decide +kernel
theorem dX5_moment_73 : decode cX5_moment 73 = .ok (.iload 4, 2) := by decide +kernel
theorem dX5_moment_75 : decode cX5_moment 75 = .ok (.invokevirtual 184, 3) := by decide +kernel
theorem dX5_moment_78 : decode cX5_moment 78 = .ok (.lreturn, 1) := by decide +kernel
abbrev rm_X5_moment : Room := { frames := 27, cells := 0, slots := 0, locals := 771 }
noncomputable def f_X5_moment_b37 (N : Nat) (x1 : Int32) (x2 : Int32) (x3 : Int32) (x4 : Int32) (s0 : Int32) (σ : ZS) : Option (Int64 × ZS) := (if s0 = 0 then obd (f_X0_takeLimitLoads N x1 x2 σ) fun _ σ11 => obd (f_X0_findMoments N x3 σ11) fun _ σ13 => obd (f_X0_extreme N x4 σ13) fun v14 σ15 => some (v14, σ15) else some ((-4000000000000000000 : Int64) + (s0.toInt64), σ))
noncomputable def f_X5_moment (N : Nat) (x1 : Int32) (x2 : Int32) (x3 : Int32) (x4 : Int32) (σ : ZS) : Option (Int64 × ZS) := obd (f_X5_isEnd N x3 σ) fun v1 σ2 => (if v1 = 0 then some ((-4000000000000000001 : Int64), σ2) else obd (f_X5_refresh N σ2) fun _ σ5 => obd (f_X5_within N x4 (0 : Int32) (3 : Int32) σ5) fun v6 σ7 => (if v6 = 0 then f_X5_moment_b37 N x1 x2 x3 x4 (-2 : Int32) σ7 else obd (f_X5_limitError N x1 x2 σ7) fun v16 σ17 => f_X5_moment_b37 N x1 x2 x3 x4 v16 σ17))
set_option maxHeartbeats 4000000 in
set_option maxRecDepth 100000 in
theorem k_X5_moment_b37 {l : Launch} {Y : ZY} {G : ZG} {r : Int64} {σ' : ZS} (h : zOk (l, rm_X5_moment, 6, 0, 0) Y G cX5_moment RX5 (some .long)) (hq : zRet (l, rm_X5_moment, 6, 0, 0) Y G (some (.long r)) σ') (N : Nat) (x1 : Int32) (x2 : Int32) (x3 : Int32) (x4 : Int32) (s0 : Int32) (σ : ZS) (hf : f_X5_moment_b37 N x1 x2 x3 x4 s0 σ = some (r, σ')) : Z (l, rm_X5_moment, 6, 0, 0) Y G σ [(0, .ref (G.1 0)), (1, .int x1), (2, .int x2), (3, .int x3), (4, .int x4)] [.int s0] 37 := by
  rw [f_X5_moment_b37] at hf
  refine z_istore h dX5_moment_37 (lv' := [(5, .int s0), (0, .ref (G.1 0)), (1, .int x1), (2, .int x2), (3, .int x3), (4, .int x4)]) rfl rfl ?_
  refine z_iload h dX5_moment_39 0 rfl ?_
  refine z_if_eq h (tgt := 52) dX5_moment_41 (by decide) (fun g9 => ?_) (fun g9 => ?_)
  · have hf := it_pos g9 hf
    refine z_aload_n h dX5_moment_52 rfl 1 rfl ?_
    refine z_gfR h zC5 (d := 7) (c := 0) tg_0 ln_0 4 rfl ft_5_4 rf_0_4 wd_20 dX5_moment_53 ?_
    refine z_iload_n h dX5_moment_56 rfl 2 rfl ?_
    refine z_iload_n h dX5_moment_57 rfl 3 rfl ?_
    obtain ⟨v10, σ11, e11, hf⟩ := obd_out hf
    refine z_cV0 h (n := 2) (c_X0_takeLimitLoads l G e11) zC0 tg_7 ln_7 rfl rfl wd_752 wd_753 wd_754 wd_19 wd_755 (by decide +kernel) ⟨rfl, rfl⟩ rfl rfl rfl dX5_moment_58 ⟨Nat.zero_le _, Nat.zero_le _⟩ ?_
    refine z_aload_n h dX5_moment_61 rfl 1 rfl ?_
    refine z_gfR h zC5 (d := 7) (c := 0) tg_0 ln_0 4 rfl ft_5_4 rf_0_4 wd_20 dX5_moment_62 ?_
    refine z_iload_n h dX5_moment_65 rfl 4 rfl ?_
    obtain ⟨v12, σ13, e13, hf⟩ := obd_out hf
    refine z_cV0 h (n := 1) (c_X0_findMoments l G e13) zC0 tg_7 ln_7 rfl rfl wd_759 wd_760 wd_761 wd_19 wd_762 (by decide +kernel) ⟨rfl, rfl⟩ rfl rfl rfl dX5_moment_66 ⟨Nat.zero_le _, Nat.zero_le _⟩ ?_
    refine z_aload_n h dX5_moment_69 rfl 1 rfl ?_
    refine z_gfR h zC5 (d := 7) (c := 0) tg_0 ln_0 4 rfl ft_5_4 rf_0_4 wd_20 dX5_moment_70 ?_
    refine z_iload h dX5_moment_73 5 rfl ?_
    obtain ⟨v14, σ15, e15, hf⟩ := obd_out hf
    refine z_cVv h (n := 1) (c_X0_extreme l G e15) zC0 tg_7 ln_7 rfl rfl wd_568 wd_569 wd_570 wd_19 wd_571 (by decide +kernel) ⟨rfl, rfl⟩ rfl rfl rfl dX5_moment_75 ⟨Nat.zero_le _, Nat.zero_le _⟩ ?_
    exact z_lret h (rt_J hf hq) dX5_moment_78
  · have hf := it_neg g9 hf
    refine z_ldc2 h (v := (-4000000000000000000 : Int64)) wd_692 dX5_moment_44 ?_
    refine z_iload h dX5_moment_47 0 rfl ?_
    refine z_i2l h dX5_moment_49 ?_
    refine z_ladd h dX5_moment_50 ?_
    exact z_lret h (rt_J hf hq) dX5_moment_51
set_option maxHeartbeats 4000000 in
set_option maxRecDepth 100000 in
theorem c_X5_moment (l : Launch) (G : ZG) {N : Nat} {x1 : Int32} {x2 : Int32} {x3 : Int32} {x4 : Int32} {σ σ' : ZS} {r : Int64} (hf : f_X5_moment N x1 x2 x3 x4 σ = some (r, σ')) : zMet l G yX5_moment cX5_moment 6 (some .long) rm_X5_moment [.ref (G.1 0), .int x1, .int x2, .int x3, .int x4] σ (some (.long r)) σ' := by
  refine z_met (by decide +kernel) rfl (fun Y h hq => ?_)
  have h : zOk (l, rm_X5_moment, 6, 0, 0) Y G cX5_moment RX5 (some .long) := h
  rw [f_X5_moment] at hf
  refine z_sub (lv' := [(0, .ref (G.1 0)), (1, .int x1), (2, .int x2), (3, .int x3), (4, .int x4)]) [0, 1, 2, 3, 4] rfl ?_
  refine z_aload_n h dX5_moment_0 rfl 0 rfl ?_
  refine z_iload_n h dX5_moment_1 rfl 3 rfl ?_
  obtain ⟨v1, σ2, e2, hf⟩ := obd_out hf
  refine z_cVv h (n := 1) (c_X5_isEnd l G e2) zC5 tg_0 ln_0 rfl rfl wd_505 wd_506 wd_507 wd_2 wd_508 (by decide +kernel) ⟨rfl, rfl⟩ rfl rfl rfl dX5_moment_2 ⟨Nat.zero_le _, Nat.zero_le _⟩ ?_
  refine z_if_ne h (tgt := 12) dX5_moment_5 (by decide) (fun g3 => ?_) (fun g3 => ?_)
  · have hf := it_neg g3 hf
    refine z_aload_n h dX5_moment_12 rfl 0 rfl ?_
    obtain ⟨v4, σ5, e5, hf⟩ := obd_out hf
    refine z_cV0 h (n := 0) (c_X5_refresh l G e5) zC5 tg_0 ln_0 rfl rfl wd_278 wd_279 wd_280 wd_2 wd_281 (by decide +kernel) ⟨rfl, rfl⟩ rfl rfl rfl dX5_moment_13 ⟨Nat.zero_le _, Nat.zero_le _⟩ ?_
    refine z_iload h dX5_moment_16 4 rfl ?_
    refine z_iconst h (v := (0 : Int32)) dX5_moment_18 ic_0 ?_
    refine z_iconst h (v := (3 : Int32)) dX5_moment_19 ic_3 ?_
    obtain ⟨v6, σ7, e7, hf⟩ := obd_out hf
    refine z_cSv h (n := 3) (c_X5_within l G e7) rfl wd_133 wd_134 wd_2 wd_135 (by decide +kernel) ⟨rfl, rfl⟩ rfl rfl rfl dX5_moment_20 ⟨Nat.zero_le _, Nat.zero_le _⟩ ?_
    refine z_if_eq h (tgt := 35) dX5_moment_23 (by decide) (fun g8 => ?_) (fun g8 => ?_)
    · have hf := it_pos g8 hf
      refine z_bipush h (v := (-2 : Int32)) dX5_moment_35 bp_m2 ?_
      exact z_sub [0, 1, 2, 3, 4] rfl (k_X5_moment_b37 h hq N x1 x2 x3 x4 (-2 : Int32) _ hf)
    · have hf := it_neg g8 hf
      refine z_aload_n h dX5_moment_26 rfl 0 rfl ?_
      refine z_iload_n h dX5_moment_27 rfl 1 rfl ?_
      refine z_iload_n h dX5_moment_28 rfl 2 rfl ?_
      obtain ⟨v16, σ17, e17, hf⟩ := obd_out hf
      refine z_cVv h (n := 2) (c_X5_limitError l G e17) zC5 tg_0 ln_0 rfl rfl wd_693 wd_694 wd_695 wd_2 wd_696 (by decide +kernel) ⟨rfl, rfl⟩ rfl rfl rfl dX5_moment_29 ⟨Nat.zero_le _, Nat.zero_le _⟩ ?_
      refine z_goto h (tgt := 37) dX5_moment_32 (by decide) ?_
      exact z_sub [0, 1, 2, 3, 4] rfl (k_X5_moment_b37 h hq N x1 x2 x3 x4 v16 _ hf)
  · have hf := it_pos g3 hf
    refine z_ldc2 h (v := (-4000000000000000001 : Int64)) wd_504 dX5_moment_8 ?_
    exact z_lret h (rt_J hf hq) dX5_moment_11
theorem dX5_yields_0 : decode cX5_yields 0 = .ok (.aload_n 0, 1) := by decide +kernel
theorem dX5_yields_1 : decode cX5_yields 1 = .ok (.invokevirtual 124, 3) := by decide +kernel
theorem dX5_yields_4 : decode cX5_yields 4 = .ok (.aload_n 0, 1) := by decide +kernel
theorem dX5_yields_5 : decode cX5_yields 5 = .ok (.iload_n 1, 1) := by decide +kernel
theorem dX5_yields_6 : decode cX5_yields 6 = .ok (.iload_n 2, 1) := by decide +kernel
theorem dX5_yields_7 : decode cX5_yields 7 = .ok (.invokevirtual 190, 3) := by decide +kernel
theorem dX5_yields_10 : decode cX5_yields 10 = .ok (.istore_n 3, 1) := by decide +kernel
theorem dX5_yields_11 : decode cX5_yields 11 = .ok (.iload_n 3, 1) := by decide +kernel
theorem dX5_yields_12 : decode cX5_yields 12 = .ok (.ifCond .eq 5, 3) := by decide +kernel
theorem dX5_yields_15 : decode cX5_yields 15 = .ok (.iload_n 3, 1) := by decide +kernel
theorem dX5_yields_16 : decode cX5_yields 16 = .ok (.ireturn, 1) := by decide +kernel
theorem dX5_yields_17 : decode cX5_yields 17 = .ok (.aload_n 0, 1) := by decide +kernel
theorem dX5_yields_18 : decode cX5_yields 18 = .ok (.getfield 23, 3) := by decide +kernel
theorem dX5_yields_21 : decode cX5_yields 21 = .ok (.iload_n 1, 1) := by decide +kernel
theorem dX5_yields_22 : decode cX5_yields 22 = .ok (.iload_n 2, 1) := by decide +kernel
theorem dX5_yields_23 : decode cX5_yields 23 = .ok (.invokevirtual 211, 3) := by decide +kernel
theorem dX5_yields_26 : decode cX5_yields 26 = .ok (.aload_n 0, 1) := by decide +kernel
theorem dX5_yields_27 : decode cX5_yields 27 = .ok (.getfield 23, 3) := by decide +kernel
theorem dX5_yields_30 : decode cX5_yields 30 = .ok (.invokevirtual 219, 3) := by decide +kernel
theorem dX5_yields_33 : decode cX5_yields 33 = .ok (.ireturn, 1) := by decide +kernel
abbrev rm_X5_yields : Room := { frames := 27, cells := 0, slots := 0, locals := 771 }
noncomputable def f_X5_yields (N : Nat) (x1 : Int32) (x2 : Int32) (σ : ZS) : Option (Int32 × ZS) := obd (f_X5_refresh N σ) fun _ σ2 => obd (f_X5_limitError N x1 x2 σ2) fun v3 σ4 => (if v3 = 0 then obd (f_X0_takeLimitLoads N x1 x2 σ4) fun _ σ7 => obd (f_X0_yieldingEnds N σ7) fun v8 σ9 => some (v8, σ9) else some (v3, σ4))
set_option maxHeartbeats 4000000 in
set_option maxRecDepth 100000 in
theorem c_X5_yields (l : Launch) (G : ZG) {N : Nat} {x1 : Int32} {x2 : Int32} {σ σ' : ZS} {r : Int32} (hf : f_X5_yields N x1 x2 σ = some (r, σ')) : zMet l G yX5_yields cX5_yields 4 (some .int) rm_X5_yields [.ref (G.1 0), .int x1, .int x2] σ (some (.int r)) σ' := by
  refine z_met (by decide +kernel) rfl (fun Y h hq => ?_)
  have h : zOk (l, rm_X5_yields, 4, 0, 0) Y G cX5_yields RX5 (some .int) := h
  rw [f_X5_yields] at hf
  refine z_sub (lv' := [(0, .ref (G.1 0)), (1, .int x1), (2, .int x2)]) [0, 1, 2] rfl ?_
  refine z_aload_n h dX5_yields_0 rfl 0 rfl ?_
  obtain ⟨v1, σ2, e2, hf⟩ := obd_out hf
  refine z_cV0 h (n := 0) (c_X5_refresh l G e2) zC5 tg_0 ln_0 rfl rfl wd_278 wd_279 wd_280 wd_2 wd_281 (by decide +kernel) ⟨rfl, rfl⟩ rfl rfl rfl dX5_yields_1 ⟨Nat.zero_le _, Nat.zero_le _⟩ ?_
  refine z_aload_n h dX5_yields_4 rfl 0 rfl ?_
  refine z_iload_n h dX5_yields_5 rfl 1 rfl ?_
  refine z_iload_n h dX5_yields_6 rfl 2 rfl ?_
  obtain ⟨v3, σ4, e4, hf⟩ := obd_out hf
  refine z_cVv h (n := 2) (c_X5_limitError l G e4) zC5 tg_0 ln_0 rfl rfl wd_693 wd_694 wd_695 wd_2 wd_696 (by decide +kernel) ⟨rfl, rfl⟩ rfl rfl rfl dX5_yields_7 ⟨Nat.zero_le _, Nat.zero_le _⟩ ?_
  refine z_istore_n h dX5_yields_10 rfl (lv' := [(3, .int v3), (0, .ref (G.1 0)), (1, .int x1), (2, .int x2)]) rfl rfl ?_
  refine z_iload_n h dX5_yields_11 rfl 0 rfl ?_
  refine z_if_eq h (tgt := 17) dX5_yields_12 (by decide) (fun g5 => ?_) (fun g5 => ?_)
  · have hf := it_pos g5 hf
    refine z_aload_n h dX5_yields_17 rfl 1 rfl ?_
    refine z_gfR h zC5 (d := 7) (c := 0) tg_0 ln_0 4 rfl ft_5_4 rf_0_4 wd_20 dX5_yields_18 ?_
    refine z_iload_n h dX5_yields_21 rfl 2 rfl ?_
    refine z_iload_n h dX5_yields_22 rfl 3 rfl ?_
    obtain ⟨v6, σ7, e7, hf⟩ := obd_out hf
    refine z_cV0 h (n := 2) (c_X0_takeLimitLoads l G e7) zC0 tg_7 ln_7 rfl rfl wd_752 wd_753 wd_754 wd_19 wd_755 (by decide +kernel) ⟨rfl, rfl⟩ rfl rfl rfl dX5_yields_23 ⟨Nat.zero_le _, Nat.zero_le _⟩ ?_
    refine z_aload_n h dX5_yields_26 rfl 1 rfl ?_
    refine z_gfR h zC5 (d := 7) (c := 0) tg_0 ln_0 4 rfl ft_5_4 rf_0_4 wd_20 dX5_yields_27 ?_
    obtain ⟨v8, σ9, e9, hf⟩ := obd_out hf
    refine z_cVv h (n := 0) (c_X0_yieldingEnds l G e9) zC0 tg_7 ln_7 rfl rfl wd_788 wd_789 wd_790 wd_19 wd_791 (by decide +kernel) ⟨rfl, rfl⟩ rfl rfl rfl dX5_yields_30 ⟨Nat.zero_le _, Nat.zero_le _⟩ ?_
    exact z_iret h (rt_I hf hq) dX5_yields_33
  · have hf := it_neg g5 hf
    refine z_iload_n h dX5_yields_15 rfl 0 rfl ?_
    exact z_iret h (rt_I hf hq) dX5_yields_16
theorem dX5_binding_0 : decode cX5_binding 0 = .ok (.aload_n 0, 1) := by decide +kernel
theorem dX5_binding_1 : decode cX5_binding 1 = .ok (.invokevirtual 124, 3) := by decide +kernel
theorem dX5_binding_4 : decode cX5_binding 4 = .ok (.iload_n 3, 1) := by decide +kernel
theorem dX5_binding_5 : decode cX5_binding 5 = .ok (.iconst 0, 1) := by decide +kernel
theorem dX5_binding_6 : decode cX5_binding 6 = .ok (.iconst 1, 1) := by decide +kernel
theorem dX5_binding_7 : decode cX5_binding 7 = .ok (.invokestatic 46, 3) := by decide +kernel
theorem dX5_binding_10 : decode cX5_binding 10 = .ok (.ifCond .eq 12, 3) := by decide +kernel
theorem dX5_binding_13 : decode cX5_binding 13 = .ok (.aload_n 0, 1) := by decide +kernel
theorem dX5_binding_14 : decode cX5_binding 14 = .ok (.iload_n 1, 1) := by decide +kernel
theorem dX5_binding_15 : decode cX5_binding 15 = .ok (.iload_n 2, 1) := by decide +kernel
theorem dX5_binding_16 : decode cX5_binding 16 = .ok (.invokevirtual 190, 3) := by decide +kernel
theorem dX5_binding_19 : decode cX5_binding 19 = .ok (.goto 5, 3) := by decide +kernel
theorem dX5_binding_22 : decode cX5_binding 22 = .ok (.bipush (-2), 2) := by decide +kernel
theorem dX5_binding_24 : decode cX5_binding 24 = .ok (.istore 4, 2) := by decide +kernel
theorem dX5_binding_26 : decode cX5_binding 26 = .ok (.iload 4, 2) := by decide +kernel
theorem dX5_binding_28 : decode cX5_binding 28 = .ok (.ifCond .eq 6, 3) := by decide +kernel
theorem dX5_binding_31 : decode cX5_binding 31 = .ok (.iload 4, 2) := by decide +kernel
theorem dX5_binding_33 : decode cX5_binding 33 = .ok (.ireturn, 1) := by decide +kernel
theorem dX5_binding_34 : decode cX5_binding 34 = .ok (.aload_n 0, 1) := by decide +kernel
theorem dX5_binding_35 : decode cX5_binding 35 = .ok (.getfield 23, 3) := by decide +kernel
theorem dX5_binding_38 : decode cX5_binding 38 = .ok (.iload_n 1, 1) := by decide +kernel
theorem dX5_binding_39 : decode cX5_binding 39 = .ok (.iload_n 2, 1) := by decide +kernel
theorem dX5_binding_40 : decode cX5_binding 40 = .ok (.invokevirtual 211, 3) := by decide +kernel
theorem dX5_binding_43 : decode cX5_binding 43 = .ok (.iload_n 3, 1) := by decide +kernel
theorem dX5_binding_44 : decode cX5_binding 44 = .ok (.ifCond .ne 13, 3) := by decide +kernel
theorem dX5_binding_47 : decode cX5_binding 47 = .ok (.aload_n 0, 1) := by decide +kernel
theorem dX5_binding_48 : decode cX5_binding 48 = .ok (.getfield 23, 3) := by decide +kernel
theorem dX5_binding_51 : decode cX5_binding 51 = .ok (.invokevirtual 222, 3) := by decide +kernel
theorem dX5_binding_54 : decode cX5_binding 54 = .ok (.goto 10, 3) := by decide +kernel
theorem dX5_binding_57 : decode cX5_binding 57 = .ok (.aload_n 0, 1) := by decide +kernel
theorem dX5_binding_58 : decode cX5_binding 58 = .ok (.getfield 23, 3) := by decide +kernel
theorem dX5_binding_61 : decode cX5_binding 61 = .ok (.invokevirtual 225, 3) := by decide +kernel
theorem dX5_binding_64 : decode cX5_binding 64 = .ok (.ireturn, 1) := by decide +kernel
abbrev rm_X5_binding : Room := { frames := 27, cells := 0, slots := 0, locals := 771 }
noncomputable def f_X5_binding_b24 (N : Nat) (x1 : Int32) (x2 : Int32) (x3 : Int32) (s0 : Int32) (σ : ZS) : Option (Int32 × ZS) := (if s0 = 0 then obd (f_X0_takeLimitLoads N x1 x2 σ) fun _ σ8 => (if x3 = 0 then obd (f_X0_criticalCount N σ8) fun v12 σ13 => some (v12, σ13) else obd (f_X0_lowestCritical N σ8) fun v10 σ11 => some (v10, σ11)) else some (s0, σ))
noncomputable def f_X5_binding (N : Nat) (x1 : Int32) (x2 : Int32) (x3 : Int32) (σ : ZS) : Option (Int32 × ZS) := obd (f_X5_refresh N σ) fun _ σ2 => obd (f_X5_within N x3 (0 : Int32) (1 : Int32) σ2) fun v3 σ4 => (if v3 = 0 then f_X5_binding_b24 N x1 x2 x3 (-2 : Int32) σ4 else obd (f_X5_limitError N x1 x2 σ4) fun v14 σ15 => f_X5_binding_b24 N x1 x2 x3 v14 σ15)
set_option maxHeartbeats 4000000 in
set_option maxRecDepth 100000 in
theorem k_X5_binding_b24 {l : Launch} {Y : ZY} {G : ZG} {r : Int32} {σ' : ZS} (h : zOk (l, rm_X5_binding, 5, 0, 0) Y G cX5_binding RX5 (some .int)) (hq : zRet (l, rm_X5_binding, 5, 0, 0) Y G (some (.int r)) σ') (N : Nat) (x1 : Int32) (x2 : Int32) (x3 : Int32) (s0 : Int32) (σ : ZS) (hf : f_X5_binding_b24 N x1 x2 x3 s0 σ = some (r, σ')) : Z (l, rm_X5_binding, 5, 0, 0) Y G σ [(0, .ref (G.1 0)), (1, .int x1), (2, .int x2), (3, .int x3)] [.int s0] 24 := by
  rw [f_X5_binding_b24] at hf
  refine z_istore h dX5_binding_24 (lv' := [(4, .int s0), (0, .ref (G.1 0)), (1, .int x1), (2, .int x2), (3, .int x3)]) rfl rfl ?_
  refine z_iload h dX5_binding_26 0 rfl ?_
  refine z_if_eq h (tgt := 34) dX5_binding_28 (by decide) (fun g6 => ?_) (fun g6 => ?_)
  · have hf := it_pos g6 hf
    refine z_aload_n h dX5_binding_34 rfl 1 rfl ?_
    refine z_gfR h zC5 (d := 7) (c := 0) tg_0 ln_0 4 rfl ft_5_4 rf_0_4 wd_20 dX5_binding_35 ?_
    refine z_iload_n h dX5_binding_38 rfl 2 rfl ?_
    refine z_iload_n h dX5_binding_39 rfl 3 rfl ?_
    obtain ⟨v7, σ8, e8, hf⟩ := obd_out hf
    refine z_cV0 h (n := 2) (c_X0_takeLimitLoads l G e8) zC0 tg_7 ln_7 rfl rfl wd_752 wd_753 wd_754 wd_19 wd_755 (by decide +kernel) ⟨rfl, rfl⟩ rfl rfl rfl dX5_binding_40 ⟨Nat.zero_le _, Nat.zero_le _⟩ ?_
    refine z_iload_n h dX5_binding_43 rfl 4 rfl ?_
    refine z_if_ne h (tgt := 57) dX5_binding_44 (by decide) (fun g9 => ?_) (fun g9 => ?_)
    · have hf := it_neg g9 hf
      refine z_aload_n h dX5_binding_57 rfl 1 rfl ?_
      refine z_gfR h zC5 (d := 7) (c := 0) tg_0 ln_0 4 rfl ft_5_4 rf_0_4 wd_20 dX5_binding_58 ?_
      obtain ⟨v10, σ11, e11, hf⟩ := obd_out hf
      refine z_cVv h (n := 0) (c_X0_lowestCritical l G e11) zC0 tg_7 ln_7 rfl rfl wd_813 wd_814 wd_815 wd_19 wd_816 (by decide +kernel) ⟨rfl, rfl⟩ rfl rfl rfl dX5_binding_61 ⟨Nat.zero_le _, Nat.zero_le _⟩ ?_
      exact z_iret h (rt_I hf hq) dX5_binding_64
    · have hf := it_pos g9 hf
      refine z_aload_n h dX5_binding_47 rfl 1 rfl ?_
      refine z_gfR h zC5 (d := 7) (c := 0) tg_0 ln_0 4 rfl ft_5_4 rf_0_4 wd_20 dX5_binding_48 ?_
      obtain ⟨v12, σ13, e13, hf⟩ := obd_out hf
      refine z_cVv h (n := 0) (c_X0_criticalCount l G e13) zC0 tg_7 ln_7 rfl rfl wd_805 wd_806 wd_807 wd_19 wd_808 (by decide +kernel) ⟨rfl, rfl⟩ rfl rfl rfl dX5_binding_51 ⟨Nat.zero_le _, Nat.zero_le _⟩ ?_
      refine z_goto h (tgt := 64) dX5_binding_54 (by decide) ?_
      exact z_iret h (rt_I hf hq) dX5_binding_64
  · have hf := it_neg g6 hf
    refine z_iload h dX5_binding_31 0 rfl ?_
    exact z_iret h (rt_I hf hq) dX5_binding_33
set_option maxHeartbeats 4000000 in
set_option maxRecDepth 100000 in
theorem c_X5_binding (l : Launch) (G : ZG) {N : Nat} {x1 : Int32} {x2 : Int32} {x3 : Int32} {σ σ' : ZS} {r : Int32} (hf : f_X5_binding N x1 x2 x3 σ = some (r, σ')) : zMet l G yX5_binding cX5_binding 5 (some .int) rm_X5_binding [.ref (G.1 0), .int x1, .int x2, .int x3] σ (some (.int r)) σ' := by
  refine z_met (by decide +kernel) rfl (fun Y h hq => ?_)
  have h : zOk (l, rm_X5_binding, 5, 0, 0) Y G cX5_binding RX5 (some .int) := h
  rw [f_X5_binding] at hf
  refine z_sub (lv' := [(0, .ref (G.1 0)), (1, .int x1), (2, .int x2), (3, .int x3)]) [0, 1, 2, 3] rfl ?_
  refine z_aload_n h dX5_binding_0 rfl 0 rfl ?_
  obtain ⟨v1, σ2, e2, hf⟩ := obd_out hf
  refine z_cV0 h (n := 0) (c_X5_refresh l G e2) zC5 tg_0 ln_0 rfl rfl wd_278 wd_279 wd_280 wd_2 wd_281 (by decide +kernel) ⟨rfl, rfl⟩ rfl rfl rfl dX5_binding_1 ⟨Nat.zero_le _, Nat.zero_le _⟩ ?_
  refine z_iload_n h dX5_binding_4 rfl 3 rfl ?_
  refine z_iconst h (v := (0 : Int32)) dX5_binding_5 ic_0 ?_
  refine z_iconst h (v := (1 : Int32)) dX5_binding_6 ic_1 ?_
  obtain ⟨v3, σ4, e4, hf⟩ := obd_out hf
  refine z_cSv h (n := 3) (c_X5_within l G e4) rfl wd_133 wd_134 wd_2 wd_135 (by decide +kernel) ⟨rfl, rfl⟩ rfl rfl rfl dX5_binding_7 ⟨Nat.zero_le _, Nat.zero_le _⟩ ?_
  refine z_if_eq h (tgt := 22) dX5_binding_10 (by decide) (fun g5 => ?_) (fun g5 => ?_)
  · have hf := it_pos g5 hf
    refine z_bipush h (v := (-2 : Int32)) dX5_binding_22 bp_m2 ?_
    exact z_sub [0, 1, 2, 3] rfl (k_X5_binding_b24 h hq N x1 x2 x3 (-2 : Int32) _ hf)
  · have hf := it_neg g5 hf
    refine z_aload_n h dX5_binding_13 rfl 0 rfl ?_
    refine z_iload_n h dX5_binding_14 rfl 1 rfl ?_
    refine z_iload_n h dX5_binding_15 rfl 2 rfl ?_
    obtain ⟨v14, σ15, e15, hf⟩ := obd_out hf
    refine z_cVv h (n := 2) (c_X5_limitError l G e15) zC5 tg_0 ln_0 rfl rfl wd_693 wd_694 wd_695 wd_2 wd_696 (by decide +kernel) ⟨rfl, rfl⟩ rfl rfl rfl dX5_binding_16 ⟨Nat.zero_le _, Nat.zero_le _⟩ ?_
    refine z_goto h (tgt := 24) dX5_binding_19 (by decide) ?_
    exact z_sub [0, 1, 2, 3] rfl (k_X5_binding_b24 h hq N x1 x2 x3 v14 _ hf)
