theorem dX6_addTo_0 : decode cX6_addTo 0 = .ok (.aload_n 0, 1) := by decide +kernel
theorem dX6_addTo_1 : decode cX6_addTo 1 = .ok (.getfield 38, 3) := by decide +kernel
theorem dX6_addTo_4 : decode cX6_addTo 4 = .ok (.bipush 7, 2) := by decide +kernel
theorem dX6_addTo_6 : decode cX6_addTo 6 = .ok (.iload_n 2, 1) := by decide +kernel
theorem dX6_addTo_7 : decode cX6_addTo 7 = .ok (.imul, 1) := by decide +kernel
theorem dX6_addTo_8 : decode cX6_addTo 8 = .ok (.iload_n 3, 1) := by decide +kernel
theorem dX6_addTo_9 : decode cX6_addTo 9 = .ok (.iadd, 1) := by decide +kernel
theorem dX6_addTo_10 : decode cX6_addTo 10 = .ok (.iaload, 1) := by decide +kernel
theorem dX6_addTo_11 : decode cX6_addTo 11 = .ok (.istore 5, 2) := by decide +kernel
theorem dX6_addTo_13 : decode cX6_addTo 13 = .ok (.iload 5, 2) := by decide +kernel
theorem dX6_addTo_15 : decode cX6_addTo 15 = .ok (.ifCond .lt 21, 3) := by decide +kernel
theorem dX6_addTo_18 : decode cX6_addTo 18 = .ok (.aload_n 0, 1) := by decide +kernel
theorem dX6_addTo_19 : decode cX6_addTo 19 = .ok (.getfield 41, 3) := by decide +kernel
theorem dX6_addTo_22 : decode cX6_addTo 22 = .ok (.bipush 21, 2) := by decide +kernel
theorem dX6_addTo_24 : decode cX6_addTo 24 = .ok (.iload_n 1, 1) := by decide +kernel
theorem dX6_addTo_25 : decode cX6_addTo 25 = .ok (.imul, 1) := by decide +kernel
theorem dX6_addTo_26 : decode cX6_addTo 26 = .ok (.iload 5, 2) := by decide +kernel
theorem dX6_addTo_28 : decode cX6_addTo 28 = .ok (.iadd, 1) := by decide +kernel
theorem dX6_addTo_29 : decode cX6_addTo 29 = .ok (.dup2, 1) := by decide +kernel
theorem dX6_addTo_30 : decode cX6_addTo 30 = .ok (.laload, 1) := by decide +kernel
theorem dX6_addTo_31 : decode cX6_addTo 31 = .ok (.iload 4, 2) := by decide +kernel
theorem dX6_addTo_33 : decode cX6_addTo 33 = .ok (.i2l, 1) := by decide +kernel
theorem dX6_addTo_34 : decode cX6_addTo 34 = .ok (.ladd, 1) := by decide +kernel
theorem dX6_addTo_35 : decode cX6_addTo 35 = .ok (.lastore, 1) := by decide +kernel
theorem dX6_addTo_36 : decode cX6_addTo 36 = .ok (.return_, 1) := by decide +kernel
abbrev rm_X6_addTo : Room := { frames := 0, cells := 0, slots := 0, locals := 0 }
noncomputable def f_X6_addTo (N : Nat) (x1 : Int32) (x2 : Int32) (x3 : Int32) (x4 : Int32) (σ : ZS) : Option (Unit × ZS) := ck (inb (((7 : Int32) * x2) + x3) 21) (bd (gI σ 1076 ((((7 : Int32) * x2) + x3).toNatClampNeg)) fun v2 => (if v2 < 0 then some ((), σ) else bd (((21 : Int32) * x1) + v2) fun v4 => ck (inb v4 252) (bd ((gJ σ 1077 (v4.toNatClampNeg)) + (x4.toInt64)) fun v6 => ck (inb v4 252) (bd (sJ σ 1077 (v4.toNatClampNeg) v6) fun σ8 => some ((), σ8)))))
set_option maxHeartbeats 4000000 in
set_option maxRecDepth 100000 in
theorem c_X6_addTo (l : Launch) (G : ZG) {N : Nat} {x1 : Int32} {x2 : Int32} {x3 : Int32} {x4 : Int32} {σ σ' : ZS} {r : Unit} (hf : f_X6_addTo N x1 x2 x3 x4 σ = some (r, σ')) : zMet l G yX6_addTo cX6_addTo 6 none rm_X6_addTo [.ref (G.1 1067), .int x1, .int x2, .int x3, .int x4] σ none σ' := by
  refine z_met (by decide +kernel) rfl (fun Y h hq => ?_)
  have h : zOk (l, rm_X6_addTo, 6, 0, 0) Y G cX6_addTo RX6 none := h
  rw [f_X6_addTo] at hf
  refine z_sub (lv' := [(0, .ref (G.1 1067)), (1, .int x1), (2, .int x2), (3, .int x3), (4, .int x4)]) [0, 1, 2, 3, 4] rfl ?_
  refine z_aload_n h dX6_addTo_0 rfl 0 rfl ?_
  refine z_gfR h zC6 (d := 1076) (c := 1067) tg_1067 ln_1067 13 rfl ft_6_13 rf_1067_13 wd_97 dX6_addTo_1 ?_
  refine z_bipush h (v := (7 : Int32)) dX6_addTo_4 bp_7 ?_
  refine z_iload_n h dX6_addTo_6 rfl 2 rfl ?_
  refine z_imul h dX6_addTo_7 ?_
  refine z_iload_n h dX6_addTo_8 rfl 3 rfl ?_
  refine z_iadd h dX6_addTo_9 ?_
  obtain ⟨g1, hf⟩ := ck_out hf
  refine z_iald h (c := 1076) tg_1076 ln_1076 g1 dX6_addTo_10 ?_
  refine z_topI (fun v2 ev2 => ?_)
  have hf := bd_to ev2 hf
  refine z_istore h dX6_addTo_11 (lv' := [(5, .int v2), (0, .ref (G.1 1067)), (1, .int x1), (2, .int x2), (3, .int x3), (4, .int x4)]) rfl rfl ?_
  refine z_iload h dX6_addTo_13 0 rfl ?_
  refine z_if_lt h (tgt := 36) dX6_addTo_15 (by decide) (fun g3 => ?_) (fun g3 => ?_)
  · have hf := it_pos g3 hf
    exact z_vret h (rt_V hf hq) dX6_addTo_36
  · have hf := it_neg g3 hf
    refine z_aload_n h dX6_addTo_18 rfl 1 rfl ?_
    refine z_gfR h zC6 (d := 1077) (c := 1067) tg_1067 ln_1067 14 rfl ft_6_14 rf_1067_14 wd_98 dX6_addTo_19 ?_
    refine z_bipush h (v := (21 : Int32)) dX6_addTo_22 bp_21 ?_
    refine z_iload_n h dX6_addTo_24 rfl 2 rfl ?_
    refine z_imul h dX6_addTo_25 ?_
    refine z_iload h dX6_addTo_26 0 rfl ?_
    refine z_iadd h dX6_addTo_28 ?_
    refine z_topI (fun v4 ev4 => ?_)
    have hf := bd_to ev4 hf
    refine z_dup2_11 h dX6_addTo_29 rfl rfl ?_
    obtain ⟨g5, hf⟩ := ck_out hf
    refine z_lald h (c := 1077) tg_1077 ln_1077 g5 dX6_addTo_30 ?_
    refine z_iload h dX6_addTo_31 5 rfl ?_
    refine z_i2l h dX6_addTo_33 ?_
    refine z_ladd h dX6_addTo_34 ?_
    refine z_topJ (fun v6 ev6 => ?_)
    have hf := bd_to ev6 hf
    obtain ⟨g7, hf⟩ := ck_out hf
    refine z_last h (c := 1077) tg_1077 ln_1077 g7 dX6_addTo_35 ?_
    refine z_gen (fun σ8 eσ8 => ?_)
    have hf := bd_to eσ8 hf
    exact z_vret h (rt_V hf hq) dX6_addTo_36
theorem dX6_layRows_0 : decode cX6_layRows 0 = .ok (.iconst 0, 1) := by decide +kernel
theorem dX6_layRows_1 : decode cX6_layRows 1 = .ok (.istore_n 1, 1) := by decide +kernel
theorem dX6_layRows_2 : decode cX6_layRows 2 = .ok (.iload_n 1, 1) := by decide +kernel
theorem dX6_layRows_3 : decode cX6_layRows 3 = .ok (.sipush 252, 3) := by decide +kernel
theorem dX6_layRows_6 : decode cX6_layRows 6 = .ok (.if_icmp .ge 16, 3) := by decide +kernel
theorem dX6_layRows_9 : decode cX6_layRows 9 = .ok (.aload_n 0, 1) := by decide +kernel
theorem dX6_layRows_10 : decode cX6_layRows 10 = .ok (.getfield 41, 3) := by decide +kernel
theorem dX6_layRows_13 : decode cX6_layRows 13 = .ok (.iload_n 1, 1) := by decide +kernel
theorem dX6_layRows_14 : decode cX6_layRows 14 = .ok (.lconst 0, 1) := by decide +kernel
theorem dX6_layRows_15 : decode cX6_layRows 15 = .ok (.lastore, 1) := by decide +kernel
theorem dX6_layRows_16 : decode cX6_layRows 16 = .ok (.iinc 1 1, 3) := by decide +kernel
theorem dX6_layRows_19 : decode cX6_layRows 19 = .ok (.goto (-17), 3) := by decide +kernel
theorem dX6_layRows_22 : decode cX6_layRows 22 = .ok (.iconst 0, 1) := by decide +kernel
theorem dX6_layRows_23 : decode cX6_layRows 23 = .ok (.istore_n 1, 1) := by decide +kernel
theorem dX6_layRows_24 : decode cX6_layRows 24 = .ok (.iload_n 1, 1) := by decide +kernel
theorem dX6_layRows_25 : decode cX6_layRows 25 = .ok (.iconst 2, 1) := by decide +kernel
theorem dX6_layRows_26 : decode cX6_layRows 26 = .ok (.aload_n 0, 1) := by decide +kernel
theorem dX6_layRows_27 : decode cX6_layRows 27 = .ok (.getfield 141, 3) := by decide +kernel
theorem dX6_layRows_30 : decode cX6_layRows 30 = .ok (.imul, 1) := by decide +kernel
theorem dX6_layRows_31 : decode cX6_layRows 31 = .ok (.if_icmp .ge 108, 3) := by decide +kernel
theorem dX6_layRows_34 : decode cX6_layRows 34 = .ok (.iload_n 1, 1) := by decide +kernel
theorem dX6_layRows_35 : decode cX6_layRows 35 = .ok (.iconst 2, 1) := by decide +kernel
theorem dX6_layRows_36 : decode cX6_layRows 36 = .ok (.idiv, 1) := by decide +kernel
theorem dX6_layRows_37 : decode cX6_layRows 37 = .ok (.istore_n 2, 1) := by decide +kernel
theorem dX6_layRows_38 : decode cX6_layRows 38 = .ok (.aload_n 0, 1) := by decide +kernel
theorem dX6_layRows_39 : decode cX6_layRows 39 = .ok (.iload_n 1, 1) := by decide +kernel
theorem dX6_layRows_40 : decode cX6_layRows 40 = .ok (.iconst 2, 1) := by decide +kernel
theorem dX6_layRows_41 : decode cX6_layRows 41 = .ok (.iload_n 1, 1) := by decide +kernel
theorem dX6_layRows_42 : decode cX6_layRows 42 = .ok (.iconst 2, 1) := by decide +kernel
theorem dX6_layRows_43 : decode cX6_layRows 43 = .ok (.irem, 1) := by decide +kernel
theorem dX6_layRows_44 : decode cX6_layRows 44 = .ok (.ifCond .ne 12, 3) := by decide +kernel
theorem dX6_layRows_47 : decode cX6_layRows 47 = .ok (.aload_n 0, 1) := by decide +kernel
theorem dX6_layRows_48 : decode cX6_layRows 48 = .ok (.getfield 19, 3) := by decide +kernel
theorem dX6_layRows_51 : decode cX6_layRows 51 = .ok (.iload_n 2, 1) := by decide +kernel
theorem dX6_layRows_52 : decode cX6_layRows 52 = .ok (.iaload, 1) := by decide +kernel
theorem dX6_layRows_53 : decode cX6_layRows 53 = .ok (.goto 9, 3) := by decide +kernel
theorem dX6_layRows_56 : decode cX6_layRows 56 = .ok (.aload_n 0, 1) := by decide +kernel
theorem dX6_layRows_57 : decode cX6_layRows 57 = .ok (.getfield 22, 3) := by decide +kernel
theorem dX6_layRows_60 : decode cX6_layRows 60 = .ok (.iload_n 2, 1) := by decide +kernel
theorem dX6_layRows_61 : decode cX6_layRows 61 = .ok (.iaload, 1) := by decide +kernel
theorem dX6_layRows_62 : decode cX6_layRows 62 = .ok (.aload_n 0, 1) := by decide +kernel
theorem dX6_layRows_63 : decode cX6_layRows 63 = .ok (.iload_n 2, 1) := by decide +kernel
theorem dX6_layRows_64 : decode cX6_layRows 64 = .ok (.invokevirtual 154, 3) := by decide +kernel
theorem dX6_layRows_67 : decode cX6_layRows 67 = .ok (.invokevirtual 172, 3) := by decide +kernel
theorem dX6_layRows_70 : decode cX6_layRows 70 = .ok (.aload_n 0, 1) := by decide +kernel
theorem dX6_layRows_71 : decode cX6_layRows 71 = .ok (.iload_n 2, 1) := by decide +kernel
theorem dX6_layRows_72 : decode cX6_layRows 72 = .ok (.invokevirtual 158, 3) := by decide +kernel
theorem dX6_layRows_75 : decode cX6_layRows 75 = .ok (.ifCond .eq 32, 3) := by decide +kernel
theorem dX6_layRows_78 : decode cX6_layRows 78 = .ok (.aload_n 0, 1) := by decide +kernel
theorem dX6_layRows_79 : decode cX6_layRows 79 = .ok (.iload_n 1, 1) := by decide +kernel
theorem dX6_layRows_80 : decode cX6_layRows 80 = .ok (.iconst 1, 1) := by decide +kernel
theorem dX6_layRows_81 : decode cX6_layRows 81 = .ok (.aload_n 0, 1) := by decide +kernel
theorem dX6_layRows_82 : decode cX6_layRows 82 = .ok (.getfield 22, 3) := by decide +kernel
theorem dX6_layRows_85 : decode cX6_layRows 85 = .ok (.iload_n 2, 1) := by decide +kernel
theorem dX6_layRows_86 : decode cX6_layRows 86 = .ok (.iaload, 1) := by decide +kernel
theorem dX6_layRows_87 : decode cX6_layRows 87 = .ok (.iconst (-1), 1) := by decide +kernel
theorem dX6_layRows_88 : decode cX6_layRows 88 = .ok (.invokevirtual 172, 3) := by decide +kernel
theorem dX6_layRows_91 : decode cX6_layRows 91 = .ok (.aload_n 0, 1) := by decide +kernel
theorem dX6_layRows_92 : decode cX6_layRows 92 = .ok (.iload_n 1, 1) := by decide +kernel
theorem dX6_layRows_93 : decode cX6_layRows 93 = .ok (.iconst 1, 1) := by decide +kernel
theorem dX6_layRows_94 : decode cX6_layRows 94 = .ok (.aload_n 0, 1) := by decide +kernel
theorem dX6_layRows_95 : decode cX6_layRows 95 = .ok (.getfield 19, 3) := by decide +kernel
theorem dX6_layRows_98 : decode cX6_layRows 98 = .ok (.iload_n 2, 1) := by decide +kernel
theorem dX6_layRows_99 : decode cX6_layRows 99 = .ok (.iaload, 1) := by decide +kernel
theorem dX6_layRows_100 : decode cX6_layRows 100 = .ok (.iconst 1, 1) := by decide +kernel
theorem dX6_layRows_101 : decode cX6_layRows 101 = .ok (.invokevirtual 172, 3) := by decide +kernel
theorem dX6_layRows_104 : decode cX6_layRows 104 = .ok (.goto 29, 3) := by decide +kernel
theorem dX6_layRows_107 : decode cX6_layRows 107 = .ok (.aload_n 0, 1) := by decide +kernel
theorem dX6_layRows_108 : decode cX6_layRows 108 = .ok (.iload_n 1, 1) := by decide +kernel
theorem dX6_layRows_109 : decode cX6_layRows 109 = .ok (.iconst 0, 1) := by decide +kernel
theorem dX6_layRows_110 : decode cX6_layRows 110 = .ok (.aload_n 0, 1) := by decide +kernel
theorem dX6_layRows_111 : decode cX6_layRows 111 = .ok (.getfield 19, 3) := by decide +kernel
theorem dX6_layRows_114 : decode cX6_layRows 114 = .ok (.iload_n 2, 1) := by decide +kernel
theorem dX6_layRows_115 : decode cX6_layRows 115 = .ok (.iaload, 1) := by decide +kernel
theorem dX6_layRows_116 : decode cX6_layRows 116 = .ok (.iconst (-1), 1) := by decide +kernel
theorem dX6_layRows_117 : decode cX6_layRows 117 = .ok (.invokevirtual 172, 3) := by decide +kernel
theorem dX6_layRows_120 : decode cX6_layRows 120 = .ok (.aload_n 0, 1) := by decide +kernel
theorem dX6_layRows_121 : decode cX6_layRows 121 = .ok (.iload_n 1, 1) := by decide +kernel
theorem dX6_layRows_122 : decode cX6_layRows 122 = .ok (.iconst 0, 1) := by decide +kernel
theorem dX6_layRows_123 : decode cX6_layRows 123 = .ok (.aload_n 0, 1) := by decide +kernel
theorem dX6_layRows_124 : decode cX6_layRows 124 = .ok (.getfield 22, 3) := by decide +kernel
theorem dX6_layRows_127 : decode cX6_layRows 127 = .ok (.iload_n 2, 1) := by decide +kernel
theorem dX6_layRows_128 : decode cX6_layRows 128 = .ok (.iaload, 1) := by decide +kernel
theorem dX6_layRows_129 : decode cX6_layRows 129 = .ok (.iconst 1, 1) := by decide +kernel
theorem dX6_layRows_130 : decode cX6_layRows 130 = .ok (.invokevirtual 172, 3) := by decide +kernel
theorem dX6_layRows_133 : decode cX6_layRows 133 = .ok (.iinc 1 1, 3) := by decide +kernel
theorem dX6_layRows_136 : decode cX6_layRows 136 = .ok (.goto (-112), 3) := by decide +kernel
theorem dX6_layRows_139 : decode cX6_layRows 139 = .ok (.return_, 1) := by decide +kernel
abbrev rm_X6_layRows : Room := { frames := 1, cells := 0, slots := 0, locals := 33 }
noncomputable def f_X6_layRows_b133 (N : Nat) (kb24 : Int32 → ZS → Option (Unit × ZS)) (x1 : Int32) (σ : ZS) : Option (Unit × ZS) := bd (x1 + (1 : Int32)) fun v19 => kb24 v19 σ
noncomputable def f_X6_layRows_b62 (N : Nat) (kb24 : Int32 → ZS → Option (Unit × ZS)) (x1 : Int32) (x2 : Int32) (s1 : Int32) (s2 : Int32) (s3 : Int32) (σ : ZS) : Option (Unit × ZS) := obd (f_X6_length N x2 σ) fun v6 σ7 => obd (f_X6_addTo N s1 s2 s3 v6 σ7) fun _ σ9 => obd (f_X6_lies N x2 σ9) fun v10 σ11 => (if v10 = 0 then ck (inb x2 6) (obd (f_X6_addTo N x1 (0 : Int32) (gI σ11 1071 (x2.toNatClampNeg)) (-1 : Int32) σ11) fun _ σ15 => ck (inb x2 6) (obd (f_X6_addTo N x1 (0 : Int32) (gI σ15 1072 (x2.toNatClampNeg)) (1 : Int32) σ15) fun _ σ18 => f_X6_layRows_b133 N kb24 x1 σ18)) else ck (inb x2 6) (obd (f_X6_addTo N x1 (1 : Int32) (gI σ11 1072 (x2.toNatClampNeg)) (-1 : Int32) σ11) fun _ σ22 => ck (inb x2 6) (obd (f_X6_addTo N x1 (1 : Int32) (gI σ22 1071 (x2.toNatClampNeg)) (1 : Int32) σ22) fun _ σ25 => f_X6_layRows_b133 N kb24 x1 σ25)))
noncomputable def f_X6_layRows_h24 (N : Nat) : Nat → Int32 → ZS → Option (Unit × ZS)
  | 0, _, _ => none
  | n + 1, x1, σ => (if ((2 : Int32) * (gI σ 1067 4)) ≤ x1 then some ((), σ) else bd (x1 / (2 : Int32)) fun v3 => (if (irm x1 (2 : Int32)) = 0 then ck (inb v3 6) (f_X6_layRows_b62 N (fun x1_ σ_ => f_X6_layRows_h24 N n x1_ σ_) x1 v3 x1 (2 : Int32) (gI σ 1071 (v3.toNatClampNeg)) σ) else ck (inb v3 6) (f_X6_layRows_b62 N (fun x1_ σ_ => f_X6_layRows_h24 N n x1_ σ_) x1 v3 x1 (2 : Int32) (gI σ 1072 (v3.toNatClampNeg)) σ)))
noncomputable def f_X6_layRows_h2 (N : Nat) : Nat → Int32 → ZS → Option (Unit × ZS)
  | 0, _, _ => none
  | n + 1, x1, σ => (if (252 : Int32) ≤ x1 then f_X6_layRows_h24 N N (0 : Int32) σ else ck (inb x1 252) (bd (sJ σ 1077 (x1.toNatClampNeg) (0 : Int64)) fun σ28 => bd (x1 + (1 : Int32)) fun v29 => f_X6_layRows_h2 N n v29 σ28))
noncomputable def f_X6_layRows (N : Nat) (σ : ZS) : Option (Unit × ZS) := f_X6_layRows_h2 N N (0 : Int32) σ
set_option maxHeartbeats 4000000 in
set_option maxRecDepth 100000 in
theorem k_X6_layRows_b133 {l : Launch} {Y : ZY} {G : ZG} {σ' : ZS} (h : zOk (l, rm_X6_layRows, 3, 0, 0) Y G cX6_layRows RX6 none) (hq : zRet (l, rm_X6_layRows, 3, 0, 0) Y G none σ') (N : Nat) {kb24 : Int32 → ZS → Option (Unit × ZS)} (x1 : Int32) (hb24 : ∀ (x1_ : Int32) (σ_ : ZS), kb24 x1_ σ_ = some ((), σ') → Z (l, rm_X6_layRows, 3, 0, 0) Y G σ_ [(0, .ref (G.1 1067)), (1, .int x1_)] [] 24) (σ : ZS) (hf : f_X6_layRows_b133 N kb24 x1 σ = some ((), σ')) : Z (l, rm_X6_layRows, 3, 0, 0) Y G σ [(0, .ref (G.1 1067)), (1, .int x1)] [] 133 := by
  rw [f_X6_layRows_b133] at hf
  obtain ⟨v19, ev19, hf⟩ := bd_ex hf
  refine z_iinc h (v := v19) (lv' := [(1, .int v19), (0, .ref (G.1 1067))]) dX6_layRows_133 1 rfl (by rw [ev19]; rfl) rfl rfl ?_
  refine z_goto h (tgt := 24) dX6_layRows_136 (by decide) ?_
  exact z_sub [1, 0] rfl (hb24 _ _ hf)
set_option maxHeartbeats 4000000 in
set_option maxRecDepth 100000 in
theorem k_X6_layRows_b62 {l : Launch} {Y : ZY} {G : ZG} {σ' : ZS} (h : zOk (l, rm_X6_layRows, 3, 0, 0) Y G cX6_layRows RX6 none) (hq : zRet (l, rm_X6_layRows, 3, 0, 0) Y G none σ') (N : Nat) {kb24 : Int32 → ZS → Option (Unit × ZS)} (x1 : Int32) (x2 : Int32) (s1 : Int32) (s2 : Int32) (s3 : Int32) (hb24 : ∀ (x1_ : Int32) (σ_ : ZS), kb24 x1_ σ_ = some ((), σ') → Z (l, rm_X6_layRows, 3, 0, 0) Y G σ_ [(0, .ref (G.1 1067)), (1, .int x1_)] [] 24) (σ : ZS) (hf : f_X6_layRows_b62 N kb24 x1 x2 s1 s2 s3 σ = some ((), σ')) : Z (l, rm_X6_layRows, 3, 0, 0) Y G σ [(0, .ref (G.1 1067)), (1, .int x1), (2, .int x2)] [.int s3, .int s2, .int s1, .ref (G.1 1067)] 62 := by
  rw [f_X6_layRows_b62] at hf
  refine z_aload_n h dX6_layRows_62 rfl 0 rfl ?_
  refine z_iload_n h dX6_layRows_63 rfl 2 rfl ?_
  obtain ⟨v6, σ7, e7, hf⟩ := obd_out hf
  refine z_cVv h (n := 1) (c_X6_length l G e7) zC6 tg_1067 ln_1067 rfl rfl wd_265 wd_266 wd_267 wd_5 wd_268 (by decide +kernel) ⟨rfl, rfl⟩ rfl rfl rfl dX6_layRows_64 ⟨Nat.zero_le _, Nat.zero_le _⟩ ?_
  obtain ⟨v8, σ9, e9, hf⟩ := obd_out hf
  refine z_cV0 h (n := 4) (c_X6_addTo l G e9) zC6 tg_1067 ln_1067 rfl rfl wd_447 wd_448 wd_449 wd_5 wd_450 (by decide +kernel) ⟨rfl, rfl⟩ rfl rfl rfl dX6_layRows_67 ⟨Nat.zero_le _, Nat.zero_le _⟩ ?_
  refine z_aload_n h dX6_layRows_70 rfl 0 rfl ?_
  refine z_iload_n h dX6_layRows_71 rfl 2 rfl ?_
  obtain ⟨v10, σ11, e11, hf⟩ := obd_out hf
  refine z_cVv h (n := 1) (c_X6_lies l G e11) zC6 tg_1067 ln_1067 rfl rfl wd_269 wd_270 wd_271 wd_5 wd_272 (by decide +kernel) ⟨rfl, rfl⟩ rfl rfl rfl dX6_layRows_72 ⟨Nat.zero_le _, Nat.zero_le _⟩ ?_
  refine z_if_eq h (tgt := 107) dX6_layRows_75 (by decide) (fun g12 => ?_) (fun g12 => ?_)
  · have hf := it_pos g12 hf
    refine z_aload_n h dX6_layRows_107 rfl 0 rfl ?_
    refine z_iload_n h dX6_layRows_108 rfl 1 rfl ?_
    refine z_iconst h (v := (0 : Int32)) dX6_layRows_109 ic_0 ?_
    refine z_aload_n h dX6_layRows_110 rfl 0 rfl ?_
    refine z_gfR h zC6 (d := 1071) (c := 1067) tg_1067 ln_1067 5 rfl ft_6_5 rf_1067_5 wd_91 dX6_layRows_111 ?_
    refine z_iload_n h dX6_layRows_114 rfl 2 rfl ?_
    obtain ⟨g13, hf⟩ := ck_out hf
    refine z_iald h (c := 1071) tg_1071 ln_1071 g13 dX6_layRows_115 ?_
    refine z_iconst h (v := (-1 : Int32)) dX6_layRows_116 ic_m1 ?_
    obtain ⟨v14, σ15, e15, hf⟩ := obd_out hf
    refine z_cV0 h (n := 4) (c_X6_addTo l G e15) zC6 tg_1067 ln_1067 rfl rfl wd_447 wd_448 wd_449 wd_5 wd_450 (by decide +kernel) ⟨rfl, rfl⟩ rfl rfl rfl dX6_layRows_117 ⟨Nat.zero_le _, Nat.zero_le _⟩ ?_
    refine z_aload_n h dX6_layRows_120 rfl 0 rfl ?_
    refine z_iload_n h dX6_layRows_121 rfl 1 rfl ?_
    refine z_iconst h (v := (0 : Int32)) dX6_layRows_122 ic_0 ?_
    refine z_aload_n h dX6_layRows_123 rfl 0 rfl ?_
    refine z_gfR h zC6 (d := 1072) (c := 1067) tg_1067 ln_1067 6 rfl ft_6_6 rf_1067_6 wd_92 dX6_layRows_124 ?_
    refine z_iload_n h dX6_layRows_127 rfl 2 rfl ?_
    obtain ⟨g16, hf⟩ := ck_out hf
    refine z_iald h (c := 1072) tg_1072 ln_1072 g16 dX6_layRows_128 ?_
    refine z_iconst h (v := (1 : Int32)) dX6_layRows_129 ic_1 ?_
    obtain ⟨v17, σ18, e18, hf⟩ := obd_out hf
    refine z_cV0 h (n := 4) (c_X6_addTo l G e18) zC6 tg_1067 ln_1067 rfl rfl wd_447 wd_448 wd_449 wd_5 wd_450 (by decide +kernel) ⟨rfl, rfl⟩ rfl rfl rfl dX6_layRows_130 ⟨Nat.zero_le _, Nat.zero_le _⟩ ?_
    exact z_sub [0, 1] rfl (k_X6_layRows_b133 h hq N x1 hb24 _ hf)
  · have hf := it_neg g12 hf
    refine z_aload_n h dX6_layRows_78 rfl 0 rfl ?_
    refine z_iload_n h dX6_layRows_79 rfl 1 rfl ?_
    refine z_iconst h (v := (1 : Int32)) dX6_layRows_80 ic_1 ?_
    refine z_aload_n h dX6_layRows_81 rfl 0 rfl ?_
    refine z_gfR h zC6 (d := 1072) (c := 1067) tg_1067 ln_1067 6 rfl ft_6_6 rf_1067_6 wd_92 dX6_layRows_82 ?_
    refine z_iload_n h dX6_layRows_85 rfl 2 rfl ?_
    obtain ⟨g20, hf⟩ := ck_out hf
    refine z_iald h (c := 1072) tg_1072 ln_1072 g20 dX6_layRows_86 ?_
    refine z_iconst h (v := (-1 : Int32)) dX6_layRows_87 ic_m1 ?_
    obtain ⟨v21, σ22, e22, hf⟩ := obd_out hf
    refine z_cV0 h (n := 4) (c_X6_addTo l G e22) zC6 tg_1067 ln_1067 rfl rfl wd_447 wd_448 wd_449 wd_5 wd_450 (by decide +kernel) ⟨rfl, rfl⟩ rfl rfl rfl dX6_layRows_88 ⟨Nat.zero_le _, Nat.zero_le _⟩ ?_
    refine z_aload_n h dX6_layRows_91 rfl 0 rfl ?_
    refine z_iload_n h dX6_layRows_92 rfl 1 rfl ?_
    refine z_iconst h (v := (1 : Int32)) dX6_layRows_93 ic_1 ?_
    refine z_aload_n h dX6_layRows_94 rfl 0 rfl ?_
    refine z_gfR h zC6 (d := 1071) (c := 1067) tg_1067 ln_1067 5 rfl ft_6_5 rf_1067_5 wd_91 dX6_layRows_95 ?_
    refine z_iload_n h dX6_layRows_98 rfl 2 rfl ?_
    obtain ⟨g23, hf⟩ := ck_out hf
    refine z_iald h (c := 1071) tg_1071 ln_1071 g23 dX6_layRows_99 ?_
    refine z_iconst h (v := (1 : Int32)) dX6_layRows_100 ic_1 ?_
    obtain ⟨v24, σ25, e25, hf⟩ := obd_out hf
    refine z_cV0 h (n := 4) (c_X6_addTo l G e25) zC6 tg_1067 ln_1067 rfl rfl wd_447 wd_448 wd_449 wd_5 wd_450 (by decide +kernel) ⟨rfl, rfl⟩ rfl rfl rfl dX6_layRows_101 ⟨Nat.zero_le _, Nat.zero_le _⟩ ?_
    refine z_goto h (tgt := 133) dX6_layRows_104 (by decide) ?_
    exact z_sub [0, 1] rfl (k_X6_layRows_b133 h hq N x1 hb24 _ hf)
set_option maxHeartbeats 4000000 in
set_option maxRecDepth 100000 in
theorem k_X6_layRows_h24 {l : Launch} {Y : ZY} {G : ZG} {σ' : ZS} (h : zOk (l, rm_X6_layRows, 3, 0, 0) Y G cX6_layRows RX6 none) (hq : zRet (l, rm_X6_layRows, 3, 0, 0) Y G none σ') (N : Nat) : ∀ (n : Nat) (x1 : Int32) (σ : ZS), f_X6_layRows_h24 N n x1 σ = some ((), σ') → Z (l, rm_X6_layRows, 3, 0, 0) Y G σ [(0, .ref (G.1 1067)), (1, .int x1)] [] 24 := by
  intro n
  induction n with
  | zero =>
    intro x1 σ hf
    rw [f_X6_layRows_h24] at hf
    cases hf
  | succ n ih =>
    intro x1 σ hf
    rw [f_X6_layRows_h24] at hf
    refine z_iload_n h dX6_layRows_24 rfl 1 rfl ?_
    refine z_iconst h (v := (2 : Int32)) dX6_layRows_25 ic_2 ?_
    refine z_aload_n h dX6_layRows_26 rfl 0 rfl ?_
    refine z_gfI h zC6 (c := 1067) tg_1067 ln_1067 4 rfl ft_6_4 wd_200 dX6_layRows_27 ?_
    refine z_imul h dX6_layRows_30 ?_
    refine z_icmp_ge h (tgt := 139) dX6_layRows_31 (by decide) (fun g2 => ?_) (fun g2 => ?_)
    · have hf := it_pos g2 hf
      exact z_vret h (rt_V hf hq) dX6_layRows_139
    · have hf := it_neg g2 hf
      refine z_iload_n h dX6_layRows_34 rfl 1 rfl ?_
      refine z_iconst h (v := (2 : Int32)) dX6_layRows_35 ic_2 ?_
      refine z_idiv h dX6_layRows_36 (by decide) ?_
      refine z_topI (fun v3 ev3 => ?_)
      have hf := bd_to ev3 hf
      refine z_istore_n h dX6_layRows_37 rfl (lv' := [(2, .int v3), (0, .ref (G.1 1067)), (1, .int x1)]) rfl rfl ?_
      refine z_aload_n h dX6_layRows_38 rfl 1 rfl ?_
      refine z_iload_n h dX6_layRows_39 rfl 2 rfl ?_
      refine z_iconst h (v := (2 : Int32)) dX6_layRows_40 ic_2 ?_
      refine z_iload_n h dX6_layRows_41 rfl 2 rfl ?_
      refine z_iconst h (v := (2 : Int32)) dX6_layRows_42 ic_2 ?_
      refine z_irem h dX6_layRows_43 (by decide) ?_
      refine z_if_ne h (tgt := 56) dX6_layRows_44 (by decide) (fun g4 => ?_) (fun g4 => ?_)
      · have hf := it_neg g4 hf
        refine z_aload_n h dX6_layRows_56 rfl 1 rfl ?_
        refine z_gfR h zC6 (d := 1072) (c := 1067) tg_1067 ln_1067 6 rfl ft_6_6 rf_1067_6 wd_92 dX6_layRows_57 ?_
        refine z_iload_n h dX6_layRows_60 rfl 0 rfl ?_
        obtain ⟨g5, hf⟩ := ck_out hf
        refine z_iald h (c := 1072) tg_1072 ln_1072 g5 dX6_layRows_61 ?_
        exact z_sub [1, 2, 0] rfl (k_X6_layRows_b62 h hq N x1 v3 x1 (2 : Int32) (gI σ 1072 (v3.toNatClampNeg)) (fun x1_ σ_ hf_ => ih x1_ σ_ hf_) _ hf)
      · have hf := it_pos g4 hf
        refine z_aload_n h dX6_layRows_47 rfl 1 rfl ?_
        refine z_gfR h zC6 (d := 1071) (c := 1067) tg_1067 ln_1067 5 rfl ft_6_5 rf_1067_5 wd_91 dX6_layRows_48 ?_
        refine z_iload_n h dX6_layRows_51 rfl 0 rfl ?_
        obtain ⟨g26, hf⟩ := ck_out hf
        refine z_iald h (c := 1071) tg_1071 ln_1071 g26 dX6_layRows_52 ?_
        refine z_goto h (tgt := 62) dX6_layRows_53 (by decide) ?_
        exact z_sub [1, 2, 0] rfl (k_X6_layRows_b62 h hq N x1 v3 x1 (2 : Int32) (gI σ 1071 (v3.toNatClampNeg)) (fun x1_ σ_ hf_ => ih x1_ σ_ hf_) _ hf)
set_option maxHeartbeats 4000000 in
set_option maxRecDepth 100000 in
theorem k_X6_layRows_h2 {l : Launch} {Y : ZY} {G : ZG} {σ' : ZS} (h : zOk (l, rm_X6_layRows, 3, 0, 0) Y G cX6_layRows RX6 none) (hq : zRet (l, rm_X6_layRows, 3, 0, 0) Y G none σ') (N : Nat) : ∀ (n : Nat) (x1 : Int32) (σ : ZS), f_X6_layRows_h2 N n x1 σ = some ((), σ') → Z (l, rm_X6_layRows, 3, 0, 0) Y G σ [(0, .ref (G.1 1067)), (1, .int x1)] [] 2 := by
  intro n
  induction n with
  | zero =>
    intro x1 σ hf
    rw [f_X6_layRows_h2] at hf
    cases hf
  | succ n ih =>
    intro x1 σ hf
    rw [f_X6_layRows_h2] at hf
    refine z_iload_n h dX6_layRows_2 rfl 1 rfl ?_
    refine z_sipush h (v := (252 : Int32)) dX6_layRows_3 sp_252 ?_
    refine z_icmp_ge h (tgt := 22) dX6_layRows_6 (by decide) (fun g1 => ?_) (fun g1 => ?_)
    · have hf := it_pos g1 hf
      refine z_iconst h (v := (0 : Int32)) dX6_layRows_22 ic_0 ?_
      refine z_istore_n h dX6_layRows_23 rfl (lv' := [(1, .int (0 : Int32)), (0, .ref (G.1 1067))]) rfl rfl ?_
      exact z_sub [1, 0] rfl (k_X6_layRows_h24 h hq N _ _ _ hf)
    · have hf := it_neg g1 hf
      refine z_aload_n h dX6_layRows_9 rfl 0 rfl ?_
      refine z_gfR h zC6 (d := 1077) (c := 1067) tg_1067 ln_1067 14 rfl ft_6_14 rf_1067_14 wd_98 dX6_layRows_10 ?_
      refine z_iload_n h dX6_layRows_13 rfl 1 rfl ?_
      refine z_lconst h (v := (0 : Int64)) dX6_layRows_14 lc_0 ?_
      obtain ⟨g27, hf⟩ := ck_out hf
      refine z_last h (c := 1077) tg_1077 ln_1077 g27 dX6_layRows_15 ?_
      refine z_gen (fun σ28 eσ28 => ?_)
      have hf := bd_to eσ28 hf
      obtain ⟨v29, ev29, hf⟩ := bd_ex hf
      refine z_iinc h (v := v29) (lv' := [(1, .int v29), (0, .ref (G.1 1067))]) dX6_layRows_16 1 rfl (by rw [ev29]; rfl) rfl rfl ?_
      refine z_goto h (tgt := 2) dX6_layRows_19 (by decide) ?_
      exact z_sub [1, 0] rfl (ih _ _ hf)
set_option maxHeartbeats 4000000 in
set_option maxRecDepth 100000 in
theorem c_X6_layRows (l : Launch) (G : ZG) {N : Nat} {σ σ' : ZS} {r : Unit} (hf : f_X6_layRows N σ = some (r, σ')) : zMet l G yX6_layRows cX6_layRows 3 none rm_X6_layRows [.ref (G.1 1067)] σ none σ' := by
  refine z_met (by decide +kernel) rfl (fun Y h hq => ?_)
  have h : zOk (l, rm_X6_layRows, 3, 0, 0) Y G cX6_layRows RX6 none := h
  rw [f_X6_layRows] at hf
  refine z_sub (lv' := [(0, .ref (G.1 1067))]) [0] rfl ?_
  refine z_iconst h (v := (0 : Int32)) dX6_layRows_0 ic_0 ?_
  refine z_istore_n h dX6_layRows_1 rfl (lv' := [(1, .int (0 : Int32)), (0, .ref (G.1 1067))]) rfl rfl ?_
  exact z_sub [1, 0] rfl (k_X6_layRows_h2 h hq N _ _ _ hf)
theorem dX6_common_0 : decode cX6_common 0 = .ok (.lload_n 0, 1) := by decide +kernel
theorem dX6_common_1 : decode cX6_common 1 = .ok (.lconst 0, 1) := by decide +kernel
theorem dX6_common_2 : decode cX6_common 2 = .ok (.lcmp, 1) := by decide +kernel
theorem dX6_common_3 : decode cX6_common 3 = .ok (.ifCond .ge 8, 3) := by decide +kernel
theorem dX6_common_6 : decode cX6_common 6 = .ok (.lload_n 0, 1) := by decide +kernel
theorem dX6_common_7 : decode cX6_common 7 = .ok (.lneg, 1) := by decide +kernel
theorem dX6_common_8 : decode cX6_common 8 = .ok (.goto 4, 3) := by decide +kernel
theorem dX6_common_11 : decode cX6_common 11 = .ok (.lload_n 0, 1) := by decide +kernel
theorem dX6_common_12 : decode cX6_common 12 = .ok (.lstore 4, 2) := by decide +kernel
theorem dX6_common_14 : decode cX6_common 14 = .ok (.lload_n 2, 1) := by decide +kernel
theorem dX6_common_15 : decode cX6_common 15 = .ok (.lconst 0, 1) := by decide +kernel
theorem dX6_common_16 : decode cX6_common 16 = .ok (.lcmp, 1) := by decide +kernel
theorem dX6_common_17 : decode cX6_common 17 = .ok (.ifCond .ge 8, 3) := by decide +kernel
theorem dX6_common_20 : decode cX6_common 20 = .ok (.lload_n 2, 1) := by decide +kernel
theorem dX6_common_21 : decode cX6_common 21 = .ok (.lneg, 1) := by decide +kernel
theorem dX6_common_22 : decode cX6_common 22 = .ok (.goto 4, 3) := by decide +kernel
theorem dX6_common_25 : decode cX6_common 25 = .ok (.lload_n 2, 1) := by decide +kernel
theorem dX6_common_26 : decode cX6_common 26 = .ok (.lstore 6, 2) := by decide +kernel
theorem dX6_common_28 : decode cX6_common 28 = .ok (.iconst 0, 1) := by decide +kernel
theorem dX6_common_29 : decode cX6_common 29 = .ok (.istore 8, 2) := by decide +kernel
theorem dX6_common_31 : decode cX6_common 31 = .ok (.iload 8, 2) := by decide +kernel
theorem dX6_common_33 : decode cX6_common 33 = .ok (.sipush 200, 3) := by decide +kernel
theorem dX6_common_36 : decode cX6_common 36 = .ok (.if_icmp .ge 31, 3) := by decide +kernel
theorem dX6_common_39 : decode cX6_common 39 = .ok (.lload 6, 2) := by decide +kernel
theorem dX6_common_41 : decode cX6_common 41 = .ok (.lconst 0, 1) := by decide +kernel
theorem dX6_common_42 : decode cX6_common 42 = .ok (.lcmp, 1) := by decide +kernel
theorem dX6_common_43 : decode cX6_common 43 = .ok (.ifCond .eq 24, 3) := by decide +kernel
theorem dX6_common_46 : decode cX6_common 46 = .ok (.lload 4, 2) := by decide +kernel
theorem dX6_common_48 : decode cX6_common 48 = .ok (.lload 6, 2) := by decide +kernel
theorem dX6_common_50 : decode cX6_common 50 = .ok (.lrem, 1) := by decide +kernel
theorem dX6_common_51 : decode cX6_common 51 = .ok (.lstore 9, 2) := by decide +kernel
theorem dX6_common_53 : decode cX6_common 53 = .ok (.lload 6, 2) := by decide +kernel
theorem dX6_common_55 : decode cX6_common 55 = .ok (.lstore 4, 2) := by decide +kernel
theorem dX6_common_57 : decode cX6_common 57 = .ok (.lload 9, 2) := by decide +kernel
theorem dX6_common_59 : decode cX6_common 59 = .ok (.lstore 6, 2) := by decide +kernel
theorem dX6_common_61 : decode cX6_common 61 = .ok (.iinc 8 1, 3) := by decide +kernel
theorem dX6_common_64 : decode cX6_common 64 = .ok (.goto (-33), 3) := by decide +kernel
theorem dX6_common_67 : decode cX6_common 67 = .ok (.lload 4, 2) := by decide +kernel
theorem dX6_common_69 : decode cX6_common 69 = .ok (.lreturn, 1) := by decide +kernel
abbrev rm_X6_common : Room := { frames := 0, cells := 0, slots := 0, locals := 0 }
noncomputable def f_X6_common_h31 (N : Nat) : Nat → Int64 → Int64 → Int32 → ZS → Option (Int64 × ZS)
  | 0, _, _, _, _ => none
  | n + 1, x4, x6, x8, σ => (if (200 : Int32) ≤ x8 then some (x4, σ) else (if x6 = (0 : Int64) then some (x4, σ) else ck (!(x6 == 0)) (bd (lrm x4 x6) fun v6 => bd (x8 + (1 : Int32)) fun v7 => f_X6_common_h31 N n x6 v6 v7 σ)))
noncomputable def f_X6_common_b26 (N : Nat) (x4 : Int64) (s0 : Int64) (σ : ZS) : Option (Int64 × ZS) := f_X6_common_h31 N N x4 s0 (0 : Int32) σ
noncomputable def f_X6_common_b12 (N : Nat) (x2 : Int64) (s0 : Int64) (σ : ZS) : Option (Int64 × ZS) := (if x2 < (0 : Int64) then f_X6_common_b26 N s0 (-x2) σ else f_X6_common_b26 N s0 x2 σ)
noncomputable def f_X6_common (N : Nat) (x0 : Int64) (x2 : Int64) (σ : ZS) : Option (Int64 × ZS) := (if x0 < (0 : Int64) then f_X6_common_b12 N x2 (-x0) σ else f_X6_common_b12 N x2 x0 σ)
set_option maxHeartbeats 4000000 in
set_option maxRecDepth 100000 in
theorem k_X6_common_h31 {l : Launch} {Y : ZY} {G : ZG} {r : Int64} {σ' : ZS} (h : zOk (l, rm_X6_common, 11, 0, 0) Y G cX6_common RX6 (some .long)) (hq : zRet (l, rm_X6_common, 11, 0, 0) Y G (some (.long r)) σ') (N : Nat) : ∀ (n : Nat) (x4 : Int64) (x6 : Int64) (x8 : Int32) (σ : ZS), f_X6_common_h31 N n x4 x6 x8 σ = some (r, σ') → Z (l, rm_X6_common, 11, 0, 0) Y G σ [(4, .long x4), (6, .long x6), (8, .int x8)] [] 31 := by
  intro n
  induction n with
  | zero =>
    intro x4 x6 x8 σ hf
    rw [f_X6_common_h31] at hf
    cases hf
  | succ n ih =>
    intro x4 x6 x8 σ hf
    rw [f_X6_common_h31] at hf
    refine z_iload h dX6_common_31 2 rfl ?_
    refine z_sipush h (v := (200 : Int32)) dX6_common_33 sp_200 ?_
    refine z_icmp_ge h (tgt := 67) dX6_common_36 (by decide) (fun g3 => ?_) (fun g3 => ?_)
    · have hf := it_pos g3 hf
      refine z_lload h dX6_common_67 0 rfl ?_
      exact z_lret h (rt_J hf hq) dX6_common_69
    · have hf := it_neg g3 hf
      refine z_lload h dX6_common_39 1 rfl ?_
      refine z_lconst h (v := (0 : Int64)) dX6_common_41 lc_0 ?_
      refine z_lif_eq h (tgt := 67) dX6_common_42 dX6_common_43 (by decide) (fun g4 => ?_) (fun g4 => ?_)
      · have hf := it_pos g4 hf
        refine z_lload h dX6_common_67 0 rfl ?_
        exact z_lret h (rt_J hf hq) dX6_common_69
      · have hf := it_neg g4 hf
        refine z_lload h dX6_common_46 0 rfl ?_
        refine z_lload h dX6_common_48 1 rfl ?_
        obtain ⟨g5, hf⟩ := ck_out hf
        refine z_lrem h dX6_common_50 (nz_of g5) ?_
        refine z_topJ (fun v6 ev6 => ?_)
        have hf := bd_to ev6 hf
        refine z_lstore h dX6_common_51 (lv' := [(9, .long v6), (4, .long x4), (6, .long x6), (8, .int x8)]) rfl rfl ?_
        refine z_lload h dX6_common_53 2 rfl ?_
        refine z_lstore h dX6_common_55 (lv' := [(4, .long x6), (9, .long v6), (6, .long x6), (8, .int x8)]) rfl rfl ?_
        refine z_lload h dX6_common_57 1 rfl ?_
        refine z_lstore h dX6_common_59 (lv' := [(6, .long v6), (4, .long x6), (9, .long v6), (8, .int x8)]) rfl rfl ?_
        obtain ⟨v7, ev7, hf⟩ := bd_ex hf
        refine z_iinc h (v := v7) (lv' := [(8, .int v7), (6, .long v6), (4, .long x6), (9, .long v6)]) dX6_common_61 3 rfl (by rw [ev7]; rfl) rfl rfl ?_
        refine z_goto h (tgt := 31) dX6_common_64 (by decide) ?_
        exact z_sub [2, 1, 0] rfl (ih _ _ _ _ hf)
set_option maxHeartbeats 4000000 in
set_option maxRecDepth 100000 in
theorem k_X6_common_b26 {l : Launch} {Y : ZY} {G : ZG} {r : Int64} {σ' : ZS} (h : zOk (l, rm_X6_common, 11, 0, 0) Y G cX6_common RX6 (some .long)) (hq : zRet (l, rm_X6_common, 11, 0, 0) Y G (some (.long r)) σ') (N : Nat) (x4 : Int64) (s0 : Int64) (σ : ZS) (hf : f_X6_common_b26 N x4 s0 σ = some (r, σ')) : Z (l, rm_X6_common, 11, 0, 0) Y G σ [(4, .long x4)] [.long s0] 26 := by
  rw [f_X6_common_b26] at hf
  refine z_lstore h dX6_common_26 (lv' := [(6, .long s0), (4, .long x4)]) rfl rfl ?_
  refine z_iconst h (v := (0 : Int32)) dX6_common_28 ic_0 ?_
  refine z_istore h dX6_common_29 (lv' := [(8, .int (0 : Int32)), (6, .long s0), (4, .long x4)]) rfl rfl ?_
  exact z_sub [2, 1, 0] rfl (k_X6_common_h31 h hq N _ _ _ _ _ hf)
set_option maxHeartbeats 4000000 in
set_option maxRecDepth 100000 in
theorem k_X6_common_b12 {l : Launch} {Y : ZY} {G : ZG} {r : Int64} {σ' : ZS} (h : zOk (l, rm_X6_common, 11, 0, 0) Y G cX6_common RX6 (some .long)) (hq : zRet (l, rm_X6_common, 11, 0, 0) Y G (some (.long r)) σ') (N : Nat) (x2 : Int64) (s0 : Int64) (σ : ZS) (hf : f_X6_common_b12 N x2 s0 σ = some (r, σ')) : Z (l, rm_X6_common, 11, 0, 0) Y G σ [(2, .long x2)] [.long s0] 12 := by
  rw [f_X6_common_b12] at hf
  refine z_lstore h dX6_common_12 (lv' := [(4, .long s0), (2, .long x2)]) rfl rfl ?_
  refine z_lload_n h dX6_common_14 rfl 1 rfl ?_
  refine z_lconst h (v := (0 : Int64)) dX6_common_15 lc_0 ?_
  refine z_lif_ge h (tgt := 25) dX6_common_16 dX6_common_17 (by decide) (fun g2 => ?_) (fun g2 => ?_)
  · have hf := it_neg g2 hf
    refine z_lload_n h dX6_common_25 rfl 1 rfl ?_
    exact z_sub [0] rfl (k_X6_common_b26 h hq N s0 x2 _ hf)
  · have hf := it_pos g2 hf
    refine z_lload_n h dX6_common_20 rfl 1 rfl ?_
    refine z_lneg h dX6_common_21 ?_
    refine z_goto h (tgt := 26) dX6_common_22 (by decide) ?_
    exact z_sub [0] rfl (k_X6_common_b26 h hq N s0 (-x2) _ hf)
set_option maxHeartbeats 4000000 in
set_option maxRecDepth 100000 in
theorem c_X6_common (l : Launch) (G : ZG) {N : Nat} {x0 : Int64} {x2 : Int64} {σ σ' : ZS} {r : Int64} (hf : f_X6_common N x0 x2 σ = some (r, σ')) : zMet l G yX6_common cX6_common 11 (some .long) rm_X6_common [.long x0, .long x2] σ (some (.long r)) σ' := by
  refine z_met (by decide +kernel) rfl (fun Y h hq => ?_)
  have h : zOk (l, rm_X6_common, 11, 0, 0) Y G cX6_common RX6 (some .long) := h
  rw [f_X6_common] at hf
  refine z_sub (lv' := [(0, .long x0), (2, .long x2)]) [0, 1] rfl ?_
  refine z_lload_n h dX6_common_0 rfl 0 rfl ?_
  refine z_lconst h (v := (0 : Int64)) dX6_common_1 lc_0 ?_
  refine z_lif_ge h (tgt := 11) dX6_common_2 dX6_common_3 (by decide) (fun g1 => ?_) (fun g1 => ?_)
  · have hf := it_neg g1 hf
    refine z_lload_n h dX6_common_11 rfl 0 rfl ?_
    exact z_sub [1] rfl (k_X6_common_b12 h hq N x2 x0 _ hf)
  · have hf := it_pos g1 hf
    refine z_lload_n h dX6_common_6 rfl 0 rfl ?_
    refine z_lneg h dX6_common_7 ?_
    refine z_goto h (tgt := 12) dX6_common_8 (by decide) ?_
    exact z_sub [1] rfl (k_X6_common_b12 h hq N x2 (-x0) _ hf)
theorem dX6_shorten_0 : decode cX6_shorten 0 = .ok (.lconst 0, 1) := by decide +kernel
theorem dX6_shorten_1 : decode cX6_shorten 1 = .ok (.lstore_n 2, 1) := by decide +kernel
theorem dX6_shorten_2 : decode cX6_shorten 2 = .ok (.iconst 0, 1) := by decide +kernel
theorem dX6_shorten_3 : decode cX6_shorten 3 = .ok (.istore 4, 2) := by decide +kernel
theorem dX6_shorten_5 : decode cX6_shorten 5 = .ok (.iload 4, 2) := by decide +kernel
theorem dX6_shorten_7 : decode cX6_shorten 7 = .ok (.aload_n 0, 1) := by decide +kernel
theorem dX6_shorten_8 : decode cX6_shorten 8 = .ok (.getfield 165, 3) := by decide +kernel
theorem dX6_shorten_11 : decode cX6_shorten 11 = .ok (.if_icmp .ge 23, 3) := by decide +kernel
theorem dX6_shorten_14 : decode cX6_shorten 14 = .ok (.lload_n 2, 1) := by decide +kernel
theorem dX6_shorten_15 : decode cX6_shorten 15 = .ok (.aload_n 0, 1) := by decide +kernel
theorem dX6_shorten_16 : decode cX6_shorten 16 = .ok (.getfield 45, 3) := by decide +kernel
theorem dX6_shorten_19 : decode cX6_shorten 19 = .ok (.iload_n 1, 1) := by decide +kernel
theorem dX6_shorten_20 : decode cX6_shorten 20 = .ok (.iload 4, 2) := by decide +kernel
theorem dX6_shorten_22 : decode cX6_shorten 22 = .ok (.iadd, 1) := by decide +kernel
theorem dX6_shorten_23 : decode cX6_shorten 23 = .ok (.laload, 1) := by decide +kernel
theorem dX6_shorten_24 : decode cX6_shorten 24 = .ok (.invokestatic 179, 3) := by decide +kernel
theorem dX6_shorten_27 : decode cX6_shorten 27 = .ok (.lstore_n 2, 1) := by decide +kernel
theorem dX6_shorten_28 : decode cX6_shorten 28 = .ok (.iinc 4 1, 3) := by decide +kernel
theorem dX6_shorten_31 : decode cX6_shorten 31 = .ok (.goto (-26), 3) := by decide +kernel
theorem dX6_shorten_34 : decode cX6_shorten 34 = .ok (.iconst 0, 1) := by decide +kernel
theorem dX6_shorten_35 : decode cX6_shorten 35 = .ok (.istore 4, 2) := by decide +kernel
theorem dX6_shorten_37 : decode cX6_shorten 37 = .ok (.iload 4, 2) := by decide +kernel
theorem dX6_shorten_39 : decode cX6_shorten 39 = .ok (.aload_n 0, 1) := by decide +kernel
theorem dX6_shorten_40 : decode cX6_shorten 40 = .ok (.getfield 165, 3) := by decide +kernel
theorem dX6_shorten_43 : decode cX6_shorten 43 = .ok (.if_icmp .ge 28, 3) := by decide +kernel
theorem dX6_shorten_46 : decode cX6_shorten 46 = .ok (.lload_n 2, 1) := by decide +kernel
theorem dX6_shorten_47 : decode cX6_shorten 47 = .ok (.lconst 1, 1) := by decide +kernel
theorem dX6_shorten_48 : decode cX6_shorten 48 = .ok (.lcmp, 1) := by decide +kernel
theorem dX6_shorten_49 : decode cX6_shorten 49 = .ok (.ifCond .le 22, 3) := by decide +kernel
theorem dX6_shorten_52 : decode cX6_shorten 52 = .ok (.aload_n 0, 1) := by decide +kernel
theorem dX6_shorten_53 : decode cX6_shorten 53 = .ok (.getfield 45, 3) := by decide +kernel
theorem dX6_shorten_56 : decode cX6_shorten 56 = .ok (.iload_n 1, 1) := by decide +kernel
theorem dX6_shorten_57 : decode cX6_shorten 57 = .ok (.iload 4, 2) := by decide +kernel
theorem dX6_shorten_59 : decode cX6_shorten 59 = .ok (.iadd, 1) := by decide +kernel
theorem dX6_shorten_60 : decode cX6_shorten 60 = .ok (.dup2, 1) := by decide +kernel
theorem dX6_shorten_61 : decode cX6_shorten 61 = .ok (.laload, 1) := by decide +kernel
theorem dX6_shorten_62 : decode cX6_shorten 62 = .ok (.lload_n 2, 1) := by decide +kernel
theorem dX6_shorten_63 : decode cX6_shorten 63 = .ok (.ldiv, 1) := by decide +kernel
theorem dX6_shorten_64 : decode cX6_shorten 64 = .ok (.lastore, 1) := by decide +kernel
theorem dX6_shorten_65 : decode cX6_shorten 65 = .ok (.iinc 4 1, 3) := by decide +kernel
theorem dX6_shorten_68 : decode cX6_shorten 68 = .ok (.goto (-31), 3) := by decide +kernel
theorem dX6_shorten_71 : decode cX6_shorten 71 = .ok (.return_, 1) := by decide +kernel
abbrev rm_X6_shorten : Room := { frames := 1, cells := 0, slots := 0, locals := 38 }
noncomputable def f_X6_shorten_h37 (N : Nat) (x1 : Int32) (x2 : Int64) : Nat → Int32 → ZS → Option (Unit × ZS)
  | 0, _, _ => none
  | n + 1, x4, σ => (if (gI σ 1067 10) ≤ x4 then some ((), σ) else (if (1 : Int64) < x2 then bd (x1 + x4) fun v4 => ck (inb v4 252) (ck (!(x2 == 0)) (bd ((gJ σ 1078 (v4.toNatClampNeg)) / x2) fun v7 => ck (inb v4 252) (bd (sJ σ 1078 (v4.toNatClampNeg) v7) fun σ9 => bd (x4 + (1 : Int32)) fun v10 => f_X6_shorten_h37 N x1 x2 n v10 σ9))) else some ((), σ)))
noncomputable def f_X6_shorten_h5 (N : Nat) (x1 : Int32) : Nat → Int64 → Int32 → ZS → Option (Unit × ZS)
  | 0, _, _, _ => none
  | n + 1, x2, x4, σ => (if (gI σ 1067 10) ≤ x4 then f_X6_shorten_h37 N x1 x2 N (0 : Int32) σ else ck (inb (x1 + x4) 252) (obd (f_X6_common N x2 (gJ σ 1078 ((x1 + x4).toNatClampNeg)) σ) fun v12 σ13 => bd (x4 + (1 : Int32)) fun v14 => f_X6_shorten_h5 N x1 n v12 v14 σ13))
noncomputable def f_X6_shorten (N : Nat) (x1 : Int32) (σ : ZS) : Option (Unit × ZS) := f_X6_shorten_h5 N x1 N (0 : Int64) (0 : Int32) σ
set_option maxHeartbeats 4000000 in
set_option maxRecDepth 100000 in
theorem k_X6_shorten_h37 {l : Launch} {Y : ZY} {G : ZG} {σ' : ZS} (h : zOk (l, rm_X6_shorten, 5, 0, 0) Y G cX6_shorten RX6 none) (hq : zRet (l, rm_X6_shorten, 5, 0, 0) Y G none σ') (N : Nat) (x1 : Int32) (x2 : Int64) : ∀ (n : Nat) (x4 : Int32) (σ : ZS), f_X6_shorten_h37 N x1 x2 n x4 σ = some ((), σ') → Z (l, rm_X6_shorten, 5, 0, 0) Y G σ [(0, .ref (G.1 1067)), (1, .int x1), (2, .long x2), (4, .int x4)] [] 37 := by
  intro n
  induction n with
  | zero =>
    intro x4 σ hf
    rw [f_X6_shorten_h37] at hf
    cases hf
  | succ n ih =>
    intro x4 σ hf
    rw [f_X6_shorten_h37] at hf
    refine z_iload h dX6_shorten_37 3 rfl ?_
    refine z_aload_n h dX6_shorten_39 rfl 0 rfl ?_
    refine z_gfI h zC6 (c := 1067) tg_1067 ln_1067 10 rfl ft_6_10 wd_424 dX6_shorten_40 ?_
    refine z_icmp_ge h (tgt := 71) dX6_shorten_43 (by decide) (fun g2 => ?_) (fun g2 => ?_)
    · have hf := it_pos g2 hf
      exact z_vret h (rt_V hf hq) dX6_shorten_71
    · have hf := it_neg g2 hf
      refine z_lload_n h dX6_shorten_46 rfl 2 rfl ?_
      refine z_lconst h (v := (1 : Int64)) dX6_shorten_47 lc_1 ?_
      refine z_lif_le h (tgt := 71) dX6_shorten_48 dX6_shorten_49 (by decide) (fun g3 => ?_) (fun g3 => ?_)
      · have hf := it_neg g3 hf
        exact z_vret h (rt_V hf hq) dX6_shorten_71
      · have hf := it_pos g3 hf
        refine z_aload_n h dX6_shorten_52 rfl 0 rfl ?_
        refine z_gfR h zC6 (d := 1078) (c := 1067) tg_1067 ln_1067 15 rfl ft_6_15 rf_1067_15 wd_99 dX6_shorten_53 ?_
        refine z_iload_n h dX6_shorten_56 rfl 1 rfl ?_
        refine z_iload h dX6_shorten_57 3 rfl ?_
        refine z_iadd h dX6_shorten_59 ?_
        refine z_topI (fun v4 ev4 => ?_)
        have hf := bd_to ev4 hf
        refine z_dup2_11 h dX6_shorten_60 rfl rfl ?_
        obtain ⟨g5, hf⟩ := ck_out hf
        refine z_lald h (c := 1078) tg_1078 ln_1078 g5 dX6_shorten_61 ?_
        refine z_lload_n h dX6_shorten_62 rfl 2 rfl ?_
        obtain ⟨g6, hf⟩ := ck_out hf
        refine z_ldiv h dX6_shorten_63 (nz_of g6) ?_
        refine z_topJ (fun v7 ev7 => ?_)
        have hf := bd_to ev7 hf
        obtain ⟨g8, hf⟩ := ck_out hf
        refine z_last h (c := 1078) tg_1078 ln_1078 g8 dX6_shorten_64 ?_
        refine z_gen (fun σ9 eσ9 => ?_)
        have hf := bd_to eσ9 hf
        obtain ⟨v10, ev10, hf⟩ := bd_ex hf
        refine z_iinc h (v := v10) (lv' := [(4, .int v10), (0, .ref (G.1 1067)), (1, .int x1), (2, .long x2)]) dX6_shorten_65 3 rfl (by rw [ev10]; rfl) rfl rfl ?_
        refine z_goto h (tgt := 37) dX6_shorten_68 (by decide) ?_
        exact z_sub [1, 2, 3, 0] rfl (ih _ _ hf)
set_option maxHeartbeats 4000000 in
set_option maxRecDepth 100000 in
theorem k_X6_shorten_h5 {l : Launch} {Y : ZY} {G : ZG} {σ' : ZS} (h : zOk (l, rm_X6_shorten, 5, 0, 0) Y G cX6_shorten RX6 none) (hq : zRet (l, rm_X6_shorten, 5, 0, 0) Y G none σ') (N : Nat) (x1 : Int32) : ∀ (n : Nat) (x2 : Int64) (x4 : Int32) (σ : ZS), f_X6_shorten_h5 N x1 n x2 x4 σ = some ((), σ') → Z (l, rm_X6_shorten, 5, 0, 0) Y G σ [(0, .ref (G.1 1067)), (1, .int x1), (2, .long x2), (4, .int x4)] [] 5 := by
  intro n
  induction n with
  | zero =>
    intro x2 x4 σ hf
    rw [f_X6_shorten_h5] at hf
    cases hf
  | succ n ih =>
    intro x2 x4 σ hf
    rw [f_X6_shorten_h5] at hf
    refine z_iload h dX6_shorten_5 3 rfl ?_
    refine z_aload_n h dX6_shorten_7 rfl 0 rfl ?_
    refine z_gfI h zC6 (c := 1067) tg_1067 ln_1067 10 rfl ft_6_10 wd_424 dX6_shorten_8 ?_
    refine z_icmp_ge h (tgt := 34) dX6_shorten_11 (by decide) (fun g1 => ?_) (fun g1 => ?_)
    · have hf := it_pos g1 hf
      refine z_iconst h (v := (0 : Int32)) dX6_shorten_34 ic_0 ?_
      refine z_istore h dX6_shorten_35 (lv' := [(4, .int (0 : Int32)), (0, .ref (G.1 1067)), (1, .int x1), (2, .long x2)]) rfl rfl ?_
      exact z_sub [1, 2, 3, 0] rfl (k_X6_shorten_h37 h hq N x1 x2 _ _ _ hf)
    · have hf := it_neg g1 hf
      refine z_lload_n h dX6_shorten_14 rfl 2 rfl ?_
      refine z_aload_n h dX6_shorten_15 rfl 0 rfl ?_
      refine z_gfR h zC6 (d := 1078) (c := 1067) tg_1067 ln_1067 15 rfl ft_6_15 rf_1067_15 wd_99 dX6_shorten_16 ?_
      refine z_iload_n h dX6_shorten_19 rfl 1 rfl ?_
      refine z_iload h dX6_shorten_20 3 rfl ?_
      refine z_iadd h dX6_shorten_22 ?_
      obtain ⟨g11, hf⟩ := ck_out hf
      refine z_lald h (c := 1078) tg_1078 ln_1078 g11 dX6_shorten_23 ?_
      obtain ⟨v12, σ13, e13, hf⟩ := obd_out hf
      refine z_cSv h (n := 2) (c_X6_common l G e13) rfl wd_463 wd_464 wd_5 wd_465 (by decide +kernel) ⟨rfl, rfl⟩ rfl rfl rfl dX6_shorten_24 ⟨Nat.zero_le _, Nat.zero_le _⟩ ?_
      refine z_lstore_n h dX6_shorten_27 rfl (lv' := [(2, .long v12), (0, .ref (G.1 1067)), (1, .int x1), (4, .int x4)]) rfl rfl ?_
      obtain ⟨v14, ev14, hf⟩ := bd_ex hf
      refine z_iinc h (v := v14) (lv' := [(4, .int v14), (2, .long v12), (0, .ref (G.1 1067)), (1, .int x1)]) dX6_shorten_28 3 rfl (by rw [ev14]; rfl) rfl rfl ?_
      refine z_goto h (tgt := 5) dX6_shorten_31 (by decide) ?_
      exact z_sub [2, 3, 1, 0] rfl (ih _ _ _ hf)
set_option maxHeartbeats 4000000 in
set_option maxRecDepth 100000 in
theorem c_X6_shorten (l : Launch) (G : ZG) {N : Nat} {x1 : Int32} {σ σ' : ZS} {r : Unit} (hf : f_X6_shorten N x1 σ = some (r, σ')) : zMet l G yX6_shorten cX6_shorten 5 none rm_X6_shorten [.ref (G.1 1067), .int x1] σ none σ' := by
  refine z_met (by decide +kernel) rfl (fun Y h hq => ?_)
  have h : zOk (l, rm_X6_shorten, 5, 0, 0) Y G cX6_shorten RX6 none := h
  rw [f_X6_shorten] at hf
  refine z_sub (lv' := [(0, .ref (G.1 1067)), (1, .int x1)]) [0, 1] rfl ?_
  refine z_lconst h (v := (0 : Int64)) dX6_shorten_0 lc_0 ?_
  refine z_lstore_n h dX6_shorten_1 rfl (lv' := [(2, .long (0 : Int64)), (0, .ref (G.1 1067)), (1, .int x1)]) rfl rfl ?_
  refine z_iconst h (v := (0 : Int32)) dX6_shorten_2 ic_0 ?_
  refine z_istore h dX6_shorten_3 (lv' := [(4, .int (0 : Int32)), (2, .long (0 : Int64)), (0, .ref (G.1 1067)), (1, .int x1)]) rfl rfl ?_
  exact z_sub [2, 3, 1, 0] rfl (k_X6_shorten_h5 h hq N x1 _ _ _ _ hf)
theorem dX6_isPut_0 : decode cX6_isPut 0 = .ok (.bipush 21, 2) := by decide +kernel
theorem dX6_isPut_2 : decode cX6_isPut 2 = .ok (.iload_n 2, 1) := by decide +kernel
theorem dX6_isPut_3 : decode cX6_isPut 3 = .ok (.imul, 1) := by decide +kernel
theorem dX6_isPut_4 : decode cX6_isPut 4 = .ok (.istore_n 3, 1) := by decide +kernel
theorem dX6_isPut_5 : decode cX6_isPut 5 = .ok (.iconst 0, 1) := by decide +kernel
theorem dX6_isPut_6 : decode cX6_isPut 6 = .ok (.istore 4, 2) := by decide +kernel
theorem dX6_isPut_8 : decode cX6_isPut 8 = .ok (.iload 4, 2) := by decide +kernel
theorem dX6_isPut_10 : decode cX6_isPut 10 = .ok (.aload_n 0, 1) := by decide +kernel
theorem dX6_isPut_11 : decode cX6_isPut 11 = .ok (.getfield 165, 3) := by decide +kernel
theorem dX6_isPut_14 : decode cX6_isPut 14 = .ok (.if_icmp .ge 30, 3) := by decide +kernel
theorem dX6_isPut_17 : decode cX6_isPut 17 = .ok (.aload_n 0, 1) := by decide +kernel
theorem dX6_isPut_18 : decode cX6_isPut 18 = .ok (.getfield 45, 3) := by decide +kernel
theorem dX6_isPut_21 : decode cX6_isPut 21 = .ok (.iload_n 3, 1) := by decide +kernel
theorem dX6_isPut_22 : decode cX6_isPut 22 = .ok (.iload 4, 2) := by decide +kernel
theorem dX6_isPut_24 : decode cX6_isPut 24 = .ok (.iadd, 1) := by decide +kernel
theorem dX6_isPut_25 : decode cX6_isPut 25 = .ok (.aload_n 0, 1) := by decide +kernel
theorem dX6_isPut_26 : decode cX6_isPut 26 = .ok (.getfield 41, 3) := by decide +kernel
theorem dX6_isPut_29 : decode cX6_isPut 29 = .ok (.bipush 21, 2) := by decide +kernel
theorem dX6_isPut_31 : decode cX6_isPut 31 = .ok (.iload_n 1, 1) := by decide +kernel
theorem dX6_isPut_32 : decode cX6_isPut 32 = .ok (.imul, 1) := by decide +kernel
theorem dX6_isPut_33 : decode cX6_isPut 33 = .ok (.iload 4, 2) := by decide +kernel
theorem dX6_isPut_35 : decode cX6_isPut 35 = .ok (.iadd, 1) := by decide +kernel
theorem dX6_isPut_36 : decode cX6_isPut 36 = .ok (.laload, 1) := by decide +kernel
theorem dX6_isPut_37 : decode cX6_isPut 37 = .ok (.lastore, 1) := by decide +kernel
theorem dX6_isPut_38 : decode cX6_isPut 38 = .ok (.iinc 4 1, 3) := by decide +kernel
theorem dX6_isPut_41 : decode cX6_isPut 41 = .ok (.goto (-33), 3) := by decide +kernel
theorem dX6_isPut_44 : decode cX6_isPut 44 = .ok (.iconst 0, 1) := by decide +kernel
theorem dX6_isPut_45 : decode cX6_isPut 45 = .ok (.istore 4, 2) := by decide +kernel
theorem dX6_isPut_47 : decode cX6_isPut 47 = .ok (.iload 4, 2) := by decide +kernel
theorem dX6_isPut_49 : decode cX6_isPut 49 = .ok (.iload_n 2, 1) := by decide +kernel
theorem dX6_isPut_50 : decode cX6_isPut 50 = .ok (.if_icmp .ge 113, 3) := by decide +kernel
theorem dX6_isPut_53 : decode cX6_isPut 53 = .ok (.aload_n 0, 1) := by decide +kernel
theorem dX6_isPut_54 : decode cX6_isPut 54 = .ok (.getfield 45, 3) := by decide +kernel
theorem dX6_isPut_57 : decode cX6_isPut 57 = .ok (.bipush 21, 2) := by decide +kernel
theorem dX6_isPut_59 : decode cX6_isPut 59 = .ok (.iload 4, 2) := by decide +kernel
theorem dX6_isPut_61 : decode cX6_isPut 61 = .ok (.imul, 1) := by decide +kernel
theorem dX6_isPut_62 : decode cX6_isPut 62 = .ok (.aload_n 0, 1) := by decide +kernel
theorem dX6_isPut_63 : decode cX6_isPut 63 = .ok (.getfield 48, 3) := by decide +kernel
theorem dX6_isPut_66 : decode cX6_isPut 66 = .ok (.iload 4, 2) := by decide +kernel
theorem dX6_isPut_68 : decode cX6_isPut 68 = .ok (.iaload, 1) := by decide +kernel
theorem dX6_isPut_69 : decode cX6_isPut 69 = .ok (.iadd, 1) := by decide +kernel
theorem dX6_isPut_70 : decode cX6_isPut 70 = .ok (.laload, 1) := by decide +kernel
theorem dX6_isPut_71 : decode cX6_isPut 71 = .ok (.lstore 5, 2) := by decide +kernel
theorem dX6_isPut_73 : decode cX6_isPut 73 = .ok (.aload_n 0, 1) := by decide +kernel
theorem dX6_isPut_74 : decode cX6_isPut 74 = .ok (.getfield 45, 3) := by decide +kernel
theorem dX6_isPut_77 : decode cX6_isPut 77 = .ok (.iload_n 3, 1) := by decide +kernel
theorem dX6_isPut_78 : decode cX6_isPut 78 = .ok (.aload_n 0, 1) := by decide +kernel
theorem dX6_isPut_79 : decode cX6_isPut 79 = .ok (.getfield 48, 3) := by decide +kernel
theorem dX6_isPut_82 : decode cX6_isPut 82 = .ok (.iload 4, 2) := by decide +kernel
theorem dX6_isPut_84 : decode cX6_isPut 84 = .ok (.iaload, 1) := by decide +kernel
theorem dX6_isPut_85 : decode cX6_isPut 85 = .ok (.iadd, 1) := by decide +kernel
theorem dX6_isPut_86 : decode cX6_isPut 86 = .ok (.laload, 1) := by decide +kernel
theorem dX6_isPut_87 : decode cX6_isPut 87 = .ok (.lstore 7, 2) := by decide +kernel
theorem dX6_isPut_89 : decode cX6_isPut 89 = .ok (.iconst 0, 1) := by decide +kernel
theorem dX6_isPut_90 : decode cX6_isPut 90 = .ok (.istore 9, 2) := by decide +kernel
theorem dX6_isPut_92 : decode cX6_isPut 92 = .ok (.iload 9, 2) := by decide +kernel
theorem dX6_isPut_94 : decode cX6_isPut 94 = .ok (.aload_n 0, 1) := by decide +kernel
theorem dX6_isPut_95 : decode cX6_isPut 95 = .ok (.getfield 165, 3) := by decide +kernel
theorem dX6_isPut_98 : decode cX6_isPut 98 = .ok (.if_icmp .ge 54, 3) := by decide +kernel
theorem dX6_isPut_101 : decode cX6_isPut 101 = .ok (.lload 7, 2) := by decide +kernel
theorem dX6_isPut_103 : decode cX6_isPut 103 = .ok (.lconst 0, 1) := by decide +kernel
theorem dX6_isPut_104 : decode cX6_isPut 104 = .ok (.lcmp, 1) := by decide +kernel
theorem dX6_isPut_105 : decode cX6_isPut 105 = .ok (.ifCond .eq 47, 3) := by decide +kernel
theorem dX6_isPut_108 : decode cX6_isPut 108 = .ok (.aload_n 0, 1) := by decide +kernel
theorem dX6_isPut_109 : decode cX6_isPut 109 = .ok (.getfield 45, 3) := by decide +kernel
theorem dX6_isPut_112 : decode cX6_isPut 112 = .ok (.iload_n 3, 1) := by decide +kernel
theorem dX6_isPut_113 : decode cX6_isPut 113 = .ok (.iload 9, 2) := by decide +kernel
theorem dX6_isPut_115 : decode cX6_isPut 115 = .ok (.iadd, 1) := by decide +kernel
theorem dX6_isPut_116 : decode cX6_isPut 116 = .ok (.aload_n 0, 1) := by decide +kernel
theorem dX6_isPut_117 : decode cX6_isPut 117 = .ok (.getfield 45, 3) := by decide +kernel
theorem dX6_isPut_120 : decode cX6_isPut 120 = .ok (.iload_n 3, 1) := by decide +kernel
theorem dX6_isPut_121 : decode cX6_isPut 121 = .ok (.iload 9, 2) := by decide +kernel
theorem dX6_isPut_123 : decode cX6_isPut 123 = .ok (.iadd, 1) := by decide +kernel
theorem dX6_isPut_124 : decode cX6_isPut 124 = .ok (.laload, 1) := by decide +kernel
theorem dX6_isPut_125 : decode cX6_isPut 125 = .ok (.lload 5, 2) := by decide +kernel
theorem dX6_isPut_127 : decode cX6_isPut 127 = .ok (.lmul, 1) := by decide +kernel
theorem dX6_isPut_128 : decode cX6_isPut 128 = .ok (.aload_n 0, 1) := by decide +kernel
theorem dX6_isPut_129 : decode cX6_isPut 129 = .ok (.getfield 45, 3) := by decide +kernel
theorem dX6_isPut_132 : decode cX6_isPut 132 = .ok (.bipush 21, 2) := by decide +kernel
theorem dX6_isPut_134 : decode cX6_isPut 134 = .ok (.iload 4, 2) := by decide +kernel
theorem dX6_isPut_136 : decode cX6_isPut 136 = .ok (.imul, 1) := by decide +kernel
theorem dX6_isPut_137 : decode cX6_isPut 137 = .ok (.iload 9, 2) := by decide +kernel
theorem dX6_isPut_139 : decode cX6_isPut 139 = .ok (.iadd, 1) := by decide +kernel
theorem dX6_isPut_140 : decode cX6_isPut 140 = .ok (.laload, 1) := by decide +kernel
theorem dX6_isPut_141 : decode cX6_isPut 141 = .ok (.lload 7, 2) := by decide +kernel
theorem dX6_isPut_143 : decode cX6_isPut 143 = .ok (.lmul, 1) := by decide +kernel
theorem dX6_isPut_144 : decode cX6_isPut 144 = .ok (.lsub, 1) := by decide +kernel
theorem dX6_isPut_145 : decode cX6_isPut 145 = .ok (.lastore, 1) := by decide +kernel
theorem dX6_isPut_146 : decode cX6_isPut 146 = .ok (.iinc 9 1, 3) := by decide +kernel
theorem dX6_isPut_149 : decode cX6_isPut 149 = .ok (.goto (-57), 3) := by decide +kernel
theorem dX6_isPut_152 : decode cX6_isPut 152 = .ok (.aload_n 0, 1) := by decide +kernel
theorem dX6_isPut_153 : decode cX6_isPut 153 = .ok (.iload_n 3, 1) := by decide +kernel
theorem dX6_isPut_154 : decode cX6_isPut 154 = .ok (.invokevirtual 176, 3) := by decide +kernel
theorem dX6_isPut_157 : decode cX6_isPut 157 = .ok (.iinc 4 1, 3) := by decide +kernel
theorem dX6_isPut_160 : decode cX6_isPut 160 = .ok (.goto (-113), 3) := by decide +kernel
theorem dX6_isPut_163 : decode cX6_isPut 163 = .ok (.iconst 0, 1) := by decide +kernel
theorem dX6_isPut_164 : decode cX6_isPut 164 = .ok (.istore 4, 2) := by decide +kernel
theorem dX6_isPut_166 : decode cX6_isPut 166 = .ok (.iload 4, 2) := by decide +kernel
theorem dX6_isPut_168 : decode cX6_isPut 168 = .ok (.aload_n 0, 1) := by decide +kernel
theorem dX6_isPut_169 : decode cX6_isPut 169 = .ok (.getfield 165, 3) := by decide +kernel
theorem dX6_isPut_172 : decode cX6_isPut 172 = .ok (.if_icmp .ge 33, 3) := by decide +kernel
theorem dX6_isPut_175 : decode cX6_isPut 175 = .ok (.aload_n 0, 1) := by decide +kernel
theorem dX6_isPut_176 : decode cX6_isPut 176 = .ok (.getfield 45, 3) := by decide +kernel
theorem dX6_isPut_179 : decode cX6_isPut 179 = .ok (.iload_n 3, 1) := by decide +kernel
theorem dX6_isPut_180 : decode cX6_isPut 180 = .ok (.iload 4, 2) := by decide +kernel
theorem dX6_isPut_182 : decode cX6_isPut 182 = .ok (.iadd, 1) := by decide +kernel
theorem dX6_isPut_183 : decode cX6_isPut 183 = .ok (.laload, 1) := by decide +kernel
theorem dX6_isPut_184 : decode cX6_isPut 184 = .ok (.lconst 0, 1) := by decide +kernel
theorem dX6_isPut_185 : decode cX6_isPut 185 = .ok (.lcmp, 1) := by decide +kernel
theorem dX6_isPut_186 : decode cX6_isPut 186 = .ok (.ifCond .eq 13, 3) := by decide +kernel
theorem dX6_isPut_189 : decode cX6_isPut 189 = .ok (.aload_n 0, 1) := by decide +kernel
theorem dX6_isPut_190 : decode cX6_isPut 190 = .ok (.getfield 48, 3) := by decide +kernel
theorem dX6_isPut_193 : decode cX6_isPut 193 = .ok (.iload_n 2, 1) := by decide +kernel
theorem dX6_isPut_194 : decode cX6_isPut 194 = .ok (.iload 4, 2) := by decide +kernel
theorem dX6_isPut_196 : decode cX6_isPut 196 = .ok (.iastore, 1) := by decide +kernel
theorem dX6_isPut_197 : decode cX6_isPut 197 = .ok (.iconst 1, 1) := by decide +kernel
theorem dX6_isPut_198 : decode cX6_isPut 198 = .ok (.ireturn, 1) := by decide +kernel
theorem dX6_isPut_199 : decode cX6_isPut 199 = .ok (.iinc 4 1, 3) := by decide +kernel
theorem dX6_isPut_202 : decode cX6_isPut 202 = .ok (.goto (-36), 3) := by decide +kernel
theorem dX6_isPut_205 : decode cX6_isPut 205 = .ok (.iconst 0, 1) := by decide +kernel
theorem dX6_isPut_206 : decode cX6_isPut 206 = .ok (.ireturn, 1) := by decide +kernel
abbrev rm_X6_isPut : Room := { frames := 2, cells := 0, slots := 0, locals := 70 }
noncomputable def f_X6_isPut_h166 (N : Nat) (x2 : Int32) (x3 : Int32) : Nat → Int32 → ZS → Option (Int32 × ZS)
  | 0, _, _ => none
  | n + 1, x4, σ => (if (gI σ 1067 10) ≤ x4 then some ((0 : Int32), σ) else ck (inb (x3 + x4) 252) ((if (gJ σ 1078 ((x3 + x4).toNatClampNeg)) = (0 : Int64) then bd (x4 + (1 : Int32)) fun v7 => f_X6_isPut_h166 N x2 x3 n v7 σ else ck (inb x2 12) (bd (sI σ 1079 (x2.toNatClampNeg) x4) fun σ9 => some ((1 : Int32), σ9)))))
noncomputable def f_X6_isPut_b152 (N : Nat) (kb47 : Int32 → ZS → Option (Int32 × ZS)) (x2 : Int32) (x3 : Int32) (x4 : Int32) (σ : ZS) : Option (Int32 × ZS) := obd (f_X6_shorten N x3 σ) fun _ σ18 => bd (x4 + (1 : Int32)) fun v19 => kb47 v19 σ18
noncomputable def f_X6_isPut_h92 (N : Nat) (kb47 : Int32 → ZS → Option (Int32 × ZS)) (x2 : Int32) (x3 : Int32) (x4 : Int32) (x5 : Int64) (x7 : Int64) : Nat → Int32 → ZS → Option (Int32 × ZS)
  | 0, _, _ => none
  | n + 1, x9, σ => (if (gI σ 1067 10) ≤ x9 then f_X6_isPut_b152 N kb47 x2 x3 x4 σ else (if x7 = (0 : Int64) then f_X6_isPut_b152 N kb47 x2 x3 x4 σ else ck (inb (x3 + x9) 252) (ck (inb (((21 : Int32) * x4) + x9) 252) (bd (((gJ σ 1078 ((x3 + x9).toNatClampNeg)) * x5) - ((gJ σ 1078 ((((21 : Int32) * x4) + x9).toNatClampNeg)) * x7)) fun v23 => ck (inb (x3 + x9) 252) (bd (sJ σ 1078 ((x3 + x9).toNatClampNeg) v23) fun σ25 => bd (x9 + (1 : Int32)) fun v26 => f_X6_isPut_h92 N kb47 x2 x3 x4 x5 x7 n v26 σ25)))))
noncomputable def f_X6_isPut_h47 (N : Nat) (x2 : Int32) (x3 : Int32) : Nat → Int32 → ZS → Option (Int32 × ZS)
  | 0, _, _ => none
  | n + 1, x4, σ => (if x2 ≤ x4 then f_X6_isPut_h166 N x2 x3 N (0 : Int32) σ else ck (inb x4 12) (ck (inb (((21 : Int32) * x4) + (gI σ 1079 (x4.toNatClampNeg))) 252) (bd (gJ σ 1078 ((((21 : Int32) * x4) + (gI σ 1079 (x4.toNatClampNeg))).toNatClampNeg)) fun v12 => ck (inb x4 12) (ck (inb (x3 + (gI σ 1079 (x4.toNatClampNeg))) 252) (bd (gJ σ 1078 ((x3 + (gI σ 1079 (x4.toNatClampNeg))).toNatClampNeg)) fun v15 => f_X6_isPut_h92 N (fun x4_ σ_ => f_X6_isPut_h47 N x2 x3 n x4_ σ_) x2 x3 x4 v12 v15 N (0 : Int32) σ)))))
noncomputable def f_X6_isPut_h8 (N : Nat) (x1 : Int32) (x2 : Int32) (x3 : Int32) : Nat → Int32 → ZS → Option (Int32 × ZS)
  | 0, _, _ => none
  | n + 1, x4, σ => (if (gI σ 1067 10) ≤ x4 then f_X6_isPut_h47 N x2 x3 N (0 : Int32) σ else ck (inb (((21 : Int32) * x1) + x4) 252) (bd (gJ σ 1077 ((((21 : Int32) * x1) + x4).toNatClampNeg)) fun v28 => ck (inb (x3 + x4) 252) (bd (sJ σ 1078 ((x3 + x4).toNatClampNeg) v28) fun σ30 => bd (x4 + (1 : Int32)) fun v31 => f_X6_isPut_h8 N x1 x2 x3 n v31 σ30)))
noncomputable def f_X6_isPut (N : Nat) (x1 : Int32) (x2 : Int32) (σ : ZS) : Option (Int32 × ZS) := bd ((21 : Int32) * x2) fun v1 => f_X6_isPut_h8 N x1 x2 v1 N (0 : Int32) σ
set_option maxHeartbeats 4000000 in
set_option maxRecDepth 100000 in
theorem k_X6_isPut_h166 {l : Launch} {Y : ZY} {G : ZG} {r : Int32} {σ' : ZS} (h : zOk (l, rm_X6_isPut, 10, 0, 0) Y G cX6_isPut RX6 (some .boolean)) (hq : zRet (l, rm_X6_isPut, 10, 0, 0) Y G (some (.int r)) σ') (N : Nat) (x2 : Int32) (x3 : Int32) : ∀ (n : Nat) (x4 : Int32) (σ : ZS), f_X6_isPut_h166 N x2 x3 n x4 σ = some (r, σ') → Z (l, rm_X6_isPut, 10, 0, 0) Y G σ [(0, .ref (G.1 1067)), (2, .int x2), (3, .int x3), (4, .int x4)] [] 166 := by
  intro n
  induction n with
  | zero =>
    intro x4 σ hf
    rw [f_X6_isPut_h166] at hf
    cases hf
  | succ n ih =>
    intro x4 σ hf
    rw [f_X6_isPut_h166] at hf
    refine z_iload h dX6_isPut_166 3 rfl ?_
    refine z_aload_n h dX6_isPut_168 rfl 0 rfl ?_
    refine z_gfI h zC6 (c := 1067) tg_1067 ln_1067 10 rfl ft_6_10 wd_424 dX6_isPut_169 ?_
    refine z_icmp_ge h (tgt := 205) dX6_isPut_172 (by decide) (fun g4 => ?_) (fun g4 => ?_)
    · have hf := it_pos g4 hf
      refine z_iconst h (v := (0 : Int32)) dX6_isPut_205 ic_0 ?_
      exact z_zret h rfl (rt_I hf hq) dX6_isPut_206
    · have hf := it_neg g4 hf
      refine z_aload_n h dX6_isPut_175 rfl 0 rfl ?_
      refine z_gfR h zC6 (d := 1078) (c := 1067) tg_1067 ln_1067 15 rfl ft_6_15 rf_1067_15 wd_99 dX6_isPut_176 ?_
      refine z_iload_n h dX6_isPut_179 rfl 2 rfl ?_
      refine z_iload h dX6_isPut_180 3 rfl ?_
      refine z_iadd h dX6_isPut_182 ?_
      obtain ⟨g5, hf⟩ := ck_out hf
      refine z_lald h (c := 1078) tg_1078 ln_1078 g5 dX6_isPut_183 ?_
      refine z_lconst h (v := (0 : Int64)) dX6_isPut_184 lc_0 ?_
      refine z_lif_eq h (tgt := 199) dX6_isPut_185 dX6_isPut_186 (by decide) (fun g6 => ?_) (fun g6 => ?_)
      · have hf := it_pos g6 hf
        obtain ⟨v7, ev7, hf⟩ := bd_ex hf
        refine z_iinc h (v := v7) (lv' := [(4, .int v7), (0, .ref (G.1 1067)), (2, .int x2), (3, .int x3)]) dX6_isPut_199 3 rfl (by rw [ev7]; rfl) rfl rfl ?_
        refine z_goto h (tgt := 166) dX6_isPut_202 (by decide) ?_
        exact z_sub [1, 2, 3, 0] rfl (ih _ _ hf)
      · have hf := it_neg g6 hf
        refine z_aload_n h dX6_isPut_189 rfl 0 rfl ?_
        refine z_gfR h zC6 (d := 1079) (c := 1067) tg_1067 ln_1067 16 rfl ft_6_16 rf_1067_16 wd_100 dX6_isPut_190 ?_
        refine z_iload_n h dX6_isPut_193 rfl 1 rfl ?_
        refine z_iload h dX6_isPut_194 3 rfl ?_
        obtain ⟨g8, hf⟩ := ck_out hf
        refine z_iast h (c := 1079) tg_1079 ln_1079 g8 dX6_isPut_196 ?_
        refine z_gen (fun σ9 eσ9 => ?_)
        have hf := bd_to eσ9 hf
        refine z_iconst h (v := (1 : Int32)) dX6_isPut_197 ic_1 ?_
        exact z_zret h rfl (rt_I hf hq) dX6_isPut_198
set_option maxHeartbeats 4000000 in
set_option maxRecDepth 100000 in
theorem k_X6_isPut_b152 {l : Launch} {Y : ZY} {G : ZG} {r : Int32} {σ' : ZS} (h : zOk (l, rm_X6_isPut, 10, 0, 0) Y G cX6_isPut RX6 (some .boolean)) (hq : zRet (l, rm_X6_isPut, 10, 0, 0) Y G (some (.int r)) σ') (N : Nat) {kb47 : Int32 → ZS → Option (Int32 × ZS)} (x2 : Int32) (x3 : Int32) (x4 : Int32) (hb47 : ∀ (x4_ : Int32) (σ_ : ZS), kb47 x4_ σ_ = some (r, σ') → Z (l, rm_X6_isPut, 10, 0, 0) Y G σ_ [(0, .ref (G.1 1067)), (2, .int x2), (3, .int x3), (4, .int x4_)] [] 47) (σ : ZS) (hf : f_X6_isPut_b152 N kb47 x2 x3 x4 σ = some (r, σ')) : Z (l, rm_X6_isPut, 10, 0, 0) Y G σ [(0, .ref (G.1 1067)), (2, .int x2), (3, .int x3), (4, .int x4)] [] 152 := by
  rw [f_X6_isPut_b152] at hf
  refine z_aload_n h dX6_isPut_152 rfl 0 rfl ?_
  refine z_iload_n h dX6_isPut_153 rfl 2 rfl ?_
  obtain ⟨v17, σ18, e18, hf⟩ := obd_out hf
  refine z_cV0 h (n := 1) (c_X6_shorten l G e18) zC6 tg_1067 ln_1067 rfl rfl wd_459 wd_460 wd_461 wd_5 wd_462 (by decide +kernel) ⟨rfl, rfl⟩ rfl rfl rfl dX6_isPut_154 ⟨Nat.zero_le _, Nat.zero_le _⟩ ?_
  obtain ⟨v19, ev19, hf⟩ := bd_ex hf
  refine z_iinc h (v := v19) (lv' := [(4, .int v19), (0, .ref (G.1 1067)), (2, .int x2), (3, .int x3)]) dX6_isPut_157 3 rfl (by rw [ev19]; rfl) rfl rfl ?_
  refine z_goto h (tgt := 47) dX6_isPut_160 (by decide) ?_
  exact z_sub [1, 2, 3, 0] rfl (hb47 _ _ hf)
set_option maxHeartbeats 4000000 in
set_option maxRecDepth 100000 in
theorem k_X6_isPut_h92 {l : Launch} {Y : ZY} {G : ZG} {r : Int32} {σ' : ZS} (h : zOk (l, rm_X6_isPut, 10, 0, 0) Y G cX6_isPut RX6 (some .boolean)) (hq : zRet (l, rm_X6_isPut, 10, 0, 0) Y G (some (.int r)) σ') (N : Nat) {kb47 : Int32 → ZS → Option (Int32 × ZS)} (x2 : Int32) (x3 : Int32) (x4 : Int32) (x5 : Int64) (x7 : Int64) (hb47 : ∀ (x4_ : Int32) (σ_ : ZS), kb47 x4_ σ_ = some (r, σ') → Z (l, rm_X6_isPut, 10, 0, 0) Y G σ_ [(0, .ref (G.1 1067)), (2, .int x2), (3, .int x3), (4, .int x4_)] [] 47) : ∀ (n : Nat) (x9 : Int32) (σ : ZS), f_X6_isPut_h92 N kb47 x2 x3 x4 x5 x7 n x9 σ = some (r, σ') → Z (l, rm_X6_isPut, 10, 0, 0) Y G σ [(0, .ref (G.1 1067)), (2, .int x2), (3, .int x3), (4, .int x4), (5, .long x5), (7, .long x7), (9, .int x9)] [] 92 := by
  intro n
  induction n with
  | zero =>
    intro x9 σ hf
    rw [f_X6_isPut_h92] at hf
    cases hf
  | succ n ih =>
    intro x9 σ hf
    rw [f_X6_isPut_h92] at hf
    refine z_iload h dX6_isPut_92 6 rfl ?_
    refine z_aload_n h dX6_isPut_94 rfl 0 rfl ?_
    refine z_gfI h zC6 (c := 1067) tg_1067 ln_1067 10 rfl ft_6_10 wd_424 dX6_isPut_95 ?_
    refine z_icmp_ge h (tgt := 152) dX6_isPut_98 (by decide) (fun g16 => ?_) (fun g16 => ?_)
    · have hf := it_pos g16 hf
      exact z_sub [0, 1, 2, 3] rfl (k_X6_isPut_b152 h hq N x2 x3 x4 hb47 _ hf)
    · have hf := it_neg g16 hf
      refine z_lload h dX6_isPut_101 5 rfl ?_
      refine z_lconst h (v := (0 : Int64)) dX6_isPut_103 lc_0 ?_
      refine z_lif_eq h (tgt := 152) dX6_isPut_104 dX6_isPut_105 (by decide) (fun g20 => ?_) (fun g20 => ?_)
      · have hf := it_pos g20 hf
        exact z_sub [0, 1, 2, 3] rfl (k_X6_isPut_b152 h hq N x2 x3 x4 hb47 _ hf)
      · have hf := it_neg g20 hf
        refine z_aload_n h dX6_isPut_108 rfl 0 rfl ?_
        refine z_gfR h zC6 (d := 1078) (c := 1067) tg_1067 ln_1067 15 rfl ft_6_15 rf_1067_15 wd_99 dX6_isPut_109 ?_
        refine z_iload_n h dX6_isPut_112 rfl 2 rfl ?_
        refine z_iload h dX6_isPut_113 6 rfl ?_
        refine z_iadd h dX6_isPut_115 ?_
        refine z_aload_n h dX6_isPut_116 rfl 0 rfl ?_
        refine z_gfR h zC6 (d := 1078) (c := 1067) tg_1067 ln_1067 15 rfl ft_6_15 rf_1067_15 wd_99 dX6_isPut_117 ?_
        refine z_iload_n h dX6_isPut_120 rfl 2 rfl ?_
        refine z_iload h dX6_isPut_121 6 rfl ?_
        refine z_iadd h dX6_isPut_123 ?_
        obtain ⟨g21, hf⟩ := ck_out hf
        refine z_lald h (c := 1078) tg_1078 ln_1078 g21 dX6_isPut_124 ?_
        refine z_lload h dX6_isPut_125 4 rfl ?_
        refine z_lmul h dX6_isPut_127 ?_
        refine z_aload_n h dX6_isPut_128 rfl 0 rfl ?_
        refine z_gfR h zC6 (d := 1078) (c := 1067) tg_1067 ln_1067 15 rfl ft_6_15 rf_1067_15 wd_99 dX6_isPut_129 ?_
        refine z_bipush h (v := (21 : Int32)) dX6_isPut_132 bp_21 ?_
        refine z_iload h dX6_isPut_134 3 rfl ?_
        refine z_imul h dX6_isPut_136 ?_
        refine z_iload h dX6_isPut_137 6 rfl ?_
        refine z_iadd h dX6_isPut_139 ?_
        obtain ⟨g22, hf⟩ := ck_out hf
        refine z_lald h (c := 1078) tg_1078 ln_1078 g22 dX6_isPut_140 ?_
        refine z_lload h dX6_isPut_141 5 rfl ?_
        refine z_lmul h dX6_isPut_143 ?_
        refine z_lsub h dX6_isPut_144 ?_
        refine z_topJ (fun v23 ev23 => ?_)
        have hf := bd_to ev23 hf
        obtain ⟨g24, hf⟩ := ck_out hf
        refine z_last h (c := 1078) tg_1078 ln_1078 g24 dX6_isPut_145 ?_
        refine z_gen (fun σ25 eσ25 => ?_)
        have hf := bd_to eσ25 hf
        obtain ⟨v26, ev26, hf⟩ := bd_ex hf
        refine z_iinc h (v := v26) (lv' := [(9, .int v26), (0, .ref (G.1 1067)), (2, .int x2), (3, .int x3), (4, .int x4), (5, .long x5), (7, .long x7)]) dX6_isPut_146 6 rfl (by rw [ev26]; rfl) rfl rfl ?_
        refine z_goto h (tgt := 92) dX6_isPut_149 (by decide) ?_
        exact z_sub [1, 2, 3, 4, 5, 6, 0] rfl (ih _ _ hf)
set_option maxHeartbeats 4000000 in
set_option maxRecDepth 100000 in
theorem k_X6_isPut_h47 {l : Launch} {Y : ZY} {G : ZG} {r : Int32} {σ' : ZS} (h : zOk (l, rm_X6_isPut, 10, 0, 0) Y G cX6_isPut RX6 (some .boolean)) (hq : zRet (l, rm_X6_isPut, 10, 0, 0) Y G (some (.int r)) σ') (N : Nat) (x2 : Int32) (x3 : Int32) : ∀ (n : Nat) (x4 : Int32) (σ : ZS), f_X6_isPut_h47 N x2 x3 n x4 σ = some (r, σ') → Z (l, rm_X6_isPut, 10, 0, 0) Y G σ [(0, .ref (G.1 1067)), (2, .int x2), (3, .int x3), (4, .int x4)] [] 47 := by
  intro n
  induction n with
  | zero =>
    intro x4 σ hf
    rw [f_X6_isPut_h47] at hf
    cases hf
  | succ n ih =>
    intro x4 σ hf
    rw [f_X6_isPut_h47] at hf
    refine z_iload h dX6_isPut_47 3 rfl ?_
    refine z_iload_n h dX6_isPut_49 rfl 1 rfl ?_
    refine z_icmp_ge h (tgt := 163) dX6_isPut_50 (by decide) (fun g3 => ?_) (fun g3 => ?_)
    · have hf := it_pos g3 hf
      refine z_iconst h (v := (0 : Int32)) dX6_isPut_163 ic_0 ?_
      refine z_istore h dX6_isPut_164 (lv' := [(4, .int (0 : Int32)), (0, .ref (G.1 1067)), (2, .int x2), (3, .int x3)]) rfl rfl ?_
      exact z_sub [1, 2, 3, 0] rfl (k_X6_isPut_h166 h hq N x2 x3 _ _ _ hf)
    · have hf := it_neg g3 hf
      refine z_aload_n h dX6_isPut_53 rfl 0 rfl ?_
      refine z_gfR h zC6 (d := 1078) (c := 1067) tg_1067 ln_1067 15 rfl ft_6_15 rf_1067_15 wd_99 dX6_isPut_54 ?_
      refine z_bipush h (v := (21 : Int32)) dX6_isPut_57 bp_21 ?_
      refine z_iload h dX6_isPut_59 3 rfl ?_
      refine z_imul h dX6_isPut_61 ?_
      refine z_aload_n h dX6_isPut_62 rfl 0 rfl ?_
      refine z_gfR h zC6 (d := 1079) (c := 1067) tg_1067 ln_1067 16 rfl ft_6_16 rf_1067_16 wd_100 dX6_isPut_63 ?_
      refine z_iload h dX6_isPut_66 3 rfl ?_
      obtain ⟨g10, hf⟩ := ck_out hf
      refine z_iald h (c := 1079) tg_1079 ln_1079 g10 dX6_isPut_68 ?_
      refine z_iadd h dX6_isPut_69 ?_
      obtain ⟨g11, hf⟩ := ck_out hf
      refine z_lald h (c := 1078) tg_1078 ln_1078 g11 dX6_isPut_70 ?_
      refine z_topJ (fun v12 ev12 => ?_)
      have hf := bd_to ev12 hf
      refine z_lstore h dX6_isPut_71 (lv' := [(5, .long v12), (0, .ref (G.1 1067)), (2, .int x2), (3, .int x3), (4, .int x4)]) rfl rfl ?_
      refine z_aload_n h dX6_isPut_73 rfl 1 rfl ?_
      refine z_gfR h zC6 (d := 1078) (c := 1067) tg_1067 ln_1067 15 rfl ft_6_15 rf_1067_15 wd_99 dX6_isPut_74 ?_
      refine z_iload_n h dX6_isPut_77 rfl 3 rfl ?_
      refine z_aload_n h dX6_isPut_78 rfl 1 rfl ?_
      refine z_gfR h zC6 (d := 1079) (c := 1067) tg_1067 ln_1067 16 rfl ft_6_16 rf_1067_16 wd_100 dX6_isPut_79 ?_
      refine z_iload h dX6_isPut_82 4 rfl ?_
      obtain ⟨g13, hf⟩ := ck_out hf
      refine z_iald h (c := 1079) tg_1079 ln_1079 g13 dX6_isPut_84 ?_
      refine z_iadd h dX6_isPut_85 ?_
      obtain ⟨g14, hf⟩ := ck_out hf
      refine z_lald h (c := 1078) tg_1078 ln_1078 g14 dX6_isPut_86 ?_
      refine z_topJ (fun v15 ev15 => ?_)
      have hf := bd_to ev15 hf
      refine z_lstore h dX6_isPut_87 (lv' := [(7, .long v15), (5, .long v12), (0, .ref (G.1 1067)), (2, .int x2), (3, .int x3), (4, .int x4)]) rfl rfl ?_
      refine z_iconst h (v := (0 : Int32)) dX6_isPut_89 ic_0 ?_
      refine z_istore h dX6_isPut_90 (lv' := [(9, .int (0 : Int32)), (7, .long v15), (5, .long v12), (0, .ref (G.1 1067)), (2, .int x2), (3, .int x3), (4, .int x4)]) rfl rfl ?_
      exact z_sub [3, 4, 5, 6, 2, 1, 0] rfl (k_X6_isPut_h92 h hq N x2 x3 x4 v12 v15 (fun x4_ σ_ hf_ => ih x4_ σ_ hf_) _ _ _ hf)
set_option maxHeartbeats 4000000 in
set_option maxRecDepth 100000 in
theorem k_X6_isPut_h8 {l : Launch} {Y : ZY} {G : ZG} {r : Int32} {σ' : ZS} (h : zOk (l, rm_X6_isPut, 10, 0, 0) Y G cX6_isPut RX6 (some .boolean)) (hq : zRet (l, rm_X6_isPut, 10, 0, 0) Y G (some (.int r)) σ') (N : Nat) (x1 : Int32) (x2 : Int32) (x3 : Int32) : ∀ (n : Nat) (x4 : Int32) (σ : ZS), f_X6_isPut_h8 N x1 x2 x3 n x4 σ = some (r, σ') → Z (l, rm_X6_isPut, 10, 0, 0) Y G σ [(0, .ref (G.1 1067)), (1, .int x1), (2, .int x2), (3, .int x3), (4, .int x4)] [] 8 := by
  intro n
  induction n with
  | zero =>
    intro x4 σ hf
    rw [f_X6_isPut_h8] at hf
    cases hf
  | succ n ih =>
    intro x4 σ hf
    rw [f_X6_isPut_h8] at hf
    refine z_iload h dX6_isPut_8 4 rfl ?_
    refine z_aload_n h dX6_isPut_10 rfl 0 rfl ?_
    refine z_gfI h zC6 (c := 1067) tg_1067 ln_1067 10 rfl ft_6_10 wd_424 dX6_isPut_11 ?_
    refine z_icmp_ge h (tgt := 44) dX6_isPut_14 (by decide) (fun g2 => ?_) (fun g2 => ?_)
    · have hf := it_pos g2 hf
      refine z_iconst h (v := (0 : Int32)) dX6_isPut_44 ic_0 ?_
      refine z_istore h dX6_isPut_45 (lv' := [(4, .int (0 : Int32)), (0, .ref (G.1 1067)), (1, .int x1), (2, .int x2), (3, .int x3)]) rfl rfl ?_
      exact z_sub [1, 3, 4, 0] rfl (k_X6_isPut_h47 h hq N x2 x3 _ _ _ hf)
    · have hf := it_neg g2 hf
      refine z_aload_n h dX6_isPut_17 rfl 0 rfl ?_
      refine z_gfR h zC6 (d := 1078) (c := 1067) tg_1067 ln_1067 15 rfl ft_6_15 rf_1067_15 wd_99 dX6_isPut_18 ?_
      refine z_iload_n h dX6_isPut_21 rfl 3 rfl ?_
      refine z_iload h dX6_isPut_22 4 rfl ?_
      refine z_iadd h dX6_isPut_24 ?_
      refine z_aload_n h dX6_isPut_25 rfl 0 rfl ?_
      refine z_gfR h zC6 (d := 1077) (c := 1067) tg_1067 ln_1067 14 rfl ft_6_14 rf_1067_14 wd_98 dX6_isPut_26 ?_
      refine z_bipush h (v := (21 : Int32)) dX6_isPut_29 bp_21 ?_
      refine z_iload_n h dX6_isPut_31 rfl 1 rfl ?_
      refine z_imul h dX6_isPut_32 ?_
      refine z_iload h dX6_isPut_33 4 rfl ?_
      refine z_iadd h dX6_isPut_35 ?_
      obtain ⟨g27, hf⟩ := ck_out hf
      refine z_lald h (c := 1077) tg_1077 ln_1077 g27 dX6_isPut_36 ?_
      refine z_topJ (fun v28 ev28 => ?_)
      have hf := bd_to ev28 hf
      obtain ⟨g29, hf⟩ := ck_out hf
      refine z_last h (c := 1078) tg_1078 ln_1078 g29 dX6_isPut_37 ?_
      refine z_gen (fun σ30 eσ30 => ?_)
      have hf := bd_to eσ30 hf
      obtain ⟨v31, ev31, hf⟩ := bd_ex hf
      refine z_iinc h (v := v31) (lv' := [(4, .int v31), (0, .ref (G.1 1067)), (1, .int x1), (2, .int x2), (3, .int x3)]) dX6_isPut_38 4 rfl (by rw [ev31]; rfl) rfl rfl ?_
      refine z_goto h (tgt := 8) dX6_isPut_41 (by decide) ?_
      exact z_sub [1, 2, 3, 4, 0] rfl (ih _ _ hf)
set_option maxHeartbeats 4000000 in
set_option maxRecDepth 100000 in
theorem c_X6_isPut (l : Launch) (G : ZG) {N : Nat} {x1 : Int32} {x2 : Int32} {σ σ' : ZS} {r : Int32} (hf : f_X6_isPut N x1 x2 σ = some (r, σ')) : zMet l G yX6_isPut cX6_isPut 10 (some .boolean) rm_X6_isPut [.ref (G.1 1067), .int x1, .int x2] σ (some (.int r)) σ' := by
  refine z_met (by decide +kernel) rfl (fun Y h hq => ?_)
  have h : zOk (l, rm_X6_isPut, 10, 0, 0) Y G cX6_isPut RX6 (some .boolean) := h
  rw [f_X6_isPut] at hf
  refine z_sub (lv' := [(0, .ref (G.1 1067)), (1, .int x1), (2, .int x2)]) [0, 1, 2] rfl ?_
  refine z_bipush h (v := (21 : Int32)) dX6_isPut_0 bp_21 ?_
  refine z_iload_n h dX6_isPut_2 rfl 2 rfl ?_
  refine z_imul h dX6_isPut_3 ?_
  refine z_topI (fun v1 ev1 => ?_)
  have hf := bd_to ev1 hf
  refine z_istore_n h dX6_isPut_4 rfl (lv' := [(3, .int v1), (0, .ref (G.1 1067)), (1, .int x1), (2, .int x2)]) rfl rfl ?_
  refine z_iconst h (v := (0 : Int32)) dX6_isPut_5 ic_0 ?_
  refine z_istore h dX6_isPut_6 (lv' := [(4, .int (0 : Int32)), (3, .int v1), (0, .ref (G.1 1067)), (1, .int x1), (2, .int x2)]) rfl rfl ?_
  exact z_sub [2, 3, 4, 1, 0] rfl (k_X6_isPut_h8 h hq N x1 x2 v1 _ _ _ hf)
theorem dX6_layRank_0 : decode cX6_layRank 0 = .ok (.aload_n 0, 1) := by decide +kernel
theorem dX6_layRank_1 : decode cX6_layRank 1 = .ok (.iconst 0, 1) := by decide +kernel
theorem dX6_layRank_2 : decode cX6_layRank 2 = .ok (.putfield 183, 3) := by decide +kernel
theorem dX6_layRank_5 : decode cX6_layRank 5 = .ok (.iconst 0, 1) := by decide +kernel
theorem dX6_layRank_6 : decode cX6_layRank 6 = .ok (.istore_n 1, 1) := by decide +kernel
theorem dX6_layRank_7 : decode cX6_layRank 7 = .ok (.iload_n 1, 1) := by decide +kernel
theorem dX6_layRank_8 : decode cX6_layRank 8 = .ok (.iconst 2, 1) := by decide +kernel
theorem dX6_layRank_9 : decode cX6_layRank 9 = .ok (.aload_n 0, 1) := by decide +kernel
theorem dX6_layRank_10 : decode cX6_layRank 10 = .ok (.getfield 141, 3) := by decide +kernel
theorem dX6_layRank_13 : decode cX6_layRank 13 = .ok (.imul, 1) := by decide +kernel
theorem dX6_layRank_14 : decode cX6_layRank 14 = .ok (.if_icmp .ge 35, 3) := by decide +kernel
theorem dX6_layRank_17 : decode cX6_layRank 17 = .ok (.aload_n 0, 1) := by decide +kernel
theorem dX6_layRank_18 : decode cX6_layRank 18 = .ok (.dup, 1) := by decide +kernel
theorem dX6_layRank_19 : decode cX6_layRank 19 = .ok (.getfield 183, 3) := by decide +kernel
theorem dX6_layRank_22 : decode cX6_layRank 22 = .ok (.aload_n 0, 1) := by decide +kernel
theorem dX6_layRank_23 : decode cX6_layRank 23 = .ok (.iload_n 1, 1) := by decide +kernel
theorem dX6_layRank_24 : decode cX6_layRank 24 = .ok (.aload_n 0, 1) := by decide +kernel
theorem dX6_layRank_25 : decode cX6_layRank 25 = .ok (.getfield 183, 3) := by decide +kernel
theorem dX6_layRank_28 : decode cX6_layRank 28 = .ok (.invokevirtual 186, 3) := by decide +kernel
theorem dX6_layRank_31 : decode cX6_layRank 31 = .ok (.ifCond .eq 7, 3) := by decide +kernel
theorem dX6_layRank_34 : decode cX6_layRank 34 = .ok (.iconst 1, 1) := by decide +kernel
theorem dX6_layRank_35 : decode cX6_layRank 35 = .ok (.goto 4, 3) := by decide +kernel
theorem dX6_layRank_38 : decode cX6_layRank 38 = .ok (.iconst 0, 1) := by decide +kernel
theorem dX6_layRank_39 : decode cX6_layRank 39 = .ok (.iadd, 1) := by decide +kernel
theorem dX6_layRank_40 : decode cX6_layRank 40 = .ok (.putfield 183, 3) := by decide +kernel
theorem dX6_layRank_43 : decode cX6_layRank 43 = .ok (.iinc 1 1, 3) := by decide +kernel
theorem dX6_layRank_46 : decode cX6_layRank 46 = .ok (.goto (-39), 3) := by decide +kernel
theorem dX6_layRank_49 : decode cX6_layRank 49 = .ok (.return_, 1) := by decide +kernel
abbrev rm_X6_layRank : Room := { frames := 3, cells := 0, slots := 0, locals := 107 }
noncomputable def f_X6_layRank_b39 (N : Nat) (kb7 : Int32 → ZS → Option (Unit × ZS)) (x1 : Int32) (s1 : Int32) (s2 : Int32) (σ : ZS) : Option (Unit × ZS) := bd (s1 + s2) fun v6 => bd (sI σ 1067 11 v6) fun σ7 => bd (x1 + (1 : Int32)) fun v8 => kb7 v8 σ7
noncomputable def f_X6_layRank_h7 (N : Nat) : Nat → Int32 → ZS → Option (Unit × ZS)
  | 0, _, _ => none
  | n + 1, x1, σ => (if ((2 : Int32) * (gI σ 1067 4)) ≤ x1 then some ((), σ) else obd (f_X6_isPut N x1 (gI σ 1067 11) σ) fun v3 σ4 => (if v3 = 0 then f_X6_layRank_b39 N (fun x1_ σ_ => f_X6_layRank_h7 N n x1_ σ_) x1 (gI σ 1067 11) (0 : Int32) σ4 else f_X6_layRank_b39 N (fun x1_ σ_ => f_X6_layRank_h7 N n x1_ σ_) x1 (gI σ 1067 11) (1 : Int32) σ4))
noncomputable def f_X6_layRank (N : Nat) (σ : ZS) : Option (Unit × ZS) := bd (sI σ 1067 11 (0 : Int32)) fun σ1 => f_X6_layRank_h7 N N (0 : Int32) σ1
set_option maxHeartbeats 4000000 in
set_option maxRecDepth 100000 in
theorem k_X6_layRank_b39 {l : Launch} {Y : ZY} {G : ZG} {σ' : ZS} (h : zOk (l, rm_X6_layRank, 2, 0, 0) Y G cX6_layRank RX6 none) (hq : zRet (l, rm_X6_layRank, 2, 0, 0) Y G none σ') (N : Nat) {kb7 : Int32 → ZS → Option (Unit × ZS)} (x1 : Int32) (s1 : Int32) (s2 : Int32) (hb7 : ∀ (x1_ : Int32) (σ_ : ZS), kb7 x1_ σ_ = some ((), σ') → Z (l, rm_X6_layRank, 2, 0, 0) Y G σ_ [(0, .ref (G.1 1067)), (1, .int x1_)] [] 7) (σ : ZS) (hf : f_X6_layRank_b39 N kb7 x1 s1 s2 σ = some ((), σ')) : Z (l, rm_X6_layRank, 2, 0, 0) Y G σ [(0, .ref (G.1 1067)), (1, .int x1)] [.int s2, .int s1, .ref (G.1 1067)] 39 := by
  rw [f_X6_layRank_b39] at hf
  refine z_iadd h dX6_layRank_39 ?_
  refine z_topI (fun v6 ev6 => ?_)
  have hf := bd_to ev6 hf
  refine z_pfI h zC6 (c := 1067) tg_1067 ln_1067 11 rfl ft_6_11 wd_430 rfl (ty := .int) (by decide +kernel) rfl rfl dX6_layRank_40 ?_
  refine z_gen (fun σ7 eσ7 => ?_)
  have hf := bd_to eσ7 hf
  obtain ⟨v8, ev8, hf⟩ := bd_ex hf
  refine z_iinc h (v := v8) (lv' := [(1, .int v8), (0, .ref (G.1 1067))]) dX6_layRank_43 1 rfl (by rw [ev8]; rfl) rfl rfl ?_
  refine z_goto h (tgt := 7) dX6_layRank_46 (by decide) ?_
  exact z_sub [1, 0] rfl (hb7 _ _ hf)
set_option maxHeartbeats 4000000 in
set_option maxRecDepth 100000 in
theorem k_X6_layRank_h7 {l : Launch} {Y : ZY} {G : ZG} {σ' : ZS} (h : zOk (l, rm_X6_layRank, 2, 0, 0) Y G cX6_layRank RX6 none) (hq : zRet (l, rm_X6_layRank, 2, 0, 0) Y G none σ') (N : Nat) : ∀ (n : Nat) (x1 : Int32) (σ : ZS), f_X6_layRank_h7 N n x1 σ = some ((), σ') → Z (l, rm_X6_layRank, 2, 0, 0) Y G σ [(0, .ref (G.1 1067)), (1, .int x1)] [] 7 := by
  intro n
  induction n with
  | zero =>
    intro x1 σ hf
    rw [f_X6_layRank_h7] at hf
    cases hf
  | succ n ih =>
    intro x1 σ hf
    rw [f_X6_layRank_h7] at hf
    refine z_iload_n h dX6_layRank_7 rfl 1 rfl ?_
    refine z_iconst h (v := (2 : Int32)) dX6_layRank_8 ic_2 ?_
    refine z_aload_n h dX6_layRank_9 rfl 0 rfl ?_
    refine z_gfI h zC6 (c := 1067) tg_1067 ln_1067 4 rfl ft_6_4 wd_200 dX6_layRank_10 ?_
    refine z_imul h dX6_layRank_13 ?_
    refine z_icmp_ge h (tgt := 49) dX6_layRank_14 (by decide) (fun g2 => ?_) (fun g2 => ?_)
    · have hf := it_pos g2 hf
      exact z_vret h (rt_V hf hq) dX6_layRank_49
    · have hf := it_neg g2 hf
      refine z_aload_n h dX6_layRank_17 rfl 0 rfl ?_
      refine z_dup h dX6_layRank_18 rfl ?_
      refine z_gfI h zC6 (c := 1067) tg_1067 ln_1067 11 rfl ft_6_11 wd_430 dX6_layRank_19 ?_
      refine z_aload_n h dX6_layRank_22 rfl 0 rfl ?_
      refine z_iload_n h dX6_layRank_23 rfl 1 rfl ?_
      refine z_aload_n h dX6_layRank_24 rfl 0 rfl ?_
      refine z_gfI h zC6 (c := 1067) tg_1067 ln_1067 11 rfl ft_6_11 wd_430 dX6_layRank_25 ?_
      obtain ⟨v3, σ4, e4, hf⟩ := obd_out hf
      refine z_cVv h (n := 2) (c_X6_isPut l G e4) zC6 tg_1067 ln_1067 rfl rfl wd_455 wd_456 wd_457 wd_5 wd_458 (by decide +kernel) ⟨rfl, rfl⟩ rfl rfl rfl dX6_layRank_28 ⟨Nat.zero_le _, Nat.zero_le _⟩ ?_
      refine z_if_eq h (tgt := 38) dX6_layRank_31 (by decide) (fun g5 => ?_) (fun g5 => ?_)
      · have hf := it_pos g5 hf
        refine z_iconst h (v := (0 : Int32)) dX6_layRank_38 ic_0 ?_
        exact z_sub [0, 1] rfl (k_X6_layRank_b39 h hq N x1 (gI σ 1067 11) (0 : Int32) (fun x1_ σ_ hf_ => ih x1_ σ_ hf_) _ hf)
      · have hf := it_neg g5 hf
        refine z_iconst h (v := (1 : Int32)) dX6_layRank_34 ic_1 ?_
        refine z_goto h (tgt := 39) dX6_layRank_35 (by decide) ?_
        exact z_sub [0, 1] rfl (k_X6_layRank_b39 h hq N x1 (gI σ 1067 11) (1 : Int32) (fun x1_ σ_ hf_ => ih x1_ σ_ hf_) _ hf)
set_option maxHeartbeats 4000000 in
set_option maxRecDepth 100000 in
theorem c_X6_layRank (l : Launch) (G : ZG) {N : Nat} {σ σ' : ZS} {r : Unit} (hf : f_X6_layRank N σ = some (r, σ')) : zMet l G yX6_layRank cX6_layRank 2 none rm_X6_layRank [.ref (G.1 1067)] σ none σ' := by
  refine z_met (by decide +kernel) rfl (fun Y h hq => ?_)
  have h : zOk (l, rm_X6_layRank, 2, 0, 0) Y G cX6_layRank RX6 none := h
  rw [f_X6_layRank] at hf
  refine z_sub (lv' := [(0, .ref (G.1 1067))]) [0] rfl ?_
  refine z_aload_n h dX6_layRank_0 rfl 0 rfl ?_
  refine z_iconst h (v := (0 : Int32)) dX6_layRank_1 ic_0 ?_
  refine z_pfI h zC6 (c := 1067) tg_1067 ln_1067 11 rfl ft_6_11 wd_430 rfl (ty := .int) (by decide +kernel) rfl rfl dX6_layRank_2 ?_
  refine z_gen (fun σ1 eσ1 => ?_)
  have hf := bd_to eσ1 hf
  refine z_iconst h (v := (0 : Int32)) dX6_layRank_5 ic_0 ?_
  refine z_istore_n h dX6_layRank_6 rfl (lv' := [(1, .int (0 : Int32)), (0, .ref (G.1 1067))]) rfl rfl ?_
  exact z_sub [1, 0] rfl (k_X6_layRank_h7 h hq N _ _ _ hf)
theorem dX6_layWay_0 : decode cX6_layWay 0 = .ok (.iconst 0, 1) := by decide +kernel
theorem dX6_layWay_1 : decode cX6_layWay 1 = .ok (.istore_n 2, 1) := by decide +kernel
theorem dX6_layWay_2 : decode cX6_layWay 2 = .ok (.iconst 0, 1) := by decide +kernel
theorem dX6_layWay_3 : decode cX6_layWay 3 = .ok (.istore_n 3, 1) := by decide +kernel
theorem dX6_layWay_4 : decode cX6_layWay 4 = .ok (.iload_n 3, 1) := by decide +kernel
theorem dX6_layWay_5 : decode cX6_layWay 5 = .ok (.aload_n 0, 1) := by decide +kernel
theorem dX6_layWay_6 : decode cX6_layWay 6 = .ok (.getfield 165, 3) := by decide +kernel
theorem dX6_layWay_9 : decode cX6_layWay 9 = .ok (.if_icmp .ge 68, 3) := by decide +kernel
theorem dX6_layWay_12 : decode cX6_layWay 12 = .ok (.iconst 1, 1) := by decide +kernel
theorem dX6_layWay_13 : decode cX6_layWay 13 = .ok (.istore 4, 2) := by decide +kernel
theorem dX6_layWay_15 : decode cX6_layWay 15 = .ok (.iconst 0, 1) := by decide +kernel
theorem dX6_layWay_16 : decode cX6_layWay 16 = .ok (.istore 5, 2) := by decide +kernel
theorem dX6_layWay_18 : decode cX6_layWay 18 = .ok (.iload 5, 2) := by decide +kernel
theorem dX6_layWay_20 : decode cX6_layWay 20 = .ok (.iload_n 1, 1) := by decide +kernel
theorem dX6_layWay_21 : decode cX6_layWay 21 = .ok (.if_icmp .ge 32, 3) := by decide +kernel
theorem dX6_layWay_24 : decode cX6_layWay 24 = .ok (.iload 4, 2) := by decide +kernel
theorem dX6_layWay_26 : decode cX6_layWay 26 = .ok (.ifCond .eq 18, 3) := by decide +kernel
theorem dX6_layWay_29 : decode cX6_layWay 29 = .ok (.aload_n 0, 1) := by decide +kernel
theorem dX6_layWay_30 : decode cX6_layWay 30 = .ok (.getfield 48, 3) := by decide +kernel
theorem dX6_layWay_33 : decode cX6_layWay 33 = .ok (.iload 5, 2) := by decide +kernel
theorem dX6_layWay_35 : decode cX6_layWay 35 = .ok (.iaload, 1) := by decide +kernel
theorem dX6_layWay_36 : decode cX6_layWay 36 = .ok (.iload_n 3, 1) := by decide +kernel
theorem dX6_layWay_37 : decode cX6_layWay 37 = .ok (.if_icmp .eq 7, 3) := by decide +kernel
theorem dX6_layWay_40 : decode cX6_layWay 40 = .ok (.iconst 1, 1) := by decide +kernel
theorem dX6_layWay_41 : decode cX6_layWay 41 = .ok (.goto 4, 3) := by decide +kernel
theorem dX6_layWay_44 : decode cX6_layWay 44 = .ok (.iconst 0, 1) := by decide +kernel
theorem dX6_layWay_45 : decode cX6_layWay 45 = .ok (.istore 4, 2) := by decide +kernel
theorem dX6_layWay_47 : decode cX6_layWay 47 = .ok (.iinc 5 1, 3) := by decide +kernel
theorem dX6_layWay_50 : decode cX6_layWay 50 = .ok (.goto (-32), 3) := by decide +kernel
theorem dX6_layWay_53 : decode cX6_layWay 53 = .ok (.iload 4, 2) := by decide +kernel
theorem dX6_layWay_55 : decode cX6_layWay 55 = .ok (.ifCond .eq 7, 3) := by decide +kernel
theorem dX6_layWay_58 : decode cX6_layWay 58 = .ok (.iload_n 3, 1) := by decide +kernel
theorem dX6_layWay_59 : decode cX6_layWay 59 = .ok (.goto 4, 3) := by decide +kernel
theorem dX6_layWay_62 : decode cX6_layWay 62 = .ok (.iload_n 2, 1) := by decide +kernel
theorem dX6_layWay_63 : decode cX6_layWay 63 = .ok (.istore_n 2, 1) := by decide +kernel
theorem dX6_layWay_64 : decode cX6_layWay 64 = .ok (.aload_n 0, 1) := by decide +kernel
theorem dX6_layWay_65 : decode cX6_layWay 65 = .ok (.getfield 64, 3) := by decide +kernel
theorem dX6_layWay_68 : decode cX6_layWay 68 = .ok (.iload_n 3, 1) := by decide +kernel
theorem dX6_layWay_69 : decode cX6_layWay 69 = .ok (.lconst 0, 1) := by decide +kernel
theorem dX6_layWay_70 : decode cX6_layWay 70 = .ok (.lastore, 1) := by decide +kernel
theorem dX6_layWay_71 : decode cX6_layWay 71 = .ok (.iinc 3 1, 3) := by decide +kernel
theorem dX6_layWay_74 : decode cX6_layWay 74 = .ok (.goto (-70), 3) := by decide +kernel
theorem dX6_layWay_77 : decode cX6_layWay 77 = .ok (.aload_n 0, 1) := by decide +kernel
theorem dX6_layWay_78 : decode cX6_layWay 78 = .ok (.getfield 64, 3) := by decide +kernel
theorem dX6_layWay_81 : decode cX6_layWay 81 = .ok (.iload_n 2, 1) := by decide +kernel
theorem dX6_layWay_82 : decode cX6_layWay 82 = .ok (.lconst 1, 1) := by decide +kernel
theorem dX6_layWay_83 : decode cX6_layWay 83 = .ok (.lastore, 1) := by decide +kernel
theorem dX6_layWay_84 : decode cX6_layWay 84 = .ok (.iload_n 1, 1) := by decide +kernel
theorem dX6_layWay_85 : decode cX6_layWay 85 = .ok (.iconst 1, 1) := by decide +kernel
theorem dX6_layWay_86 : decode cX6_layWay 86 = .ok (.isub, 1) := by decide +kernel
theorem dX6_layWay_87 : decode cX6_layWay 87 = .ok (.istore_n 3, 1) := by decide +kernel
theorem dX6_layWay_88 : decode cX6_layWay 88 = .ok (.iload_n 3, 1) := by decide +kernel
theorem dX6_layWay_89 : decode cX6_layWay 89 = .ok (.ifCond .lt 147, 3) := by decide +kernel
theorem dX6_layWay_92 : decode cX6_layWay 92 = .ok (.lconst 0, 1) := by decide +kernel
theorem dX6_layWay_93 : decode cX6_layWay 93 = .ok (.lstore 4, 2) := by decide +kernel
theorem dX6_layWay_95 : decode cX6_layWay 95 = .ok (.iconst 0, 1) := by decide +kernel
theorem dX6_layWay_96 : decode cX6_layWay 96 = .ok (.istore 6, 2) := by decide +kernel
theorem dX6_layWay_98 : decode cX6_layWay 98 = .ok (.iload 6, 2) := by decide +kernel
theorem dX6_layWay_100 : decode cX6_layWay 100 = .ok (.aload_n 0, 1) := by decide +kernel
theorem dX6_layWay_101 : decode cX6_layWay 101 = .ok (.getfield 165, 3) := by decide +kernel
theorem dX6_layWay_104 : decode cX6_layWay 104 = .ok (.if_icmp .ge 49, 3) := by decide +kernel
theorem dX6_layWay_107 : decode cX6_layWay 107 = .ok (.lload 4, 2) := by decide +kernel
theorem dX6_layWay_109 : decode cX6_layWay 109 = .ok (.iload 6, 2) := by decide +kernel
theorem dX6_layWay_111 : decode cX6_layWay 111 = .ok (.aload_n 0, 1) := by decide +kernel
theorem dX6_layWay_112 : decode cX6_layWay 112 = .ok (.getfield 48, 3) := by decide +kernel
theorem dX6_layWay_115 : decode cX6_layWay 115 = .ok (.iload_n 3, 1) := by decide +kernel
theorem dX6_layWay_116 : decode cX6_layWay 116 = .ok (.iaload, 1) := by decide +kernel
theorem dX6_layWay_117 : decode cX6_layWay 117 = .ok (.if_icmp .ne 7, 3) := by decide +kernel
theorem dX6_layWay_120 : decode cX6_layWay 120 = .ok (.lconst 0, 1) := by decide +kernel
theorem dX6_layWay_121 : decode cX6_layWay 121 = .ok (.goto 23, 3) := by decide +kernel
theorem dX6_layWay_124 : decode cX6_layWay 124 = .ok (.aload_n 0, 1) := by decide +kernel
theorem dX6_layWay_125 : decode cX6_layWay 125 = .ok (.getfield 45, 3) := by decide +kernel
theorem dX6_layWay_128 : decode cX6_layWay 128 = .ok (.bipush 21, 2) := by decide +kernel
theorem dX6_layWay_130 : decode cX6_layWay 130 = .ok (.iload_n 3, 1) := by decide +kernel
theorem dX6_layWay_131 : decode cX6_layWay 131 = .ok (.imul, 1) := by decide +kernel
theorem dX6_layWay_132 : decode cX6_layWay 132 = .ok (.iload 6, 2) := by decide +kernel
theorem dX6_layWay_134 : decode cX6_layWay 134 = .ok (.iadd, 1) := by decide +kernel
theorem dX6_layWay_135 : decode cX6_layWay 135 = .ok (.laload, 1) := by decide +kernel
theorem dX6_layWay_136 : decode cX6_layWay 136 = .ok (.aload_n 0, 1) := by decide +kernel
theorem dX6_layWay_137 : decode cX6_layWay 137 = .ok (.getfield 64, 3) := by decide +kernel
theorem dX6_layWay_140 : decode cX6_layWay 140 = .ok (.iload 6, 2) := by decide +kernel
theorem dX6_layWay_142 : decode cX6_layWay 142 = .ok (.laload, 1) := by decide +kernel
theorem dX6_layWay_143 : decode cX6_layWay 143 = .ok (.lmul, 1) := by decide +kernel
theorem dX6_layWay_144 : decode cX6_layWay 144 = .ok (.ladd, 1) := by decide +kernel
theorem dX6_layWay_145 : decode cX6_layWay 145 = .ok (.lstore 4, 2) := by decide +kernel
theorem dX6_layWay_147 : decode cX6_layWay 147 = .ok (.iinc 6 1, 3) := by decide +kernel
theorem dX6_layWay_150 : decode cX6_layWay 150 = .ok (.goto (-52), 3) := by decide +kernel
theorem dX6_layWay_153 : decode cX6_layWay 153 = .ok (.aload_n 0, 1) := by decide +kernel
theorem dX6_layWay_154 : decode cX6_layWay 154 = .ok (.getfield 45, 3) := by decide +kernel
theorem dX6_layWay_157 : decode cX6_layWay 157 = .ok (.bipush 21, 2) := by decide +kernel
theorem dX6_layWay_159 : decode cX6_layWay 159 = .ok (.iload_n 3, 1) := by decide +kernel
theorem dX6_layWay_160 : decode cX6_layWay 160 = .ok (.imul, 1) := by decide +kernel
theorem dX6_layWay_161 : decode cX6_layWay 161 = .ok (.aload_n 0, 1) := by decide +kernel
theorem dX6_layWay_162 : decode cX6_layWay 162 = .ok (.getfield 48, 3) := by decide +kernel
theorem dX6_layWay_165 : decode cX6_layWay 165 = .ok (.iload_n 3, 1) := by decide +kernel
theorem dX6_layWay_166 : decode cX6_layWay 166 = .ok (.iaload, 1) := by decide +kernel
theorem dX6_layWay_167 : decode cX6_layWay 167 = .ok (.iadd, 1) := by decide +kernel
theorem dX6_layWay_168 : decode cX6_layWay 168 = .ok (.laload, 1) := by decide +kernel
theorem dX6_layWay_169 : decode cX6_layWay 169 = .ok (.lstore 6, 2) := by decide +kernel
theorem dX6_layWay_171 : decode cX6_layWay 171 = .ok (.lload 4, 2) := by decide +kernel
theorem dX6_layWay_173 : decode cX6_layWay 173 = .ok (.lload 6, 2) := by decide +kernel
theorem dX6_layWay_175 : decode cX6_layWay 175 = .ok (.invokestatic 179, 3) := by decide +kernel
theorem dX6_layWay_178 : decode cX6_layWay 178 = .ok (.lstore 8, 2) := by decide +kernel
theorem dX6_layWay_180 : decode cX6_layWay 180 = .ok (.iconst 0, 1) := by decide +kernel
theorem dX6_layWay_181 : decode cX6_layWay 181 = .ok (.istore 10, 2) := by decide +kernel
theorem dX6_layWay_183 : decode cX6_layWay 183 = .ok (.iload 10, 2) := by decide +kernel
theorem dX6_layWay_185 : decode cX6_layWay 185 = .ok (.aload_n 0, 1) := by decide +kernel
theorem dX6_layWay_186 : decode cX6_layWay 186 = .ok (.getfield 165, 3) := by decide +kernel
theorem dX6_layWay_189 : decode cX6_layWay 189 = .ok (.if_icmp .ge 24, 3) := by decide +kernel
theorem dX6_layWay_192 : decode cX6_layWay 192 = .ok (.aload_n 0, 1) := by decide +kernel
theorem dX6_layWay_193 : decode cX6_layWay 193 = .ok (.getfield 64, 3) := by decide +kernel
theorem dX6_layWay_196 : decode cX6_layWay 196 = .ok (.iload 10, 2) := by decide +kernel
theorem dX6_layWay_198 : decode cX6_layWay 198 = .ok (.dup2, 1) := by decide +kernel
theorem dX6_layWay_199 : decode cX6_layWay 199 = .ok (.laload, 1) := by decide +kernel
theorem dX6_layWay_200 : decode cX6_layWay 200 = .ok (.lload 6, 2) := by decide +kernel
theorem dX6_layWay_202 : decode cX6_layWay 202 = .ok (.lload 8, 2) := by decide +kernel
theorem dX6_layWay_204 : decode cX6_layWay 204 = .ok (.ldiv, 1) := by decide +kernel
theorem dX6_layWay_205 : decode cX6_layWay 205 = .ok (.lmul, 1) := by decide +kernel
theorem dX6_layWay_206 : decode cX6_layWay 206 = .ok (.lastore, 1) := by decide +kernel
theorem dX6_layWay_207 : decode cX6_layWay 207 = .ok (.iinc 10 1, 3) := by decide +kernel
theorem dX6_layWay_210 : decode cX6_layWay 210 = .ok (.goto (-27), 3) := by decide +kernel
theorem dX6_layWay_213 : decode cX6_layWay 213 = .ok (.aload_n 0, 1) := by decide +kernel
theorem dX6_layWay_214 : decode cX6_layWay 214 = .ok (.getfield 64, 3) := by decide +kernel
theorem dX6_layWay_217 : decode cX6_layWay 217 = .ok (.aload_n 0, 1) := by decide +kernel
theorem dX6_layWay_218 : decode cX6_layWay 218 = .ok (.getfield 48, 3) := by decide +kernel
theorem dX6_layWay_221 : decode cX6_layWay 221 = .ok (.iload_n 3, 1) := by decide +kernel
theorem dX6_layWay_222 : decode cX6_layWay 222 = .ok (.iaload, 1) := by decide +kernel
theorem dX6_layWay_223 : decode cX6_layWay 223 = .ok (.lload 4, 2) := by decide +kernel
theorem dX6_layWay_225 : decode cX6_layWay 225 = .ok (.lload 8, 2) := by decide +kernel
theorem dX6_layWay_227 : decode cX6_layWay 227 = .ok (.ldiv, 1) := by decide +kernel
theorem dX6_layWay_228 : decode cX6_layWay 228 = .ok (.lneg, 1) := by decide +kernel
theorem dX6_layWay_229 : decode cX6_layWay 229 = .ok (.lastore, 1) := by decide +kernel
theorem dX6_layWay_230 : decode cX6_layWay 230 = .ok (.iinc 3 (-1), 3) := by decide +kernel
theorem dX6_layWay_233 : decode cX6_layWay 233 = .ok (.goto (-145), 3) := by decide +kernel
theorem dX6_layWay_236 : decode cX6_layWay 236 = .ok (.lconst 0, 1) := by decide +kernel
theorem dX6_layWay_237 : decode cX6_layWay 237 = .ok (.lstore_n 3, 1) := by decide +kernel
theorem dX6_layWay_238 : decode cX6_layWay 238 = .ok (.iconst 0, 1) := by decide +kernel
theorem dX6_layWay_239 : decode cX6_layWay 239 = .ok (.istore 5, 2) := by decide +kernel
theorem dX6_layWay_241 : decode cX6_layWay 241 = .ok (.iload 5, 2) := by decide +kernel
theorem dX6_layWay_243 : decode cX6_layWay 243 = .ok (.aload_n 0, 1) := by decide +kernel
theorem dX6_layWay_244 : decode cX6_layWay 244 = .ok (.getfield 165, 3) := by decide +kernel
theorem dX6_layWay_247 : decode cX6_layWay 247 = .ok (.if_icmp .ge 21, 3) := by decide +kernel
theorem dX6_layWay_250 : decode cX6_layWay 250 = .ok (.lload_n 3, 1) := by decide +kernel
theorem dX6_layWay_251 : decode cX6_layWay 251 = .ok (.aload_n 0, 1) := by decide +kernel
theorem dX6_layWay_252 : decode cX6_layWay 252 = .ok (.getfield 64, 3) := by decide +kernel
theorem dX6_layWay_255 : decode cX6_layWay 255 = .ok (.iload 5, 2) := by decide +kernel
theorem dX6_layWay_257 : decode cX6_layWay 257 = .ok (.laload, 1) := by decide +kernel
theorem dX6_layWay_258 : decode cX6_layWay 258 = .ok (.invokestatic 179, 3) := by decide +kernel
theorem dX6_layWay_261 : decode cX6_layWay 261 = .ok (.lstore_n 3, 1) := by decide +kernel
theorem dX6_layWay_262 : decode cX6_layWay 262 = .ok (.iinc 5 1, 3) := by decide +kernel
theorem dX6_layWay_265 : decode cX6_layWay 265 = .ok (.goto (-24), 3) := by decide +kernel
theorem dX6_layWay_268 : decode cX6_layWay 268 = .ok (.iconst 0, 1) := by decide +kernel
theorem dX6_layWay_269 : decode cX6_layWay 269 = .ok (.istore 5, 2) := by decide +kernel
theorem dX6_layWay_271 : decode cX6_layWay 271 = .ok (.iload 5, 2) := by decide +kernel
theorem dX6_layWay_273 : decode cX6_layWay 273 = .ok (.aload_n 0, 1) := by decide +kernel
theorem dX6_layWay_274 : decode cX6_layWay 274 = .ok (.getfield 165, 3) := by decide +kernel
theorem dX6_layWay_277 : decode cX6_layWay 277 = .ok (.if_icmp .ge 20, 3) := by decide +kernel
theorem dX6_layWay_280 : decode cX6_layWay 280 = .ok (.aload_n 0, 1) := by decide +kernel
theorem dX6_layWay_281 : decode cX6_layWay 281 = .ok (.getfield 64, 3) := by decide +kernel
theorem dX6_layWay_284 : decode cX6_layWay 284 = .ok (.iload 5, 2) := by decide +kernel
theorem dX6_layWay_286 : decode cX6_layWay 286 = .ok (.dup2, 1) := by decide +kernel
theorem dX6_layWay_287 : decode cX6_layWay 287 = .ok (.laload, 1) := by decide +kernel
theorem dX6_layWay_288 : decode cX6_layWay 288 = .ok (.lload_n 3, 1) := by decide +kernel
theorem dX6_layWay_289 : decode cX6_layWay 289 = .ok (.ldiv, 1) := by decide +kernel
theorem dX6_layWay_290 : decode cX6_layWay 290 = .ok (.lastore, 1) := by decide +kernel
theorem dX6_layWay_291 : decode cX6_layWay 291 = .ok (.iinc 5 1, 3) := by decide +kernel
theorem dX6_layWay_294 : decode cX6_layWay 294 = .ok (.goto (-23), 3) := by decide +kernel
theorem dX6_layWay_297 : decode cX6_layWay 297 = .ok (.return_, 1) := by decide +kernel
abbrev rm_X6_layWay : Room := { frames := 1, cells := 0, slots := 0, locals := 38 }
noncomputable def f_X6_layWay_h271 (N : Nat) (x3 : Int64) : Nat → Int32 → ZS → Option (Unit × ZS)
  | 0, _, _ => none
  | n + 1, x5, σ => (if (gI σ 1067 10) ≤ x5 then some ((), σ) else ck (inb x5 21) (ck (!(x3 == 0)) (bd ((gJ σ 1084 (x5.toNatClampNeg)) / x3) fun v10 => ck (inb x5 21) (bd (sJ σ 1084 (x5.toNatClampNeg) v10) fun σ12 => bd (x5 + (1 : Int32)) fun v13 => f_X6_layWay_h271 N x3 n v13 σ12))))
noncomputable def f_X6_layWay_h241 (N : Nat) : Nat → Int64 → Int32 → ZS → Option (Unit × ZS)
  | 0, _, _, _ => none
  | n + 1, x3, x5, σ => (if (gI σ 1067 10) ≤ x5 then f_X6_layWay_h271 N x3 N (0 : Int32) σ else ck (inb x5 21) (obd (f_X6_common N x3 (gJ σ 1084 (x5.toNatClampNeg)) σ) fun v15 σ16 => bd (x5 + (1 : Int32)) fun v17 => f_X6_layWay_h241 N n v15 v17 σ16))
noncomputable def f_X6_layWay_h183 (N : Nat) (kb88 : Int32 → ZS → Option (Unit × ZS)) (x3 : Int32) (x4 : Int64) (x6 : Int64) (x8 : Int64) : Nat → Int32 → ZS → Option (Unit × ZS)
  | 0, _, _ => none
  | n + 1, x10, σ => (if (gI σ 1067 10) ≤ x10 then ck (inb x3 12) (ck (!(x8 == 0)) (bd (-(x4 / x8)) fun v27 => ck (inb (gI σ 1079 (x3.toNatClampNeg)) 21) (bd (sJ σ 1084 ((gI σ 1079 (x3.toNatClampNeg)).toNatClampNeg) v27) fun σ29 => bd (x3 + (-1 : Int32)) fun v30 => kb88 v30 σ29))) else ck (inb x10 21) (ck (!(x8 == 0)) (bd ((gJ σ 1084 (x10.toNatClampNeg)) * (x6 / x8)) fun v33 => ck (inb x10 21) (bd (sJ σ 1084 (x10.toNatClampNeg) v33) fun σ35 => bd (x10 + (1 : Int32)) fun v36 => f_X6_layWay_h183 N kb88 x3 x4 x6 x8 n v36 σ35))))
noncomputable def f_X6_layWay_b144 (N : Nat) (kb98 : Int64 → Int32 → ZS → Option (Unit × ZS)) (x3 : Int32) (x6 : Int32) (s0 : Int64) (s1 : Int64) (σ : ZS) : Option (Unit × ZS) := bd (s0 + s1) fun v41 => bd (x6 + (1 : Int32)) fun v42 => kb98 v41 v42 σ
noncomputable def f_X6_layWay_h98 (N : Nat) (kb88 : Int32 → ZS → Option (Unit × ZS)) (x3 : Int32) : Nat → Int64 → Int32 → ZS → Option (Unit × ZS)
  | 0, _, _, _ => none
  | n + 1, x4, x6, σ => (if (gI σ 1067 10) ≤ x6 then ck (inb x3 12) (ck (inb (((21 : Int32) * x3) + (gI σ 1079 (x3.toNatClampNeg))) 252) (bd (gJ σ 1078 ((((21 : Int32) * x3) + (gI σ 1079 (x3.toNatClampNeg))).toNatClampNeg)) fun v21 => obd (f_X6_common N x4 v21 σ) fun v22 σ23 => f_X6_layWay_h183 N kb88 x3 x4 v21 v22 N (0 : Int32) σ23)) else ck (inb x3 12) ((if x6 = (gI σ 1079 (x3.toNatClampNeg)) then f_X6_layWay_b144 N (fun x4_ x6_ σ_ => f_X6_layWay_h98 N kb88 x3 n x4_ x6_ σ_) x3 x6 x4 (0 : Int64) σ else ck (inb (((21 : Int32) * x3) + x6) 252) (ck (inb x6 21) (f_X6_layWay_b144 N (fun x4_ x6_ σ_ => f_X6_layWay_h98 N kb88 x3 n x4_ x6_ σ_) x3 x6 x4 ((gJ σ 1078 ((((21 : Int32) * x3) + x6).toNatClampNeg)) * (gJ σ 1084 (x6.toNatClampNeg))) σ)))))
noncomputable def f_X6_layWay_h88 (N : Nat) : Nat → Int32 → ZS → Option (Unit × ZS)
  | 0, _, _ => none
  | n + 1, x3, σ => (if x3 < 0 then f_X6_layWay_h241 N N (0 : Int64) (0 : Int32) σ else f_X6_layWay_h98 N (fun x3_ σ_ => f_X6_layWay_h88 N n x3_ σ_) x3 N (0 : Int64) (0 : Int32) σ)
noncomputable def f_X6_layWay_b63 (N : Nat) (kb4 : Int32 → Int32 → ZS → Option (Unit × ZS)) (x1 : Int32) (x3 : Int32) (s0 : Int32) (σ : ZS) : Option (Unit × ZS) := ck (inb x3 21) (bd (sJ σ 1084 (x3.toNatClampNeg) (0 : Int64)) fun σ46 => bd (x3 + (1 : Int32)) fun v47 => kb4 s0 v47 σ46)
noncomputable def f_X6_layWay_b45 (N : Nat) (kb18 : Int32 → Int32 → ZS → Option (Unit × ZS)) (x1 : Int32) (x2 : Int32) (x3 : Int32) (x5 : Int32) (s0 : Int32) (σ : ZS) : Option (Unit × ZS) := bd (x5 + (1 : Int32)) fun v49 => kb18 s0 v49 σ
noncomputable def f_X6_layWay_b44 (N : Nat) (kb18 : Int32 → Int32 → ZS → Option (Unit × ZS)) (x1 : Int32) (x2 : Int32) (x3 : Int32) (x5 : Int32) (σ : ZS) : Option (Unit × ZS) := f_X6_layWay_b45 N kb18 x1 x2 x3 x5 (0 : Int32) σ
noncomputable def f_X6_layWay_h18 (N : Nat) (kb4 : Int32 → Int32 → ZS → Option (Unit × ZS)) (x1 : Int32) (x2 : Int32) (x3 : Int32) : Nat → Int32 → Int32 → ZS → Option (Unit × ZS)
  | 0, _, _, _ => none
  | n + 1, x4, x5, σ => (if x1 ≤ x5 then (if x4 = 0 then f_X6_layWay_b63 N kb4 x1 x3 x2 σ else f_X6_layWay_b63 N kb4 x1 x3 x3 σ) else (if x4 = 0 then f_X6_layWay_b44 N (fun x4_ x5_ σ_ => f_X6_layWay_h18 N kb4 x1 x2 x3 n x4_ x5_ σ_) x1 x2 x3 x5 σ else ck (inb x5 12) ((if (gI σ 1079 (x5.toNatClampNeg)) = x3 then f_X6_layWay_b44 N (fun x4_ x5_ σ_ => f_X6_layWay_h18 N kb4 x1 x2 x3 n x4_ x5_ σ_) x1 x2 x3 x5 σ else f_X6_layWay_b45 N (fun x4_ x5_ σ_ => f_X6_layWay_h18 N kb4 x1 x2 x3 n x4_ x5_ σ_) x1 x2 x3 x5 (1 : Int32) σ))))
noncomputable def f_X6_layWay_h4 (N : Nat) (x1 : Int32) : Nat → Int32 → Int32 → ZS → Option (Unit × ZS)
  | 0, _, _, _ => none
  | n + 1, x2, x3, σ => (if (gI σ 1067 10) ≤ x3 then ck (inb x2 21) (bd (sJ σ 1084 (x2.toNatClampNeg) (1 : Int64)) fun σ3 => bd (x1 - (1 : Int32)) fun v4 => f_X6_layWay_h88 N N v4 σ3) else f_X6_layWay_h18 N (fun x2_ x3_ σ_ => f_X6_layWay_h4 N x1 n x2_ x3_ σ_) x1 x2 x3 N (1 : Int32) (0 : Int32) σ)
noncomputable def f_X6_layWay (N : Nat) (x1 : Int32) (σ : ZS) : Option (Unit × ZS) := f_X6_layWay_h4 N x1 N (0 : Int32) (0 : Int32) σ
set_option maxHeartbeats 4000000 in
set_option maxRecDepth 100000 in
theorem k_X6_layWay_h271 {l : Launch} {Y : ZY} {G : ZG} {σ' : ZS} (h : zOk (l, rm_X6_layWay, 11, 0, 0) Y G cX6_layWay RX6 none) (hq : zRet (l, rm_X6_layWay, 11, 0, 0) Y G none σ') (N : Nat) (x3 : Int64) : ∀ (n : Nat) (x5 : Int32) (σ : ZS), f_X6_layWay_h271 N x3 n x5 σ = some ((), σ') → Z (l, rm_X6_layWay, 11, 0, 0) Y G σ [(0, .ref (G.1 1067)), (3, .long x3), (5, .int x5)] [] 271 := by
  intro n
  induction n with
  | zero =>
    intro x5 σ hf
    rw [f_X6_layWay_h271] at hf
    cases hf
  | succ n ih =>
    intro x5 σ hf
    rw [f_X6_layWay_h271] at hf
    refine z_iload h dX6_layWay_271 2 rfl ?_
    refine z_aload_n h dX6_layWay_273 rfl 0 rfl ?_
    refine z_gfI h zC6 (c := 1067) tg_1067 ln_1067 10 rfl ft_6_10 wd_424 dX6_layWay_274 ?_
    refine z_icmp_ge h (tgt := 297) dX6_layWay_277 (by decide) (fun g7 => ?_) (fun g7 => ?_)
    · have hf := it_pos g7 hf
      exact z_vret h (rt_V hf hq) dX6_layWay_297
    · have hf := it_neg g7 hf
      refine z_aload_n h dX6_layWay_280 rfl 0 rfl ?_
      refine z_gfR h zC6 (d := 1084) (c := 1067) tg_1067 ln_1067 22 rfl ft_6_22 rf_1067_22 wd_106 dX6_layWay_281 ?_
      refine z_iload h dX6_layWay_284 2 rfl ?_
      refine z_dup2_11 h dX6_layWay_286 rfl rfl ?_
      obtain ⟨g8, hf⟩ := ck_out hf
      refine z_lald h (c := 1084) tg_1084 ln_1084 g8 dX6_layWay_287 ?_
      refine z_lload_n h dX6_layWay_288 rfl 1 rfl ?_
      obtain ⟨g9, hf⟩ := ck_out hf
      refine z_ldiv h dX6_layWay_289 (nz_of g9) ?_
      refine z_topJ (fun v10 ev10 => ?_)
      have hf := bd_to ev10 hf
      obtain ⟨g11, hf⟩ := ck_out hf
      refine z_last h (c := 1084) tg_1084 ln_1084 g11 dX6_layWay_290 ?_
      refine z_gen (fun σ12 eσ12 => ?_)
      have hf := bd_to eσ12 hf
      obtain ⟨v13, ev13, hf⟩ := bd_ex hf
      refine z_iinc h (v := v13) (lv' := [(5, .int v13), (0, .ref (G.1 1067)), (3, .long x3)]) dX6_layWay_291 2 rfl (by rw [ev13]; rfl) rfl rfl ?_
      refine z_goto h (tgt := 271) dX6_layWay_294 (by decide) ?_
      exact z_sub [1, 2, 0] rfl (ih _ _ hf)
set_option maxHeartbeats 4000000 in
set_option maxRecDepth 100000 in
theorem k_X6_layWay_h241 {l : Launch} {Y : ZY} {G : ZG} {σ' : ZS} (h : zOk (l, rm_X6_layWay, 11, 0, 0) Y G cX6_layWay RX6 none) (hq : zRet (l, rm_X6_layWay, 11, 0, 0) Y G none σ') (N : Nat) : ∀ (n : Nat) (x3 : Int64) (x5 : Int32) (σ : ZS), f_X6_layWay_h241 N n x3 x5 σ = some ((), σ') → Z (l, rm_X6_layWay, 11, 0, 0) Y G σ [(0, .ref (G.1 1067)), (3, .long x3), (5, .int x5)] [] 241 := by
  intro n
  induction n with
  | zero =>
    intro x3 x5 σ hf
    rw [f_X6_layWay_h241] at hf
    cases hf
  | succ n ih =>
    intro x3 x5 σ hf
    rw [f_X6_layWay_h241] at hf
    refine z_iload h dX6_layWay_241 2 rfl ?_
    refine z_aload_n h dX6_layWay_243 rfl 0 rfl ?_
    refine z_gfI h zC6 (c := 1067) tg_1067 ln_1067 10 rfl ft_6_10 wd_424 dX6_layWay_244 ?_
    refine z_icmp_ge h (tgt := 268) dX6_layWay_247 (by decide) (fun g6 => ?_) (fun g6 => ?_)
    · have hf := it_pos g6 hf
      refine z_iconst h (v := (0 : Int32)) dX6_layWay_268 ic_0 ?_
      refine z_istore h dX6_layWay_269 (lv' := [(5, .int (0 : Int32)), (0, .ref (G.1 1067)), (3, .long x3)]) rfl rfl ?_
      exact z_sub [1, 2, 0] rfl (k_X6_layWay_h271 h hq N x3 _ _ _ hf)
    · have hf := it_neg g6 hf
      refine z_lload_n h dX6_layWay_250 rfl 1 rfl ?_
      refine z_aload_n h dX6_layWay_251 rfl 0 rfl ?_
      refine z_gfR h zC6 (d := 1084) (c := 1067) tg_1067 ln_1067 22 rfl ft_6_22 rf_1067_22 wd_106 dX6_layWay_252 ?_
      refine z_iload h dX6_layWay_255 2 rfl ?_
      obtain ⟨g14, hf⟩ := ck_out hf
      refine z_lald h (c := 1084) tg_1084 ln_1084 g14 dX6_layWay_257 ?_
      obtain ⟨v15, σ16, e16, hf⟩ := obd_out hf
      refine z_cSv h (n := 2) (c_X6_common l G e16) rfl wd_463 wd_464 wd_5 wd_465 (by decide +kernel) ⟨rfl, rfl⟩ rfl rfl rfl dX6_layWay_258 ⟨Nat.zero_le _, Nat.zero_le _⟩ ?_
      refine z_lstore_n h dX6_layWay_261 rfl (lv' := [(3, .long v15), (0, .ref (G.1 1067)), (5, .int x5)]) rfl rfl ?_
      obtain ⟨v17, ev17, hf⟩ := bd_ex hf
      refine z_iinc h (v := v17) (lv' := [(5, .int v17), (3, .long v15), (0, .ref (G.1 1067))]) dX6_layWay_262 2 rfl (by rw [ev17]; rfl) rfl rfl ?_
      refine z_goto h (tgt := 241) dX6_layWay_265 (by decide) ?_
      exact z_sub [2, 1, 0] rfl (ih _ _ _ hf)
set_option maxHeartbeats 4000000 in
set_option maxRecDepth 100000 in
theorem k_X6_layWay_h183 {l : Launch} {Y : ZY} {G : ZG} {σ' : ZS} (h : zOk (l, rm_X6_layWay, 11, 0, 0) Y G cX6_layWay RX6 none) (hq : zRet (l, rm_X6_layWay, 11, 0, 0) Y G none σ') (N : Nat) {kb88 : Int32 → ZS → Option (Unit × ZS)} (x3 : Int32) (x4 : Int64) (x6 : Int64) (x8 : Int64) (hb88 : ∀ (x3_ : Int32) (σ_ : ZS), kb88 x3_ σ_ = some ((), σ') → Z (l, rm_X6_layWay, 11, 0, 0) Y G σ_ [(0, .ref (G.1 1067)), (3, .int x3_)] [] 88) : ∀ (n : Nat) (x10 : Int32) (σ : ZS), f_X6_layWay_h183 N kb88 x3 x4 x6 x8 n x10 σ = some ((), σ') → Z (l, rm_X6_layWay, 11, 0, 0) Y G σ [(0, .ref (G.1 1067)), (3, .int x3), (4, .long x4), (6, .long x6), (8, .long x8), (10, .int x10)] [] 183 := by
  intro n
  induction n with
  | zero =>
    intro x10 σ hf
    rw [f_X6_layWay_h183] at hf
    cases hf
  | succ n ih =>
    intro x10 σ hf
    rw [f_X6_layWay_h183] at hf
    refine z_iload h dX6_layWay_183 5 rfl ?_
    refine z_aload_n h dX6_layWay_185 rfl 0 rfl ?_
    refine z_gfI h zC6 (c := 1067) tg_1067 ln_1067 10 rfl ft_6_10 wd_424 dX6_layWay_186 ?_
    refine z_icmp_ge h (tgt := 213) dX6_layWay_189 (by decide) (fun g24 => ?_) (fun g24 => ?_)
    · have hf := it_pos g24 hf
      refine z_aload_n h dX6_layWay_213 rfl 0 rfl ?_
      refine z_gfR h zC6 (d := 1084) (c := 1067) tg_1067 ln_1067 22 rfl ft_6_22 rf_1067_22 wd_106 dX6_layWay_214 ?_
      refine z_aload_n h dX6_layWay_217 rfl 0 rfl ?_
      refine z_gfR h zC6 (d := 1079) (c := 1067) tg_1067 ln_1067 16 rfl ft_6_16 rf_1067_16 wd_100 dX6_layWay_218 ?_
      refine z_iload_n h dX6_layWay_221 rfl 1 rfl ?_
      obtain ⟨g25, hf⟩ := ck_out hf
      refine z_iald h (c := 1079) tg_1079 ln_1079 g25 dX6_layWay_222 ?_
      refine z_lload h dX6_layWay_223 2 rfl ?_
      refine z_lload h dX6_layWay_225 4 rfl ?_
      obtain ⟨g26, hf⟩ := ck_out hf
      refine z_ldiv h dX6_layWay_227 (nz_of g26) ?_
      refine z_lneg h dX6_layWay_228 ?_
      refine z_topJ (fun v27 ev27 => ?_)
      have hf := bd_to ev27 hf
      obtain ⟨g28, hf⟩ := ck_out hf
      refine z_last h (c := 1084) tg_1084 ln_1084 g28 dX6_layWay_229 ?_
      refine z_gen (fun σ29 eσ29 => ?_)
      have hf := bd_to eσ29 hf
      obtain ⟨v30, ev30, hf⟩ := bd_ex hf
      refine z_iinc h (v := v30) (lv' := [(3, .int v30), (0, .ref (G.1 1067)), (4, .long x4), (6, .long x6), (8, .long x8), (10, .int x10)]) dX6_layWay_230 1 rfl (by rw [ev30]; rfl) rfl rfl ?_
      refine z_goto h (tgt := 88) dX6_layWay_233 (by decide) ?_
      exact z_sub [1, 0] rfl (hb88 _ _ hf)
    · have hf := it_neg g24 hf
      refine z_aload_n h dX6_layWay_192 rfl 0 rfl ?_
      refine z_gfR h zC6 (d := 1084) (c := 1067) tg_1067 ln_1067 22 rfl ft_6_22 rf_1067_22 wd_106 dX6_layWay_193 ?_
      refine z_iload h dX6_layWay_196 5 rfl ?_
      refine z_dup2_11 h dX6_layWay_198 rfl rfl ?_
      obtain ⟨g31, hf⟩ := ck_out hf
      refine z_lald h (c := 1084) tg_1084 ln_1084 g31 dX6_layWay_199 ?_
      refine z_lload h dX6_layWay_200 3 rfl ?_
      refine z_lload h dX6_layWay_202 4 rfl ?_
      obtain ⟨g32, hf⟩ := ck_out hf
      refine z_ldiv h dX6_layWay_204 (nz_of g32) ?_
      refine z_lmul h dX6_layWay_205 ?_
      refine z_topJ (fun v33 ev33 => ?_)
      have hf := bd_to ev33 hf
      obtain ⟨g34, hf⟩ := ck_out hf
      refine z_last h (c := 1084) tg_1084 ln_1084 g34 dX6_layWay_206 ?_
      refine z_gen (fun σ35 eσ35 => ?_)
      have hf := bd_to eσ35 hf
      obtain ⟨v36, ev36, hf⟩ := bd_ex hf
      refine z_iinc h (v := v36) (lv' := [(10, .int v36), (0, .ref (G.1 1067)), (3, .int x3), (4, .long x4), (6, .long x6), (8, .long x8)]) dX6_layWay_207 5 rfl (by rw [ev36]; rfl) rfl rfl ?_
      refine z_goto h (tgt := 183) dX6_layWay_210 (by decide) ?_
      exact z_sub [1, 2, 3, 4, 5, 0] rfl (ih _ _ hf)
set_option maxHeartbeats 4000000 in
set_option maxRecDepth 100000 in
theorem k_X6_layWay_b144 {l : Launch} {Y : ZY} {G : ZG} {σ' : ZS} (h : zOk (l, rm_X6_layWay, 11, 0, 0) Y G cX6_layWay RX6 none) (hq : zRet (l, rm_X6_layWay, 11, 0, 0) Y G none σ') (N : Nat) {kb98 : Int64 → Int32 → ZS → Option (Unit × ZS)} (x3 : Int32) (x6 : Int32) (s0 : Int64) (s1 : Int64) (hb98 : ∀ (x4_ : Int64) (x6_ : Int32) (σ_ : ZS), kb98 x4_ x6_ σ_ = some ((), σ') → Z (l, rm_X6_layWay, 11, 0, 0) Y G σ_ [(0, .ref (G.1 1067)), (3, .int x3), (4, .long x4_), (6, .int x6_)] [] 98) (σ : ZS) (hf : f_X6_layWay_b144 N kb98 x3 x6 s0 s1 σ = some ((), σ')) : Z (l, rm_X6_layWay, 11, 0, 0) Y G σ [(0, .ref (G.1 1067)), (3, .int x3), (6, .int x6)] [.long s1, .long s0] 144 := by
  rw [f_X6_layWay_b144] at hf
  refine z_ladd h dX6_layWay_144 ?_
  refine z_topJ (fun v41 ev41 => ?_)
  have hf := bd_to ev41 hf
  refine z_lstore h dX6_layWay_145 (lv' := [(4, .long v41), (0, .ref (G.1 1067)), (3, .int x3), (6, .int x6)]) rfl rfl ?_
  obtain ⟨v42, ev42, hf⟩ := bd_ex hf
  refine z_iinc h (v := v42) (lv' := [(6, .int v42), (4, .long v41), (0, .ref (G.1 1067)), (3, .int x3)]) dX6_layWay_147 3 rfl (by rw [ev42]; rfl) rfl rfl ?_
  refine z_goto h (tgt := 98) dX6_layWay_150 (by decide) ?_
  exact z_sub [2, 3, 1, 0] rfl (hb98 _ _ _ hf)
set_option maxHeartbeats 4000000 in
set_option maxRecDepth 100000 in
theorem k_X6_layWay_h98 {l : Launch} {Y : ZY} {G : ZG} {σ' : ZS} (h : zOk (l, rm_X6_layWay, 11, 0, 0) Y G cX6_layWay RX6 none) (hq : zRet (l, rm_X6_layWay, 11, 0, 0) Y G none σ') (N : Nat) {kb88 : Int32 → ZS → Option (Unit × ZS)} (x3 : Int32) (hb88 : ∀ (x3_ : Int32) (σ_ : ZS), kb88 x3_ σ_ = some ((), σ') → Z (l, rm_X6_layWay, 11, 0, 0) Y G σ_ [(0, .ref (G.1 1067)), (3, .int x3_)] [] 88) : ∀ (n : Nat) (x4 : Int64) (x6 : Int32) (σ : ZS), f_X6_layWay_h98 N kb88 x3 n x4 x6 σ = some ((), σ') → Z (l, rm_X6_layWay, 11, 0, 0) Y G σ [(0, .ref (G.1 1067)), (3, .int x3), (4, .long x4), (6, .int x6)] [] 98 := by
  intro n
  induction n with
  | zero =>
    intro x4 x6 σ hf
    rw [f_X6_layWay_h98] at hf
    cases hf
  | succ n ih =>
    intro x4 x6 σ hf
    rw [f_X6_layWay_h98] at hf
    refine z_iload h dX6_layWay_98 3 rfl ?_
    refine z_aload_n h dX6_layWay_100 rfl 0 rfl ?_
    refine z_gfI h zC6 (c := 1067) tg_1067 ln_1067 10 rfl ft_6_10 wd_424 dX6_layWay_101 ?_
    refine z_icmp_ge h (tgt := 153) dX6_layWay_104 (by decide) (fun g18 => ?_) (fun g18 => ?_)
    · have hf := it_pos g18 hf
      refine z_aload_n h dX6_layWay_153 rfl 0 rfl ?_
      refine z_gfR h zC6 (d := 1078) (c := 1067) tg_1067 ln_1067 15 rfl ft_6_15 rf_1067_15 wd_99 dX6_layWay_154 ?_
      refine z_bipush h (v := (21 : Int32)) dX6_layWay_157 bp_21 ?_
      refine z_iload_n h dX6_layWay_159 rfl 1 rfl ?_
      refine z_imul h dX6_layWay_160 ?_
      refine z_aload_n h dX6_layWay_161 rfl 0 rfl ?_
      refine z_gfR h zC6 (d := 1079) (c := 1067) tg_1067 ln_1067 16 rfl ft_6_16 rf_1067_16 wd_100 dX6_layWay_162 ?_
      refine z_iload_n h dX6_layWay_165 rfl 1 rfl ?_
      obtain ⟨g19, hf⟩ := ck_out hf
      refine z_iald h (c := 1079) tg_1079 ln_1079 g19 dX6_layWay_166 ?_
      refine z_iadd h dX6_layWay_167 ?_
      obtain ⟨g20, hf⟩ := ck_out hf
      refine z_lald h (c := 1078) tg_1078 ln_1078 g20 dX6_layWay_168 ?_
      refine z_topJ (fun v21 ev21 => ?_)
      have hf := bd_to ev21 hf
      refine z_lstore h dX6_layWay_169 (lv' := [(6, .long v21), (0, .ref (G.1 1067)), (3, .int x3), (4, .long x4)]) rfl rfl ?_
      refine z_lload h dX6_layWay_171 3 rfl ?_
      refine z_lload h dX6_layWay_173 0 rfl ?_
      obtain ⟨v22, σ23, e23, hf⟩ := obd_out hf
      refine z_cSv h (n := 2) (c_X6_common l G e23) rfl wd_463 wd_464 wd_5 wd_465 (by decide +kernel) ⟨rfl, rfl⟩ rfl rfl rfl dX6_layWay_175 ⟨Nat.zero_le _, Nat.zero_le _⟩ ?_
      refine z_lstore h dX6_layWay_178 (lv' := [(8, .long v22), (6, .long v21), (0, .ref (G.1 1067)), (3, .int x3), (4, .long x4)]) rfl rfl ?_
      refine z_iconst h (v := (0 : Int32)) dX6_layWay_180 ic_0 ?_
      refine z_istore h dX6_layWay_181 (lv' := [(10, .int (0 : Int32)), (8, .long v22), (6, .long v21), (0, .ref (G.1 1067)), (3, .int x3), (4, .long x4)]) rfl rfl ?_
      exact z_sub [3, 4, 5, 2, 1, 0] rfl (k_X6_layWay_h183 h hq N x3 x4 v21 v22 hb88 _ _ _ hf)
    · have hf := it_neg g18 hf
      refine z_lload h dX6_layWay_107 2 rfl ?_
      refine z_iload h dX6_layWay_109 3 rfl ?_
      refine z_aload_n h dX6_layWay_111 rfl 0 rfl ?_
      refine z_gfR h zC6 (d := 1079) (c := 1067) tg_1067 ln_1067 16 rfl ft_6_16 rf_1067_16 wd_100 dX6_layWay_112 ?_
      refine z_iload_n h dX6_layWay_115 rfl 1 rfl ?_
      obtain ⟨g37, hf⟩ := ck_out hf
      refine z_iald h (c := 1079) tg_1079 ln_1079 g37 dX6_layWay_116 ?_
      refine z_icmp_ne h (tgt := 124) dX6_layWay_117 (by decide) (fun g38 => ?_) (fun g38 => ?_)
      · have hf := it_neg g38 hf
        refine z_aload_n h dX6_layWay_124 rfl 0 rfl ?_
        refine z_gfR h zC6 (d := 1078) (c := 1067) tg_1067 ln_1067 15 rfl ft_6_15 rf_1067_15 wd_99 dX6_layWay_125 ?_
        refine z_bipush h (v := (21 : Int32)) dX6_layWay_128 bp_21 ?_
        refine z_iload_n h dX6_layWay_130 rfl 1 rfl ?_
        refine z_imul h dX6_layWay_131 ?_
        refine z_iload h dX6_layWay_132 3 rfl ?_
        refine z_iadd h dX6_layWay_134 ?_
        obtain ⟨g39, hf⟩ := ck_out hf
        refine z_lald h (c := 1078) tg_1078 ln_1078 g39 dX6_layWay_135 ?_
        refine z_aload_n h dX6_layWay_136 rfl 0 rfl ?_
        refine z_gfR h zC6 (d := 1084) (c := 1067) tg_1067 ln_1067 22 rfl ft_6_22 rf_1067_22 wd_106 dX6_layWay_137 ?_
        refine z_iload h dX6_layWay_140 3 rfl ?_
        obtain ⟨g40, hf⟩ := ck_out hf
        refine z_lald h (c := 1084) tg_1084 ln_1084 g40 dX6_layWay_142 ?_
        refine z_lmul h dX6_layWay_143 ?_
        exact z_sub [0, 1, 3] rfl (k_X6_layWay_b144 h hq N x3 x6 x4 ((gJ σ 1078 ((((21 : Int32) * x3) + x6).toNatClampNeg)) * (gJ σ 1084 (x6.toNatClampNeg))) (fun x4_ x6_ σ_ hf_ => ih x4_ x6_ σ_ hf_) _ hf)
      · have hf := it_pos g38 hf
        refine z_lconst h (v := (0 : Int64)) dX6_layWay_120 lc_0 ?_
        refine z_goto h (tgt := 144) dX6_layWay_121 (by decide) ?_
        exact z_sub [0, 1, 3] rfl (k_X6_layWay_b144 h hq N x3 x6 x4 (0 : Int64) (fun x4_ x6_ σ_ hf_ => ih x4_ x6_ σ_ hf_) _ hf)
set_option maxHeartbeats 4000000 in
set_option maxRecDepth 100000 in
theorem k_X6_layWay_h88 {l : Launch} {Y : ZY} {G : ZG} {σ' : ZS} (h : zOk (l, rm_X6_layWay, 11, 0, 0) Y G cX6_layWay RX6 none) (hq : zRet (l, rm_X6_layWay, 11, 0, 0) Y G none σ') (N : Nat) : ∀ (n : Nat) (x3 : Int32) (σ : ZS), f_X6_layWay_h88 N n x3 σ = some ((), σ') → Z (l, rm_X6_layWay, 11, 0, 0) Y G σ [(0, .ref (G.1 1067)), (3, .int x3)] [] 88 := by
  intro n
  induction n with
  | zero =>
    intro x3 σ hf
    rw [f_X6_layWay_h88] at hf
    cases hf
  | succ n ih =>
    intro x3 σ hf
    rw [f_X6_layWay_h88] at hf
    refine z_iload_n h dX6_layWay_88 rfl 1 rfl ?_
    refine z_if_lt h (tgt := 236) dX6_layWay_89 (by decide) (fun g5 => ?_) (fun g5 => ?_)
    · have hf := it_pos g5 hf
      refine z_lconst h (v := (0 : Int64)) dX6_layWay_236 lc_0 ?_
      refine z_lstore_n h dX6_layWay_237 rfl (lv' := [(3, .long (0 : Int64)), (0, .ref (G.1 1067))]) rfl rfl ?_
      refine z_iconst h (v := (0 : Int32)) dX6_layWay_238 ic_0 ?_
      refine z_istore h dX6_layWay_239 (lv' := [(5, .int (0 : Int32)), (3, .long (0 : Int64)), (0, .ref (G.1 1067))]) rfl rfl ?_
      exact z_sub [2, 1, 0] rfl (k_X6_layWay_h241 h hq N _ _ _ _ hf)
    · have hf := it_neg g5 hf
      refine z_lconst h (v := (0 : Int64)) dX6_layWay_92 lc_0 ?_
      refine z_lstore h dX6_layWay_93 (lv' := [(4, .long (0 : Int64)), (0, .ref (G.1 1067)), (3, .int x3)]) rfl rfl ?_
      refine z_iconst h (v := (0 : Int32)) dX6_layWay_95 ic_0 ?_
      refine z_istore h dX6_layWay_96 (lv' := [(6, .int (0 : Int32)), (4, .long (0 : Int64)), (0, .ref (G.1 1067)), (3, .int x3)]) rfl rfl ?_
      exact z_sub [2, 3, 1, 0] rfl (k_X6_layWay_h98 h hq N x3 (fun x3_ σ_ hf_ => ih x3_ σ_ hf_) _ _ _ _ hf)
set_option maxHeartbeats 4000000 in
set_option maxRecDepth 100000 in
theorem k_X6_layWay_b63 {l : Launch} {Y : ZY} {G : ZG} {σ' : ZS} (h : zOk (l, rm_X6_layWay, 11, 0, 0) Y G cX6_layWay RX6 none) (hq : zRet (l, rm_X6_layWay, 11, 0, 0) Y G none σ') (N : Nat) {kb4 : Int32 → Int32 → ZS → Option (Unit × ZS)} (x1 : Int32) (x3 : Int32) (s0 : Int32) (hb4 : ∀ (x2_ : Int32) (x3_ : Int32) (σ_ : ZS), kb4 x2_ x3_ σ_ = some ((), σ') → Z (l, rm_X6_layWay, 11, 0, 0) Y G σ_ [(0, .ref (G.1 1067)), (1, .int x1), (2, .int x2_), (3, .int x3_)] [] 4) (σ : ZS) (hf : f_X6_layWay_b63 N kb4 x1 x3 s0 σ = some ((), σ')) : Z (l, rm_X6_layWay, 11, 0, 0) Y G σ [(0, .ref (G.1 1067)), (1, .int x1), (3, .int x3)] [.int s0] 63 := by
  rw [f_X6_layWay_b63] at hf
  refine z_istore_n h dX6_layWay_63 rfl (lv' := [(2, .int s0), (0, .ref (G.1 1067)), (1, .int x1), (3, .int x3)]) rfl rfl ?_
  refine z_aload_n h dX6_layWay_64 rfl 1 rfl ?_
  refine z_gfR h zC6 (d := 1084) (c := 1067) tg_1067 ln_1067 22 rfl ft_6_22 rf_1067_22 wd_106 dX6_layWay_65 ?_
  refine z_iload_n h dX6_layWay_68 rfl 3 rfl ?_
  refine z_lconst h (v := (0 : Int64)) dX6_layWay_69 lc_0 ?_
  obtain ⟨g45, hf⟩ := ck_out hf
  refine z_last h (c := 1084) tg_1084 ln_1084 g45 dX6_layWay_70 ?_
  refine z_gen (fun σ46 eσ46 => ?_)
  have hf := bd_to eσ46 hf
  obtain ⟨v47, ev47, hf⟩ := bd_ex hf
  refine z_iinc h (v := v47) (lv' := [(3, .int v47), (2, .int s0), (0, .ref (G.1 1067)), (1, .int x1)]) dX6_layWay_71 3 rfl (by rw [ev47]; rfl) rfl rfl ?_
  refine z_goto h (tgt := 4) dX6_layWay_74 (by decide) ?_
  exact z_sub [2, 3, 1, 0] rfl (hb4 _ _ _ hf)
set_option maxHeartbeats 4000000 in
set_option maxRecDepth 100000 in
theorem k_X6_layWay_b45 {l : Launch} {Y : ZY} {G : ZG} {σ' : ZS} (h : zOk (l, rm_X6_layWay, 11, 0, 0) Y G cX6_layWay RX6 none) (hq : zRet (l, rm_X6_layWay, 11, 0, 0) Y G none σ') (N : Nat) {kb18 : Int32 → Int32 → ZS → Option (Unit × ZS)} (x1 : Int32) (x2 : Int32) (x3 : Int32) (x5 : Int32) (s0 : Int32) (hb18 : ∀ (x4_ : Int32) (x5_ : Int32) (σ_ : ZS), kb18 x4_ x5_ σ_ = some ((), σ') → Z (l, rm_X6_layWay, 11, 0, 0) Y G σ_ [(0, .ref (G.1 1067)), (1, .int x1), (2, .int x2), (3, .int x3), (4, .int x4_), (5, .int x5_)] [] 18) (σ : ZS) (hf : f_X6_layWay_b45 N kb18 x1 x2 x3 x5 s0 σ = some ((), σ')) : Z (l, rm_X6_layWay, 11, 0, 0) Y G σ [(0, .ref (G.1 1067)), (1, .int x1), (2, .int x2), (3, .int x3), (5, .int x5)] [.int s0] 45 := by
  rw [f_X6_layWay_b45] at hf
  refine z_istore h dX6_layWay_45 (lv' := [(4, .int s0), (0, .ref (G.1 1067)), (1, .int x1), (2, .int x2), (3, .int x3), (5, .int x5)]) rfl rfl ?_
  obtain ⟨v49, ev49, hf⟩ := bd_ex hf
  refine z_iinc h (v := v49) (lv' := [(5, .int v49), (4, .int s0), (0, .ref (G.1 1067)), (1, .int x1), (2, .int x2), (3, .int x3)]) dX6_layWay_47 5 rfl (by rw [ev49]; rfl) rfl rfl ?_
  refine z_goto h (tgt := 18) dX6_layWay_50 (by decide) ?_
  exact z_sub [2, 3, 4, 5, 1, 0] rfl (hb18 _ _ _ hf)
set_option maxHeartbeats 4000000 in
set_option maxRecDepth 100000 in
theorem k_X6_layWay_b44 {l : Launch} {Y : ZY} {G : ZG} {σ' : ZS} (h : zOk (l, rm_X6_layWay, 11, 0, 0) Y G cX6_layWay RX6 none) (hq : zRet (l, rm_X6_layWay, 11, 0, 0) Y G none σ') (N : Nat) {kb18 : Int32 → Int32 → ZS → Option (Unit × ZS)} (x1 : Int32) (x2 : Int32) (x3 : Int32) (x5 : Int32) (hb18 : ∀ (x4_ : Int32) (x5_ : Int32) (σ_ : ZS), kb18 x4_ x5_ σ_ = some ((), σ') → Z (l, rm_X6_layWay, 11, 0, 0) Y G σ_ [(0, .ref (G.1 1067)), (1, .int x1), (2, .int x2), (3, .int x3), (4, .int x4_), (5, .int x5_)] [] 18) (σ : ZS) (hf : f_X6_layWay_b44 N kb18 x1 x2 x3 x5 σ = some ((), σ')) : Z (l, rm_X6_layWay, 11, 0, 0) Y G σ [(0, .ref (G.1 1067)), (1, .int x1), (2, .int x2), (3, .int x3), (5, .int x5)] [] 44 := by
  rw [f_X6_layWay_b44] at hf
  refine z_iconst h (v := (0 : Int32)) dX6_layWay_44 ic_0 ?_
  exact z_sub [0, 1, 2, 3, 4] rfl (k_X6_layWay_b45 h hq N x1 x2 x3 x5 (0 : Int32) hb18 _ hf)
set_option maxHeartbeats 4000000 in
set_option maxRecDepth 100000 in
theorem k_X6_layWay_h18 {l : Launch} {Y : ZY} {G : ZG} {σ' : ZS} (h : zOk (l, rm_X6_layWay, 11, 0, 0) Y G cX6_layWay RX6 none) (hq : zRet (l, rm_X6_layWay, 11, 0, 0) Y G none σ') (N : Nat) {kb4 : Int32 → Int32 → ZS → Option (Unit × ZS)} (x1 : Int32) (x2 : Int32) (x3 : Int32) (hb4 : ∀ (x2_ : Int32) (x3_ : Int32) (σ_ : ZS), kb4 x2_ x3_ σ_ = some ((), σ') → Z (l, rm_X6_layWay, 11, 0, 0) Y G σ_ [(0, .ref (G.1 1067)), (1, .int x1), (2, .int x2_), (3, .int x3_)] [] 4) : ∀ (n : Nat) (x4 : Int32) (x5 : Int32) (σ : ZS), f_X6_layWay_h18 N kb4 x1 x2 x3 n x4 x5 σ = some ((), σ') → Z (l, rm_X6_layWay, 11, 0, 0) Y G σ [(0, .ref (G.1 1067)), (1, .int x1), (2, .int x2), (3, .int x3), (4, .int x4), (5, .int x5)] [] 18 := by
  intro n
  induction n with
  | zero =>
    intro x4 x5 σ hf
    rw [f_X6_layWay_h18] at hf
    cases hf
  | succ n ih =>
    intro x4 x5 σ hf
    rw [f_X6_layWay_h18] at hf
    refine z_iload h dX6_layWay_18 5 rfl ?_
    refine z_iload_n h dX6_layWay_20 rfl 1 rfl ?_
    refine z_icmp_ge h (tgt := 53) dX6_layWay_21 (by decide) (fun g43 => ?_) (fun g43 => ?_)
    · have hf := it_pos g43 hf
      refine z_iload h dX6_layWay_53 4 rfl ?_
      refine z_if_eq h (tgt := 62) dX6_layWay_55 (by decide) (fun g44 => ?_) (fun g44 => ?_)
      · have hf := it_pos g44 hf
        refine z_iload_n h dX6_layWay_62 rfl 2 rfl ?_
        exact z_sub [0, 1, 3] rfl (k_X6_layWay_b63 h hq N x1 x3 x2 hb4 _ hf)
      · have hf := it_neg g44 hf
        refine z_iload_n h dX6_layWay_58 rfl 3 rfl ?_
        refine z_goto h (tgt := 63) dX6_layWay_59 (by decide) ?_
        exact z_sub [0, 1, 3] rfl (k_X6_layWay_b63 h hq N x1 x3 x3 hb4 _ hf)
    · have hf := it_neg g43 hf
      refine z_iload h dX6_layWay_24 4 rfl ?_
      refine z_if_eq h (tgt := 44) dX6_layWay_26 (by decide) (fun g48 => ?_) (fun g48 => ?_)
      · have hf := it_pos g48 hf
        exact z_sub [0, 1, 2, 3, 5] rfl (k_X6_layWay_b44 h hq N x1 x2 x3 x5 (fun x4_ x5_ σ_ hf_ => ih x4_ x5_ σ_ hf_) _ hf)
      · have hf := it_neg g48 hf
        refine z_aload_n h dX6_layWay_29 rfl 0 rfl ?_
        refine z_gfR h zC6 (d := 1079) (c := 1067) tg_1067 ln_1067 16 rfl ft_6_16 rf_1067_16 wd_100 dX6_layWay_30 ?_
        refine z_iload h dX6_layWay_33 5 rfl ?_
        obtain ⟨g50, hf⟩ := ck_out hf
        refine z_iald h (c := 1079) tg_1079 ln_1079 g50 dX6_layWay_35 ?_
        refine z_iload_n h dX6_layWay_36 rfl 3 rfl ?_
        refine z_icmp_eq h (tgt := 44) dX6_layWay_37 (by decide) (fun g51 => ?_) (fun g51 => ?_)
        · have hf := it_pos g51 hf
          exact z_sub [0, 1, 2, 3, 5] rfl (k_X6_layWay_b44 h hq N x1 x2 x3 x5 (fun x4_ x5_ σ_ hf_ => ih x4_ x5_ σ_ hf_) _ hf)
        · have hf := it_neg g51 hf
          refine z_iconst h (v := (1 : Int32)) dX6_layWay_40 ic_1 ?_
          refine z_goto h (tgt := 45) dX6_layWay_41 (by decide) ?_
          exact z_sub [0, 1, 2, 3, 5] rfl (k_X6_layWay_b45 h hq N x1 x2 x3 x5 (1 : Int32) (fun x4_ x5_ σ_ hf_ => ih x4_ x5_ σ_ hf_) _ hf)
set_option maxHeartbeats 4000000 in
set_option maxRecDepth 100000 in
theorem k_X6_layWay_h4 {l : Launch} {Y : ZY} {G : ZG} {σ' : ZS} (h : zOk (l, rm_X6_layWay, 11, 0, 0) Y G cX6_layWay RX6 none) (hq : zRet (l, rm_X6_layWay, 11, 0, 0) Y G none σ') (N : Nat) (x1 : Int32) : ∀ (n : Nat) (x2 : Int32) (x3 : Int32) (σ : ZS), f_X6_layWay_h4 N x1 n x2 x3 σ = some ((), σ') → Z (l, rm_X6_layWay, 11, 0, 0) Y G σ [(0, .ref (G.1 1067)), (1, .int x1), (2, .int x2), (3, .int x3)] [] 4 := by
  intro n
  induction n with
  | zero =>
    intro x2 x3 σ hf
    rw [f_X6_layWay_h4] at hf
    cases hf
  | succ n ih =>
    intro x2 x3 σ hf
    rw [f_X6_layWay_h4] at hf
    refine z_iload_n h dX6_layWay_4 rfl 3 rfl ?_
    refine z_aload_n h dX6_layWay_5 rfl 0 rfl ?_
    refine z_gfI h zC6 (c := 1067) tg_1067 ln_1067 10 rfl ft_6_10 wd_424 dX6_layWay_6 ?_
    refine z_icmp_ge h (tgt := 77) dX6_layWay_9 (by decide) (fun g1 => ?_) (fun g1 => ?_)
    · have hf := it_pos g1 hf
      refine z_aload_n h dX6_layWay_77 rfl 0 rfl ?_
      refine z_gfR h zC6 (d := 1084) (c := 1067) tg_1067 ln_1067 22 rfl ft_6_22 rf_1067_22 wd_106 dX6_layWay_78 ?_
      refine z_iload_n h dX6_layWay_81 rfl 2 rfl ?_
      refine z_lconst h (v := (1 : Int64)) dX6_layWay_82 lc_1 ?_
      obtain ⟨g2, hf⟩ := ck_out hf
      refine z_last h (c := 1084) tg_1084 ln_1084 g2 dX6_layWay_83 ?_
      refine z_gen (fun σ3 eσ3 => ?_)
      have hf := bd_to eσ3 hf
      refine z_iload_n h dX6_layWay_84 rfl 1 rfl ?_
      refine z_iconst h (v := (1 : Int32)) dX6_layWay_85 ic_1 ?_
      refine z_isub h dX6_layWay_86 ?_
      refine z_topI (fun v4 ev4 => ?_)
      have hf := bd_to ev4 hf
      refine z_istore_n h dX6_layWay_87 rfl (lv' := [(3, .int v4), (0, .ref (G.1 1067)), (1, .int x1), (2, .int x2)]) rfl rfl ?_
      exact z_sub [1, 0] rfl (k_X6_layWay_h88 h hq N _ _ _ hf)
    · have hf := it_neg g1 hf
      refine z_iconst h (v := (1 : Int32)) dX6_layWay_12 ic_1 ?_
      refine z_istore h dX6_layWay_13 (lv' := [(4, .int (1 : Int32)), (0, .ref (G.1 1067)), (1, .int x1), (2, .int x2), (3, .int x3)]) rfl rfl ?_
      refine z_iconst h (v := (0 : Int32)) dX6_layWay_15 ic_0 ?_
      refine z_istore h dX6_layWay_16 (lv' := [(5, .int (0 : Int32)), (4, .int (1 : Int32)), (0, .ref (G.1 1067)), (1, .int x1), (2, .int x2), (3, .int x3)]) rfl rfl ?_
      exact z_sub [2, 3, 4, 5, 1, 0] rfl (k_X6_layWay_h18 h hq N x1 x2 x3 (fun x2_ x3_ σ_ hf_ => ih x2_ x3_ σ_ hf_) _ _ _ _ hf)
set_option maxHeartbeats 4000000 in
set_option maxRecDepth 100000 in
theorem c_X6_layWay (l : Launch) (G : ZG) {N : Nat} {x1 : Int32} {σ σ' : ZS} {r : Unit} (hf : f_X6_layWay N x1 σ = some (r, σ')) : zMet l G yX6_layWay cX6_layWay 11 none rm_X6_layWay [.ref (G.1 1067), .int x1] σ none σ' := by
  refine z_met (by decide +kernel) rfl (fun Y h hq => ?_)
  have h : zOk (l, rm_X6_layWay, 11, 0, 0) Y G cX6_layWay RX6 none := h
  rw [f_X6_layWay] at hf
  refine z_sub (lv' := [(0, .ref (G.1 1067)), (1, .int x1)]) [0, 1] rfl ?_
  refine z_iconst h (v := (0 : Int32)) dX6_layWay_0 ic_0 ?_
  refine z_istore_n h dX6_layWay_1 rfl (lv' := [(2, .int (0 : Int32)), (0, .ref (G.1 1067)), (1, .int x1)]) rfl rfl ?_
  refine z_iconst h (v := (0 : Int32)) dX6_layWay_2 ic_0 ?_
  refine z_istore_n h dX6_layWay_3 rfl (lv' := [(3, .int (0 : Int32)), (2, .int (0 : Int32)), (0, .ref (G.1 1067)), (1, .int x1)]) rfl rfl ?_
  exact z_sub [2, 3, 1, 0] rfl (k_X6_layWay_h4 h hq N x1 _ _ _ _ hf)
theorem dX6_twistBy_0 : decode cX6_twistBy 0 = .ok (.lconst 0, 1) := by decide +kernel
theorem dX6_twistBy_1 : decode cX6_twistBy 1 = .ok (.lstore 4, 2) := by decide +kernel
theorem dX6_twistBy_3 : decode cX6_twistBy 3 = .ok (.iconst 0, 1) := by decide +kernel
theorem dX6_twistBy_4 : decode cX6_twistBy 4 = .ok (.istore 6, 2) := by decide +kernel
theorem dX6_twistBy_6 : decode cX6_twistBy 6 = .ok (.iload 6, 2) := by decide +kernel
theorem dX6_twistBy_8 : decode cX6_twistBy 8 = .ok (.aload_n 0, 1) := by decide +kernel
theorem dX6_twistBy_9 : decode cX6_twistBy 9 = .ok (.getfield 165, 3) := by decide +kernel
theorem dX6_twistBy_12 : decode cX6_twistBy 12 = .ok (.if_icmp .ge 33, 3) := by decide +kernel
theorem dX6_twistBy_15 : decode cX6_twistBy 15 = .ok (.lload 4, 2) := by decide +kernel
theorem dX6_twistBy_17 : decode cX6_twistBy 17 = .ok (.aload_n 0, 1) := by decide +kernel
theorem dX6_twistBy_18 : decode cX6_twistBy 18 = .ok (.getfield 41, 3) := by decide +kernel
theorem dX6_twistBy_21 : decode cX6_twistBy 21 = .ok (.bipush 21, 2) := by decide +kernel
theorem dX6_twistBy_23 : decode cX6_twistBy 23 = .ok (.iload_n 3, 1) := by decide +kernel
theorem dX6_twistBy_24 : decode cX6_twistBy 24 = .ok (.imul, 1) := by decide +kernel
theorem dX6_twistBy_25 : decode cX6_twistBy 25 = .ok (.iload 6, 2) := by decide +kernel
theorem dX6_twistBy_27 : decode cX6_twistBy 27 = .ok (.iadd, 1) := by decide +kernel
theorem dX6_twistBy_28 : decode cX6_twistBy 28 = .ok (.laload, 1) := by decide +kernel
theorem dX6_twistBy_29 : decode cX6_twistBy 29 = .ok (.aload_n 1, 1) := by decide +kernel
theorem dX6_twistBy_30 : decode cX6_twistBy 30 = .ok (.iload_n 2, 1) := by decide +kernel
theorem dX6_twistBy_31 : decode cX6_twistBy 31 = .ok (.iload 6, 2) := by decide +kernel
theorem dX6_twistBy_33 : decode cX6_twistBy 33 = .ok (.iadd, 1) := by decide +kernel
theorem dX6_twistBy_34 : decode cX6_twistBy 34 = .ok (.laload, 1) := by decide +kernel
theorem dX6_twistBy_35 : decode cX6_twistBy 35 = .ok (.lmul, 1) := by decide +kernel
theorem dX6_twistBy_36 : decode cX6_twistBy 36 = .ok (.ladd, 1) := by decide +kernel
theorem dX6_twistBy_37 : decode cX6_twistBy 37 = .ok (.lstore 4, 2) := by decide +kernel
theorem dX6_twistBy_39 : decode cX6_twistBy 39 = .ok (.iinc 6 1, 3) := by decide +kernel
theorem dX6_twistBy_42 : decode cX6_twistBy 42 = .ok (.goto (-36), 3) := by decide +kernel
theorem dX6_twistBy_45 : decode cX6_twistBy 45 = .ok (.lload 4, 2) := by decide +kernel
theorem dX6_twistBy_47 : decode cX6_twistBy 47 = .ok (.bipush 12, 2) := by decide +kernel
theorem dX6_twistBy_49 : decode cX6_twistBy 49 = .ok (.aload_n 0, 1) := by decide +kernel
theorem dX6_twistBy_50 : decode cX6_twistBy 50 = .ok (.iload_n 3, 1) := by decide +kernel
theorem dX6_twistBy_51 : decode cX6_twistBy 51 = .ok (.iconst 2, 1) := by decide +kernel
theorem dX6_twistBy_52 : decode cX6_twistBy 52 = .ok (.idiv, 1) := by decide +kernel
theorem dX6_twistBy_53 : decode cX6_twistBy 53 = .ok (.invokevirtual 154, 3) := by decide +kernel
theorem dX6_twistBy_56 : decode cX6_twistBy 56 = .ok (.idiv, 1) := by decide +kernel
theorem dX6_twistBy_57 : decode cX6_twistBy 57 = .ok (.i2l, 1) := by decide +kernel
theorem dX6_twistBy_58 : decode cX6_twistBy 58 = .ok (.lmul, 1) := by decide +kernel
theorem dX6_twistBy_59 : decode cX6_twistBy 59 = .ok (.lreturn, 1) := by decide +kernel
abbrev rm_X6_twistBy : Room := { frames := 1, cells := 0, slots := 0, locals := 29 }
noncomputable def f_X6_twistBy_h6 (N : Nat) (a1 : Nat) (x2 : Int32) (x3 : Int32) : Nat → Int64 → Int32 → ZS → Option (Int64 × ZS)
  | 0, _, _, _ => none
  | n + 1, x4, x6, σ => (if (gI σ 1067 10) ≤ x6 then obd (f_X6_length N (x3 / (2 : Int32)) σ) fun v2 σ3 => ck (!(v2 == 0)) (some (x4 * (((12 : Int32) / v2).toInt64), σ3)) else ck (inb (((21 : Int32) * x3) + x6) 252) (ck (tg a1 == 2) (ck (inb (x2 + x6) (ln a1)) (bd (x4 + ((gJ σ 1077 ((((21 : Int32) * x3) + x6).toNatClampNeg)) * (gJ σ a1 ((x2 + x6).toNatClampNeg)))) fun v8 => bd (x6 + (1 : Int32)) fun v9 => f_X6_twistBy_h6 N a1 x2 x3 n v8 v9 σ))))
noncomputable def f_X6_twistBy (N : Nat) (a1 : Nat) (x2 : Int32) (x3 : Int32) (σ : ZS) : Option (Int64 × ZS) := f_X6_twistBy_h6 N a1 x2 x3 N (0 : Int64) (0 : Int32) σ
set_option maxHeartbeats 4000000 in
set_option maxRecDepth 100000 in
theorem k_X6_twistBy_h6 {l : Launch} {Y : ZY} {G : ZG} {r : Int64} {σ' : ZS} (h : zOk (l, rm_X6_twistBy, 7, 0, 0) Y G cX6_twistBy RX6 (some .long)) (hq : zRet (l, rm_X6_twistBy, 7, 0, 0) Y G (some (.long r)) σ') (N : Nat) (a1 : Nat) (x2 : Int32) (x3 : Int32) : ∀ (n : Nat) (x4 : Int64) (x6 : Int32) (σ : ZS), f_X6_twistBy_h6 N a1 x2 x3 n x4 x6 σ = some (r, σ') → Z (l, rm_X6_twistBy, 7, 0, 0) Y G σ [(0, .ref (G.1 1067)), (1, .ref (G.1 a1)), (2, .int x2), (3, .int x3), (4, .long x4), (6, .int x6)] [] 6 := by
  intro n
  induction n with
  | zero =>
    intro x4 x6 σ hf
    rw [f_X6_twistBy_h6] at hf
    cases hf
  | succ n ih =>
    intro x4 x6 σ hf
    rw [f_X6_twistBy_h6] at hf
    refine z_iload h dX6_twistBy_6 5 rfl ?_
    refine z_aload_n h dX6_twistBy_8 rfl 0 rfl ?_
    refine z_gfI h zC6 (c := 1067) tg_1067 ln_1067 10 rfl ft_6_10 wd_424 dX6_twistBy_9 ?_
    refine z_icmp_ge h (tgt := 45) dX6_twistBy_12 (by decide) (fun g1 => ?_) (fun g1 => ?_)
    · have hf := it_pos g1 hf
      refine z_lload h dX6_twistBy_45 4 rfl ?_
      refine z_bipush h (v := (12 : Int32)) dX6_twistBy_47 bp_12 ?_
      refine z_aload_n h dX6_twistBy_49 rfl 0 rfl ?_
      refine z_iload_n h dX6_twistBy_50 rfl 3 rfl ?_
      refine z_iconst h (v := (2 : Int32)) dX6_twistBy_51 ic_2 ?_
      refine z_idiv h dX6_twistBy_52 (by decide) ?_
      obtain ⟨v2, σ3, e3, hf⟩ := obd_out hf
      refine z_cVv h (n := 1) (c_X6_length l G e3) zC6 tg_1067 ln_1067 rfl rfl wd_265 wd_266 wd_267 wd_5 wd_268 (by decide +kernel) ⟨rfl, rfl⟩ rfl rfl rfl dX6_twistBy_53 ⟨Nat.zero_le _, Nat.zero_le _⟩ ?_
      obtain ⟨g4, hf⟩ := ck_out hf
      refine z_idiv h dX6_twistBy_56 (nz_of g4) ?_
      refine z_i2l h dX6_twistBy_57 ?_
      refine z_lmul h dX6_twistBy_58 ?_
      exact z_lret h (rt_J hf hq) dX6_twistBy_59
    · have hf := it_neg g1 hf
      refine z_lload h dX6_twistBy_15 4 rfl ?_
      refine z_aload_n h dX6_twistBy_17 rfl 0 rfl ?_
      refine z_gfR h zC6 (d := 1077) (c := 1067) tg_1067 ln_1067 14 rfl ft_6_14 rf_1067_14 wd_98 dX6_twistBy_18 ?_
      refine z_bipush h (v := (21 : Int32)) dX6_twistBy_21 bp_21 ?_
      refine z_iload_n h dX6_twistBy_23 rfl 3 rfl ?_
      refine z_imul h dX6_twistBy_24 ?_
      refine z_iload h dX6_twistBy_25 5 rfl ?_
      refine z_iadd h dX6_twistBy_27 ?_
      obtain ⟨g5, hf⟩ := ck_out hf
      refine z_lald h (c := 1077) tg_1077 ln_1077 g5 dX6_twistBy_28 ?_
      refine z_aload_n h dX6_twistBy_29 rfl 1 rfl ?_
      refine z_iload_n h dX6_twistBy_30 rfl 2 rfl ?_
      refine z_iload h dX6_twistBy_31 5 rfl ?_
      refine z_iadd h dX6_twistBy_33 ?_
      obtain ⟨g6, hf⟩ := ck_out hf
      obtain ⟨g7, hf⟩ := ck_out hf
      refine z_lald h (eq_of_beq g6) rfl g7 dX6_twistBy_34 ?_
      refine z_lmul h dX6_twistBy_35 ?_
      refine z_ladd h dX6_twistBy_36 ?_
      refine z_topJ (fun v8 ev8 => ?_)
      have hf := bd_to ev8 hf
      refine z_lstore h dX6_twistBy_37 (lv' := [(4, .long v8), (0, .ref (G.1 1067)), (1, .ref (G.1 a1)), (2, .int x2), (3, .int x3), (6, .int x6)]) rfl rfl ?_
      obtain ⟨v9, ev9, hf⟩ := bd_ex hf
      refine z_iinc h (v := v9) (lv' := [(6, .int v9), (4, .long v8), (0, .ref (G.1 1067)), (1, .ref (G.1 a1)), (2, .int x2), (3, .int x3)]) dX6_twistBy_39 5 rfl (by rw [ev9]; rfl) rfl rfl ?_
      refine z_goto h (tgt := 6) dX6_twistBy_42 (by decide) ?_
      exact z_sub [2, 3, 4, 5, 1, 0] rfl (ih _ _ _ hf)
set_option maxHeartbeats 4000000 in
set_option maxRecDepth 100000 in
theorem c_X6_twistBy (l : Launch) (G : ZG) {N : Nat} {a1 : Nat} {x2 : Int32} {x3 : Int32} {σ σ' : ZS} {r : Int64} (hf : f_X6_twistBy N a1 x2 x3 σ = some (r, σ')) : zMet l G yX6_twistBy cX6_twistBy 7 (some .long) rm_X6_twistBy [.ref (G.1 1067), .ref (G.1 a1), .int x2, .int x3] σ (some (.long r)) σ' := by
  refine z_met (by decide +kernel) rfl (fun Y h hq => ?_)
  have h : zOk (l, rm_X6_twistBy, 7, 0, 0) Y G cX6_twistBy RX6 (some .long) := h
  rw [f_X6_twistBy] at hf
  refine z_sub (lv' := [(0, .ref (G.1 1067)), (1, .ref (G.1 a1)), (2, .int x2), (3, .int x3)]) [0, 1, 2, 3] rfl ?_
  refine z_lconst h (v := (0 : Int64)) dX6_twistBy_0 lc_0 ?_
  refine z_lstore h dX6_twistBy_1 (lv' := [(4, .long (0 : Int64)), (0, .ref (G.1 1067)), (1, .ref (G.1 a1)), (2, .int x2), (3, .int x3)]) rfl rfl ?_
  refine z_iconst h (v := (0 : Int32)) dX6_twistBy_3 ic_0 ?_
  refine z_istore h dX6_twistBy_4 (lv' := [(6, .int (0 : Int32)), (4, .long (0 : Int64)), (0, .ref (G.1 1067)), (1, .ref (G.1 a1)), (2, .int x2), (3, .int x3)]) rfl rfl ?_
  exact z_sub [2, 3, 4, 5, 1, 0] rfl (k_X6_twistBy_h6 h hq N a1 x2 x3 _ _ _ _ hf)
theorem dX6_keepWay_0 : decode cX6_keepWay 0 = .ok (.aload_n 0, 1) := by decide +kernel
theorem dX6_keepWay_1 : decode cX6_keepWay 1 = .ok (.iload_n 1, 1) := by decide +kernel
theorem dX6_keepWay_2 : decode cX6_keepWay 2 = .ok (.invokevirtual 189, 3) := by decide +kernel
theorem dX6_keepWay_5 : decode cX6_keepWay 5 = .ok (.iconst 0, 1) := by decide +kernel
theorem dX6_keepWay_6 : decode cX6_keepWay 6 = .ok (.istore_n 2, 1) := by decide +kernel
theorem dX6_keepWay_7 : decode cX6_keepWay 7 = .ok (.iconst 0, 1) := by decide +kernel
theorem dX6_keepWay_8 : decode cX6_keepWay 8 = .ok (.istore_n 3, 1) := by decide +kernel
theorem dX6_keepWay_9 : decode cX6_keepWay 9 = .ok (.iload_n 3, 1) := by decide +kernel
theorem dX6_keepWay_10 : decode cX6_keepWay 10 = .ok (.iconst 2, 1) := by decide +kernel
theorem dX6_keepWay_11 : decode cX6_keepWay 11 = .ok (.aload_n 0, 1) := by decide +kernel
theorem dX6_keepWay_12 : decode cX6_keepWay 12 = .ok (.getfield 141, 3) := by decide +kernel
theorem dX6_keepWay_15 : decode cX6_keepWay 15 = .ok (.imul, 1) := by decide +kernel
theorem dX6_keepWay_16 : decode cX6_keepWay 16 = .ok (.if_icmp .ge 34, 3) := by decide +kernel
theorem dX6_keepWay_19 : decode cX6_keepWay 19 = .ok (.iload_n 2, 1) := by decide +kernel
theorem dX6_keepWay_20 : decode cX6_keepWay 20 = .ok (.aload_n 0, 1) := by decide +kernel
theorem dX6_keepWay_21 : decode cX6_keepWay 21 = .ok (.aload_n 0, 1) := by decide +kernel
theorem dX6_keepWay_22 : decode cX6_keepWay 22 = .ok (.getfield 64, 3) := by decide +kernel
theorem dX6_keepWay_25 : decode cX6_keepWay 25 = .ok (.iconst 0, 1) := by decide +kernel
theorem dX6_keepWay_26 : decode cX6_keepWay 26 = .ok (.iload_n 3, 1) := by decide +kernel
theorem dX6_keepWay_27 : decode cX6_keepWay 27 = .ok (.invokevirtual 192, 3) := by decide +kernel
theorem dX6_keepWay_30 : decode cX6_keepWay 30 = .ok (.lconst 0, 1) := by decide +kernel
theorem dX6_keepWay_31 : decode cX6_keepWay 31 = .ok (.lcmp, 1) := by decide +kernel
theorem dX6_keepWay_32 : decode cX6_keepWay 32 = .ok (.ifCond .eq 9, 3) := by decide +kernel
theorem dX6_keepWay_35 : decode cX6_keepWay 35 = .ok (.iconst 1, 1) := by decide +kernel
theorem dX6_keepWay_36 : decode cX6_keepWay 36 = .ok (.iload_n 3, 1) := by decide +kernel
theorem dX6_keepWay_37 : decode cX6_keepWay 37 = .ok (.ishl, 1) := by decide +kernel
theorem dX6_keepWay_38 : decode cX6_keepWay 38 = .ok (.goto 4, 3) := by decide +kernel
theorem dX6_keepWay_41 : decode cX6_keepWay 41 = .ok (.iconst 0, 1) := by decide +kernel
theorem dX6_keepWay_42 : decode cX6_keepWay 42 = .ok (.ior, 1) := by decide +kernel
theorem dX6_keepWay_43 : decode cX6_keepWay 43 = .ok (.istore_n 2, 1) := by decide +kernel
theorem dX6_keepWay_44 : decode cX6_keepWay 44 = .ok (.iinc 3 1, 3) := by decide +kernel
theorem dX6_keepWay_47 : decode cX6_keepWay 47 = .ok (.goto (-38), 3) := by decide +kernel
theorem dX6_keepWay_50 : decode cX6_keepWay 50 = .ok (.aload_n 0, 1) := by decide +kernel
theorem dX6_keepWay_51 : decode cX6_keepWay 51 = .ok (.getfield 57, 3) := by decide +kernel
theorem dX6_keepWay_54 : decode cX6_keepWay 54 = .ok (.iload_n 2, 1) := by decide +kernel
theorem dX6_keepWay_55 : decode cX6_keepWay 55 = .ok (.baload, 1) := by decide +kernel
theorem dX6_keepWay_56 : decode cX6_keepWay 56 = .ok (.ifCond .ne 13, 3) := by decide +kernel
theorem dX6_keepWay_59 : decode cX6_keepWay 59 = .ok (.aload_n 0, 1) := by decide +kernel
theorem dX6_keepWay_60 : decode cX6_keepWay 60 = .ok (.getfield 196, 3) := by decide +kernel
theorem dX6_keepWay_63 : decode cX6_keepWay 63 = .ok (.sipush 924, 3) := by decide +kernel
theorem dX6_keepWay_66 : decode cX6_keepWay 66 = .ok (.if_icmp .ne 4, 3) := by decide +kernel
theorem dX6_keepWay_69 : decode cX6_keepWay 69 = .ok (.return_, 1) := by decide +kernel
theorem dX6_keepWay_70 : decode cX6_keepWay 70 = .ok (.aload_n 0, 1) := by decide +kernel
theorem dX6_keepWay_71 : decode cX6_keepWay 71 = .ok (.getfield 57, 3) := by decide +kernel
theorem dX6_keepWay_74 : decode cX6_keepWay 74 = .ok (.iload_n 2, 1) := by decide +kernel
theorem dX6_keepWay_75 : decode cX6_keepWay 75 = .ok (.iconst 1, 1) := by decide +kernel
theorem dX6_keepWay_76 : decode cX6_keepWay 76 = .ok (.bastore, 1) := by decide +kernel
theorem dX6_keepWay_77 : decode cX6_keepWay 77 = .ok (.aload_n 0, 1) := by decide +kernel
theorem dX6_keepWay_78 : decode cX6_keepWay 78 = .ok (.dup, 1) := by decide +kernel
theorem dX6_keepWay_79 : decode cX6_keepWay 79 = .ok (.getfield 196, 3) := by decide +kernel
theorem dX6_keepWay_82 : decode cX6_keepWay 82 = .ok (.dup_x1, 1) := by decide +kernel
theorem dX6_keepWay_83 : decode cX6_keepWay 83 = .ok (.iconst 1, 1) := by decide +kernel
theorem dX6_keepWay_84 : decode cX6_keepWay 84 = .ok (.iadd, 1) := by decide +kernel
theorem dX6_keepWay_85 : decode cX6_keepWay 85 = .ok (.putfield 196, 3) := by decide +kernel
theorem dX6_keepWay_88 : decode cX6_keepWay 88 = .ok (.istore_n 3, 1) := by decide +kernel
theorem dX6_keepWay_89 : decode cX6_keepWay 89 = .ok (.iload_n 3, 1) := by decide +kernel
theorem dX6_keepWay_90 : decode cX6_keepWay 90 = .ok (.ifCond .le 78, 3) := by decide +kernel
theorem dX6_keepWay_93 : decode cX6_keepWay 93 = .ok (.aload_n 0, 1) := by decide +kernel
theorem dX6_keepWay_94 : decode cX6_keepWay 94 = .ok (.getfield 51, 3) := by decide +kernel
theorem dX6_keepWay_97 : decode cX6_keepWay 97 = .ok (.iload_n 3, 1) := by decide +kernel
theorem dX6_keepWay_98 : decode cX6_keepWay 98 = .ok (.iconst 1, 1) := by decide +kernel
theorem dX6_keepWay_99 : decode cX6_keepWay 99 = .ok (.isub, 1) := by decide +kernel
theorem dX6_keepWay_100 : decode cX6_keepWay 100 = .ok (.iaload, 1) := by decide +kernel
theorem dX6_keepWay_101 : decode cX6_keepWay 101 = .ok (.iload_n 2, 1) := by decide +kernel
theorem dX6_keepWay_102 : decode cX6_keepWay 102 = .ok (.if_icmp .le 66, 3) := by decide +kernel
theorem dX6_keepWay_105 : decode cX6_keepWay 105 = .ok (.aload_n 0, 1) := by decide +kernel
theorem dX6_keepWay_106 : decode cX6_keepWay 106 = .ok (.getfield 51, 3) := by decide +kernel
theorem dX6_keepWay_109 : decode cX6_keepWay 109 = .ok (.iload_n 3, 1) := by decide +kernel
theorem dX6_keepWay_110 : decode cX6_keepWay 110 = .ok (.aload_n 0, 1) := by decide +kernel
theorem dX6_keepWay_111 : decode cX6_keepWay 111 = .ok (.getfield 51, 3) := by decide +kernel
theorem dX6_keepWay_114 : decode cX6_keepWay 114 = .ok (.iload_n 3, 1) := by decide +kernel
theorem dX6_keepWay_115 : decode cX6_keepWay 115 = .ok (.iconst 1, 1) := by decide +kernel
theorem dX6_keepWay_116 : decode cX6_keepWay 116 = .ok (.isub, 1) := by decide +kernel
theorem dX6_keepWay_117 : decode cX6_keepWay 117 = .ok (.iaload, 1) := by decide +kernel
theorem dX6_keepWay_118 : decode cX6_keepWay 118 = .ok (.iastore, 1) := by decide +kernel
theorem dX6_keepWay_119 : decode cX6_keepWay 119 = .ok (.iconst 0, 1) := by decide +kernel
theorem dX6_keepWay_120 : decode cX6_keepWay 120 = .ok (.istore 4, 2) := by decide +kernel
theorem dX6_keepWay_122 : decode cX6_keepWay 122 = .ok (.iload 4, 2) := by decide +kernel
theorem dX6_keepWay_124 : decode cX6_keepWay 124 = .ok (.bipush 12, 2) := by decide +kernel
theorem dX6_keepWay_126 : decode cX6_keepWay 126 = .ok (.if_icmp .ge 36, 3) := by decide +kernel
theorem dX6_keepWay_129 : decode cX6_keepWay 129 = .ok (.aload_n 0, 1) := by decide +kernel
theorem dX6_keepWay_130 : decode cX6_keepWay 130 = .ok (.getfield 54, 3) := by decide +kernel
theorem dX6_keepWay_133 : decode cX6_keepWay 133 = .ok (.bipush 12, 2) := by decide +kernel
theorem dX6_keepWay_135 : decode cX6_keepWay 135 = .ok (.iload_n 3, 1) := by decide +kernel
theorem dX6_keepWay_136 : decode cX6_keepWay 136 = .ok (.imul, 1) := by decide +kernel
theorem dX6_keepWay_137 : decode cX6_keepWay 137 = .ok (.iload 4, 2) := by decide +kernel
theorem dX6_keepWay_139 : decode cX6_keepWay 139 = .ok (.iadd, 1) := by decide +kernel
theorem dX6_keepWay_140 : decode cX6_keepWay 140 = .ok (.aload_n 0, 1) := by decide +kernel
theorem dX6_keepWay_141 : decode cX6_keepWay 141 = .ok (.getfield 54, 3) := by decide +kernel
theorem dX6_keepWay_144 : decode cX6_keepWay 144 = .ok (.bipush 12, 2) := by decide +kernel
theorem dX6_keepWay_146 : decode cX6_keepWay 146 = .ok (.iload_n 3, 1) := by decide +kernel
theorem dX6_keepWay_147 : decode cX6_keepWay 147 = .ok (.imul, 1) := by decide +kernel
theorem dX6_keepWay_148 : decode cX6_keepWay 148 = .ok (.bipush 12, 2) := by decide +kernel
theorem dX6_keepWay_150 : decode cX6_keepWay 150 = .ok (.isub, 1) := by decide +kernel
theorem dX6_keepWay_151 : decode cX6_keepWay 151 = .ok (.iload 4, 2) := by decide +kernel
theorem dX6_keepWay_153 : decode cX6_keepWay 153 = .ok (.iadd, 1) := by decide +kernel
theorem dX6_keepWay_154 : decode cX6_keepWay 154 = .ok (.laload, 1) := by decide +kernel
theorem dX6_keepWay_155 : decode cX6_keepWay 155 = .ok (.lastore, 1) := by decide +kernel
theorem dX6_keepWay_156 : decode cX6_keepWay 156 = .ok (.iinc 4 1, 3) := by decide +kernel
theorem dX6_keepWay_159 : decode cX6_keepWay 159 = .ok (.goto (-37), 3) := by decide +kernel
theorem dX6_keepWay_162 : decode cX6_keepWay 162 = .ok (.iinc 3 (-1), 3) := by decide +kernel
theorem dX6_keepWay_165 : decode cX6_keepWay 165 = .ok (.goto (-76), 3) := by decide +kernel
theorem dX6_keepWay_168 : decode cX6_keepWay 168 = .ok (.aload_n 0, 1) := by decide +kernel
theorem dX6_keepWay_169 : decode cX6_keepWay 169 = .ok (.getfield 51, 3) := by decide +kernel
theorem dX6_keepWay_172 : decode cX6_keepWay 172 = .ok (.iload_n 3, 1) := by decide +kernel
theorem dX6_keepWay_173 : decode cX6_keepWay 173 = .ok (.iload_n 2, 1) := by decide +kernel
theorem dX6_keepWay_174 : decode cX6_keepWay 174 = .ok (.iastore, 1) := by decide +kernel
theorem dX6_keepWay_175 : decode cX6_keepWay 175 = .ok (.iconst 0, 1) := by decide +kernel
theorem dX6_keepWay_176 : decode cX6_keepWay 176 = .ok (.istore 4, 2) := by decide +kernel
theorem dX6_keepWay_178 : decode cX6_keepWay 178 = .ok (.iload 4, 2) := by decide +kernel
theorem dX6_keepWay_180 : decode cX6_keepWay 180 = .ok (.aload_n 0, 1) := by decide +kernel
theorem dX6_keepWay_181 : decode cX6_keepWay 181 = .ok (.getfield 165, 3) := by decide +kernel
theorem dX6_keepWay_184 : decode cX6_keepWay 184 = .ok (.if_icmp .ge 28, 3) := by decide +kernel
theorem dX6_keepWay_187 : decode cX6_keepWay 187 = .ok (.aload_n 0, 1) := by decide +kernel
theorem dX6_keepWay_188 : decode cX6_keepWay 188 = .ok (.getfield 54, 3) := by decide +kernel
theorem dX6_keepWay_191 : decode cX6_keepWay 191 = .ok (.bipush 12, 2) := by decide +kernel
theorem dX6_keepWay_193 : decode cX6_keepWay 193 = .ok (.iload_n 3, 1) := by decide +kernel
theorem dX6_keepWay_194 : decode cX6_keepWay 194 = .ok (.imul, 1) := by decide +kernel
theorem dX6_keepWay_195 : decode cX6_keepWay 195 = .ok (.iload 4, 2) := by decide +kernel
theorem dX6_keepWay_197 : decode cX6_keepWay 197 = .ok (.iadd, 1) := by decide +kernel
theorem dX6_keepWay_198 : decode cX6_keepWay 198 = .ok (.aload_n 0, 1) := by decide +kernel
theorem dX6_keepWay_199 : decode cX6_keepWay 199 = .ok (.getfield 64, 3) := by decide +kernel
theorem dX6_keepWay_202 : decode cX6_keepWay 202 = .ok (.iload 4, 2) := by decide +kernel
theorem dX6_keepWay_204 : decode cX6_keepWay 204 = .ok (.laload, 1) := by decide +kernel
theorem dX6_keepWay_205 : decode cX6_keepWay 205 = .ok (.lastore, 1) := by decide +kernel
theorem dX6_keepWay_206 : decode cX6_keepWay 206 = .ok (.iinc 4 1, 3) := by decide +kernel
theorem dX6_keepWay_209 : decode cX6_keepWay 209 = .ok (.goto (-31), 3) := by decide +kernel
theorem dX6_keepWay_212 : decode cX6_keepWay 212 = .ok (.return_, 1) := by decide +kernel
abbrev rm_X6_keepWay : Room := { frames := 2, cells := 0, slots := 0, locals := 76 }
noncomputable def f_X6_keepWay_h178 (N : Nat) (x3 : Int32) : Nat → Int32 → ZS → Option (Unit × ZS)
  | 0, _, _ => none
  | n + 1, x4, σ => (if (gI σ 1067 10) ≤ x4 then some ((), σ) else ck (inb x4 21) (bd (gJ σ 1084 (x4.toNatClampNeg)) fun v17 => ck (inb (((12 : Int32) * x3) + x4) 11088) (bd (sJ σ 1081 ((((12 : Int32) * x3) + x4).toNatClampNeg) v17) fun σ19 => bd (x4 + (1 : Int32)) fun v20 => f_X6_keepWay_h178 N x3 n v20 σ19)))
noncomputable def f_X6_keepWay_b168 (N : Nat) (x2 : Int32) (x3 : Int32) (σ : ZS) : Option (Unit × ZS) := ck (inb x3 924) (bd (sI σ 1080 (x3.toNatClampNeg) x2) fun σ14 => f_X6_keepWay_h178 N x3 N (0 : Int32) σ14)
noncomputable def f_X6_keepWay_h122 (N : Nat) (kb89 : Int32 → ZS → Option (Unit × ZS)) (x2 : Int32) (x3 : Int32) : Nat → Int32 → ZS → Option (Unit × ZS)
  | 0, _, _ => none
  | n + 1, x4, σ => (if (12 : Int32) ≤ x4 then bd (x3 + (-1 : Int32)) fun v28 => kb89 v28 σ else ck (inb ((((12 : Int32) * x3) - (12 : Int32)) + x4) 11088) (bd (gJ σ 1081 (((((12 : Int32) * x3) - (12 : Int32)) + x4).toNatClampNeg)) fun v30 => ck (inb (((12 : Int32) * x3) + x4) 11088) (bd (sJ σ 1081 ((((12 : Int32) * x3) + x4).toNatClampNeg) v30) fun σ32 => bd (x4 + (1 : Int32)) fun v33 => f_X6_keepWay_h122 N kb89 x2 x3 n v33 σ32)))
noncomputable def f_X6_keepWay_h89 (N : Nat) (x2 : Int32) : Nat → Int32 → ZS → Option (Unit × ZS)
  | 0, _, _ => none
  | n + 1, x3, σ => (if x3 ≤ 0 then f_X6_keepWay_b168 N x2 x3 σ else ck (inb (x3 - (1 : Int32)) 924) ((if (gI σ 1080 ((x3 - (1 : Int32)).toNatClampNeg)) ≤ x2 then f_X6_keepWay_b168 N x2 x3 σ else ck (inb (x3 - (1 : Int32)) 924) (bd (gI σ 1080 ((x3 - (1 : Int32)).toNatClampNeg)) fun v24 => ck (inb x3 924) (bd (sI σ 1080 (x3.toNatClampNeg) v24) fun σ26 => f_X6_keepWay_h122 N (fun x3_ σ_ => f_X6_keepWay_h89 N x2 n x3_ σ_) x2 x3 N (0 : Int32) σ26)))))
noncomputable def f_X6_keepWay_b42 (N : Nat) (kb9 : Int32 → Int32 → ZS → Option (Unit × ZS)) (x3 : Int32) (s0 : Int32) (s1 : Int32) (σ : ZS) : Option (Unit × ZS) := bd (s0 ||| s1) fun v37 => bd (x3 + (1 : Int32)) fun v38 => kb9 v37 v38 σ
noncomputable def f_X6_keepWay_h9 (N : Nat) : Nat → Int32 → Int32 → ZS → Option (Unit × ZS)
  | 0, _, _, _ => none
  | n + 1, x2, x3, σ => (if ((2 : Int32) * (gI σ 1067 4)) ≤ x3 then ck (inb x2 4096) ((if (gI σ 1082 (x2.toNatClampNeg)) = 0 then (if (gI σ 1067 17) = (924 : Int32) then some ((), σ) else ck (inb x2 4096) (bd (sI σ 1082 (x2.toNatClampNeg) (1 : Int32)) fun σ8 => bd (gI σ8 1067 17) fun v9 => bd (v9 + (1 : Int32)) fun v10 => bd (sI σ8 1067 17 v10) fun σ11 => f_X6_keepWay_h89 N x2 N v9 σ11)) else some ((), σ))) else obd (f_X6_twistBy N 1084 (0 : Int32) x3 σ) fun v34 σ35 => (if v34 = (0 : Int64) then f_X6_keepWay_b42 N (fun x2_ x3_ σ_ => f_X6_keepWay_h9 N n x2_ x3_ σ_) x3 x2 (0 : Int32) σ35 else f_X6_keepWay_b42 N (fun x2_ x3_ σ_ => f_X6_keepWay_h9 N n x2_ x3_ σ_) x3 x2 ((1 : Int32) <<< (x3 &&& 31)) σ35))
noncomputable def f_X6_keepWay (N : Nat) (x1 : Int32) (σ : ZS) : Option (Unit × ZS) := obd (f_X6_layWay N x1 σ) fun _ σ2 => f_X6_keepWay_h9 N N (0 : Int32) (0 : Int32) σ2
set_option maxHeartbeats 4000000 in
set_option maxRecDepth 100000 in
theorem k_X6_keepWay_h178 {l : Launch} {Y : ZY} {G : ZG} {σ' : ZS} (h : zOk (l, rm_X6_keepWay, 5, 0, 0) Y G cX6_keepWay RX6 none) (hq : zRet (l, rm_X6_keepWay, 5, 0, 0) Y G none σ') (N : Nat) (x3 : Int32) : ∀ (n : Nat) (x4 : Int32) (σ : ZS), f_X6_keepWay_h178 N x3 n x4 σ = some ((), σ') → Z (l, rm_X6_keepWay, 5, 0, 0) Y G σ [(0, .ref (G.1 1067)), (3, .int x3), (4, .int x4)] [] 178 := by
  intro n
  induction n with
  | zero =>
    intro x4 σ hf
    rw [f_X6_keepWay_h178] at hf
    cases hf
  | succ n ih =>
    intro x4 σ hf
    rw [f_X6_keepWay_h178] at hf
    refine z_iload h dX6_keepWay_178 2 rfl ?_
    refine z_aload_n h dX6_keepWay_180 rfl 0 rfl ?_
    refine z_gfI h zC6 (c := 1067) tg_1067 ln_1067 10 rfl ft_6_10 wd_424 dX6_keepWay_181 ?_
    refine z_icmp_ge h (tgt := 212) dX6_keepWay_184 (by decide) (fun g15 => ?_) (fun g15 => ?_)
    · have hf := it_pos g15 hf
      exact z_vret h (rt_V hf hq) dX6_keepWay_212
    · have hf := it_neg g15 hf
      refine z_aload_n h dX6_keepWay_187 rfl 0 rfl ?_
      refine z_gfR h zC6 (d := 1081) (c := 1067) tg_1067 ln_1067 19 rfl ft_6_19 rf_1067_19 wd_102 dX6_keepWay_188 ?_
      refine z_bipush h (v := (12 : Int32)) dX6_keepWay_191 bp_12 ?_
      refine z_iload_n h dX6_keepWay_193 rfl 1 rfl ?_
      refine z_imul h dX6_keepWay_194 ?_
      refine z_iload h dX6_keepWay_195 2 rfl ?_
      refine z_iadd h dX6_keepWay_197 ?_
      refine z_aload_n h dX6_keepWay_198 rfl 0 rfl ?_
      refine z_gfR h zC6 (d := 1084) (c := 1067) tg_1067 ln_1067 22 rfl ft_6_22 rf_1067_22 wd_106 dX6_keepWay_199 ?_
      refine z_iload h dX6_keepWay_202 2 rfl ?_
      obtain ⟨g16, hf⟩ := ck_out hf
      refine z_lald h (c := 1084) tg_1084 ln_1084 g16 dX6_keepWay_204 ?_
      refine z_topJ (fun v17 ev17 => ?_)
      have hf := bd_to ev17 hf
      obtain ⟨g18, hf⟩ := ck_out hf
      refine z_last h (c := 1081) tg_1081 ln_1081 g18 dX6_keepWay_205 ?_
      refine z_gen (fun σ19 eσ19 => ?_)
      have hf := bd_to eσ19 hf
      obtain ⟨v20, ev20, hf⟩ := bd_ex hf
      refine z_iinc h (v := v20) (lv' := [(4, .int v20), (0, .ref (G.1 1067)), (3, .int x3)]) dX6_keepWay_206 2 rfl (by rw [ev20]; rfl) rfl rfl ?_
      refine z_goto h (tgt := 178) dX6_keepWay_209 (by decide) ?_
      exact z_sub [1, 2, 0] rfl (ih _ _ hf)
set_option maxHeartbeats 4000000 in
set_option maxRecDepth 100000 in
theorem k_X6_keepWay_b168 {l : Launch} {Y : ZY} {G : ZG} {σ' : ZS} (h : zOk (l, rm_X6_keepWay, 5, 0, 0) Y G cX6_keepWay RX6 none) (hq : zRet (l, rm_X6_keepWay, 5, 0, 0) Y G none σ') (N : Nat) (x2 : Int32) (x3 : Int32) (σ : ZS) (hf : f_X6_keepWay_b168 N x2 x3 σ = some ((), σ')) : Z (l, rm_X6_keepWay, 5, 0, 0) Y G σ [(0, .ref (G.1 1067)), (2, .int x2), (3, .int x3)] [] 168 := by
  rw [f_X6_keepWay_b168] at hf
  refine z_aload_n h dX6_keepWay_168 rfl 0 rfl ?_
  refine z_gfR h zC6 (d := 1080) (c := 1067) tg_1067 ln_1067 18 rfl ft_6_18 rf_1067_18 wd_101 dX6_keepWay_169 ?_
  refine z_iload_n h dX6_keepWay_172 rfl 2 rfl ?_
  refine z_iload_n h dX6_keepWay_173 rfl 1 rfl ?_
  obtain ⟨g13, hf⟩ := ck_out hf
  refine z_iast h (c := 1080) tg_1080 ln_1080 g13 dX6_keepWay_174 ?_
  refine z_gen (fun σ14 eσ14 => ?_)
  have hf := bd_to eσ14 hf
  refine z_iconst h (v := (0 : Int32)) dX6_keepWay_175 ic_0 ?_
  refine z_istore h dX6_keepWay_176 (lv' := [(4, .int (0 : Int32)), (0, .ref (G.1 1067)), (2, .int x2), (3, .int x3)]) rfl rfl ?_
  exact z_sub [1, 3, 0] rfl (k_X6_keepWay_h178 h hq N x3 _ _ _ hf)
set_option maxHeartbeats 4000000 in
set_option maxRecDepth 100000 in
theorem k_X6_keepWay_h122 {l : Launch} {Y : ZY} {G : ZG} {σ' : ZS} (h : zOk (l, rm_X6_keepWay, 5, 0, 0) Y G cX6_keepWay RX6 none) (hq : zRet (l, rm_X6_keepWay, 5, 0, 0) Y G none σ') (N : Nat) {kb89 : Int32 → ZS → Option (Unit × ZS)} (x2 : Int32) (x3 : Int32) (hb89 : ∀ (x3_ : Int32) (σ_ : ZS), kb89 x3_ σ_ = some ((), σ') → Z (l, rm_X6_keepWay, 5, 0, 0) Y G σ_ [(0, .ref (G.1 1067)), (2, .int x2), (3, .int x3_)] [] 89) : ∀ (n : Nat) (x4 : Int32) (σ : ZS), f_X6_keepWay_h122 N kb89 x2 x3 n x4 σ = some ((), σ') → Z (l, rm_X6_keepWay, 5, 0, 0) Y G σ [(0, .ref (G.1 1067)), (2, .int x2), (3, .int x3), (4, .int x4)] [] 122 := by
  intro n
  induction n with
  | zero =>
    intro x4 σ hf
    rw [f_X6_keepWay_h122] at hf
    cases hf
  | succ n ih =>
    intro x4 σ hf
    rw [f_X6_keepWay_h122] at hf
    refine z_iload h dX6_keepWay_122 3 rfl ?_
    refine z_bipush h (v := (12 : Int32)) dX6_keepWay_124 bp_12 ?_
    refine z_icmp_ge h (tgt := 162) dX6_keepWay_126 (by decide) (fun g27 => ?_) (fun g27 => ?_)
    · have hf := it_pos g27 hf
      obtain ⟨v28, ev28, hf⟩ := bd_ex hf
      refine z_iinc h (v := v28) (lv' := [(3, .int v28), (0, .ref (G.1 1067)), (2, .int x2), (4, .int x4)]) dX6_keepWay_162 2 rfl (by rw [ev28]; rfl) rfl rfl ?_
      refine z_goto h (tgt := 89) dX6_keepWay_165 (by decide) ?_
      exact z_sub [1, 2, 0] rfl (hb89 _ _ hf)
    · have hf := it_neg g27 hf
      refine z_aload_n h dX6_keepWay_129 rfl 0 rfl ?_
      refine z_gfR h zC6 (d := 1081) (c := 1067) tg_1067 ln_1067 19 rfl ft_6_19 rf_1067_19 wd_102 dX6_keepWay_130 ?_
      refine z_bipush h (v := (12 : Int32)) dX6_keepWay_133 bp_12 ?_
      refine z_iload_n h dX6_keepWay_135 rfl 2 rfl ?_
      refine z_imul h dX6_keepWay_136 ?_
      refine z_iload h dX6_keepWay_137 3 rfl ?_
      refine z_iadd h dX6_keepWay_139 ?_
      refine z_aload_n h dX6_keepWay_140 rfl 0 rfl ?_
      refine z_gfR h zC6 (d := 1081) (c := 1067) tg_1067 ln_1067 19 rfl ft_6_19 rf_1067_19 wd_102 dX6_keepWay_141 ?_
      refine z_bipush h (v := (12 : Int32)) dX6_keepWay_144 bp_12 ?_
      refine z_iload_n h dX6_keepWay_146 rfl 2 rfl ?_
      refine z_imul h dX6_keepWay_147 ?_
      refine z_bipush h (v := (12 : Int32)) dX6_keepWay_148 bp_12 ?_
      refine z_isub h dX6_keepWay_150 ?_
      refine z_iload h dX6_keepWay_151 3 rfl ?_
      refine z_iadd h dX6_keepWay_153 ?_
      obtain ⟨g29, hf⟩ := ck_out hf
      refine z_lald h (c := 1081) tg_1081 ln_1081 g29 dX6_keepWay_154 ?_
      refine z_topJ (fun v30 ev30 => ?_)
      have hf := bd_to ev30 hf
      obtain ⟨g31, hf⟩ := ck_out hf
      refine z_last h (c := 1081) tg_1081 ln_1081 g31 dX6_keepWay_155 ?_
      refine z_gen (fun σ32 eσ32 => ?_)
      have hf := bd_to eσ32 hf
      obtain ⟨v33, ev33, hf⟩ := bd_ex hf
      refine z_iinc h (v := v33) (lv' := [(4, .int v33), (0, .ref (G.1 1067)), (2, .int x2), (3, .int x3)]) dX6_keepWay_156 3 rfl (by rw [ev33]; rfl) rfl rfl ?_
      refine z_goto h (tgt := 122) dX6_keepWay_159 (by decide) ?_
      exact z_sub [1, 2, 3, 0] rfl (ih _ _ hf)
set_option maxHeartbeats 4000000 in
set_option maxRecDepth 100000 in
theorem k_X6_keepWay_h89 {l : Launch} {Y : ZY} {G : ZG} {σ' : ZS} (h : zOk (l, rm_X6_keepWay, 5, 0, 0) Y G cX6_keepWay RX6 none) (hq : zRet (l, rm_X6_keepWay, 5, 0, 0) Y G none σ') (N : Nat) (x2 : Int32) : ∀ (n : Nat) (x3 : Int32) (σ : ZS), f_X6_keepWay_h89 N x2 n x3 σ = some ((), σ') → Z (l, rm_X6_keepWay, 5, 0, 0) Y G σ [(0, .ref (G.1 1067)), (2, .int x2), (3, .int x3)] [] 89 := by
  intro n
  induction n with
  | zero =>
    intro x3 σ hf
    rw [f_X6_keepWay_h89] at hf
    cases hf
  | succ n ih =>
    intro x3 σ hf
    rw [f_X6_keepWay_h89] at hf
    refine z_iload_n h dX6_keepWay_89 rfl 2 rfl ?_
    refine z_if_le h (tgt := 168) dX6_keepWay_90 (by decide) (fun g12 => ?_) (fun g12 => ?_)
    · have hf := it_pos g12 hf
      exact z_sub [0, 1, 2] rfl (k_X6_keepWay_b168 h hq N x2 x3 _ hf)
    · have hf := it_neg g12 hf
      refine z_aload_n h dX6_keepWay_93 rfl 0 rfl ?_
      refine z_gfR h zC6 (d := 1080) (c := 1067) tg_1067 ln_1067 18 rfl ft_6_18 rf_1067_18 wd_101 dX6_keepWay_94 ?_
      refine z_iload_n h dX6_keepWay_97 rfl 2 rfl ?_
      refine z_iconst h (v := (1 : Int32)) dX6_keepWay_98 ic_1 ?_
      refine z_isub h dX6_keepWay_99 ?_
      obtain ⟨g21, hf⟩ := ck_out hf
      refine z_iald h (c := 1080) tg_1080 ln_1080 g21 dX6_keepWay_100 ?_
      refine z_iload_n h dX6_keepWay_101 rfl 1 rfl ?_
      refine z_icmp_le h (tgt := 168) dX6_keepWay_102 (by decide) (fun g22 => ?_) (fun g22 => ?_)
      · have hf := it_pos g22 hf
        exact z_sub [0, 1, 2] rfl (k_X6_keepWay_b168 h hq N x2 x3 _ hf)
      · have hf := it_neg g22 hf
        refine z_aload_n h dX6_keepWay_105 rfl 0 rfl ?_
        refine z_gfR h zC6 (d := 1080) (c := 1067) tg_1067 ln_1067 18 rfl ft_6_18 rf_1067_18 wd_101 dX6_keepWay_106 ?_
        refine z_iload_n h dX6_keepWay_109 rfl 2 rfl ?_
        refine z_aload_n h dX6_keepWay_110 rfl 0 rfl ?_
        refine z_gfR h zC6 (d := 1080) (c := 1067) tg_1067 ln_1067 18 rfl ft_6_18 rf_1067_18 wd_101 dX6_keepWay_111 ?_
        refine z_iload_n h dX6_keepWay_114 rfl 2 rfl ?_
        refine z_iconst h (v := (1 : Int32)) dX6_keepWay_115 ic_1 ?_
        refine z_isub h dX6_keepWay_116 ?_
        obtain ⟨g23, hf⟩ := ck_out hf
        refine z_iald h (c := 1080) tg_1080 ln_1080 g23 dX6_keepWay_117 ?_
        refine z_topI (fun v24 ev24 => ?_)
        have hf := bd_to ev24 hf
        obtain ⟨g25, hf⟩ := ck_out hf
        refine z_iast h (c := 1080) tg_1080 ln_1080 g25 dX6_keepWay_118 ?_
        refine z_gen (fun σ26 eσ26 => ?_)
        have hf := bd_to eσ26 hf
        refine z_iconst h (v := (0 : Int32)) dX6_keepWay_119 ic_0 ?_
        refine z_istore h dX6_keepWay_120 (lv' := [(4, .int (0 : Int32)), (0, .ref (G.1 1067)), (2, .int x2), (3, .int x3)]) rfl rfl ?_
        exact z_sub [1, 2, 3, 0] rfl (k_X6_keepWay_h122 h hq N x2 x3 (fun x3_ σ_ hf_ => ih x3_ σ_ hf_) _ _ _ hf)
set_option maxHeartbeats 4000000 in
set_option maxRecDepth 100000 in
theorem k_X6_keepWay_b42 {l : Launch} {Y : ZY} {G : ZG} {σ' : ZS} (h : zOk (l, rm_X6_keepWay, 5, 0, 0) Y G cX6_keepWay RX6 none) (hq : zRet (l, rm_X6_keepWay, 5, 0, 0) Y G none σ') (N : Nat) {kb9 : Int32 → Int32 → ZS → Option (Unit × ZS)} (x3 : Int32) (s0 : Int32) (s1 : Int32) (hb9 : ∀ (x2_ : Int32) (x3_ : Int32) (σ_ : ZS), kb9 x2_ x3_ σ_ = some ((), σ') → Z (l, rm_X6_keepWay, 5, 0, 0) Y G σ_ [(0, .ref (G.1 1067)), (2, .int x2_), (3, .int x3_)] [] 9) (σ : ZS) (hf : f_X6_keepWay_b42 N kb9 x3 s0 s1 σ = some ((), σ')) : Z (l, rm_X6_keepWay, 5, 0, 0) Y G σ [(0, .ref (G.1 1067)), (3, .int x3)] [.int s1, .int s0] 42 := by
  rw [f_X6_keepWay_b42] at hf
  refine z_ior h dX6_keepWay_42 ?_
  refine z_topI (fun v37 ev37 => ?_)
  have hf := bd_to ev37 hf
  refine z_istore_n h dX6_keepWay_43 rfl (lv' := [(2, .int v37), (0, .ref (G.1 1067)), (3, .int x3)]) rfl rfl ?_
  obtain ⟨v38, ev38, hf⟩ := bd_ex hf
  refine z_iinc h (v := v38) (lv' := [(3, .int v38), (2, .int v37), (0, .ref (G.1 1067))]) dX6_keepWay_44 2 rfl (by rw [ev38]; rfl) rfl rfl ?_
  refine z_goto h (tgt := 9) dX6_keepWay_47 (by decide) ?_
  exact z_sub [2, 1, 0] rfl (hb9 _ _ _ hf)
set_option maxHeartbeats 4000000 in
set_option maxRecDepth 100000 in
theorem k_X6_keepWay_h9 {l : Launch} {Y : ZY} {G : ZG} {σ' : ZS} (h : zOk (l, rm_X6_keepWay, 5, 0, 0) Y G cX6_keepWay RX6 none) (hq : zRet (l, rm_X6_keepWay, 5, 0, 0) Y G none σ') (N : Nat) : ∀ (n : Nat) (x2 : Int32) (x3 : Int32) (σ : ZS), f_X6_keepWay_h9 N n x2 x3 σ = some ((), σ') → Z (l, rm_X6_keepWay, 5, 0, 0) Y G σ [(0, .ref (G.1 1067)), (2, .int x2), (3, .int x3)] [] 9 := by
  intro n
  induction n with
  | zero =>
    intro x2 x3 σ hf
    rw [f_X6_keepWay_h9] at hf
    cases hf
  | succ n ih =>
    intro x2 x3 σ hf
    rw [f_X6_keepWay_h9] at hf
    refine z_iload_n h dX6_keepWay_9 rfl 2 rfl ?_
    refine z_iconst h (v := (2 : Int32)) dX6_keepWay_10 ic_2 ?_
    refine z_aload_n h dX6_keepWay_11 rfl 0 rfl ?_
    refine z_gfI h zC6 (c := 1067) tg_1067 ln_1067 4 rfl ft_6_4 wd_200 dX6_keepWay_12 ?_
    refine z_imul h dX6_keepWay_15 ?_
    refine z_icmp_ge h (tgt := 50) dX6_keepWay_16 (by decide) (fun g3 => ?_) (fun g3 => ?_)
    · have hf := it_pos g3 hf
      refine z_aload_n h dX6_keepWay_50 rfl 0 rfl ?_
      refine z_gfR h zC6 (d := 1082) (c := 1067) tg_1067 ln_1067 20 rfl ft_6_20 rf_1067_20 wd_104 dX6_keepWay_51 ?_
      refine z_iload_n h dX6_keepWay_54 rfl 1 rfl ?_
      obtain ⟨g4, hf⟩ := ck_out hf
      refine z_zald h (c := 1082) tg_1082 ln_1082 g4 dX6_keepWay_55 ?_
      refine z_if_ne h (tgt := 69) dX6_keepWay_56 (by decide) (fun g5 => ?_) (fun g5 => ?_)
      · have hf := it_neg g5 hf
        exact z_vret h (rt_V hf hq) dX6_keepWay_69
      · have hf := it_pos g5 hf
        refine z_aload_n h dX6_keepWay_59 rfl 0 rfl ?_
        refine z_gfI h zC6 (c := 1067) tg_1067 ln_1067 17 rfl ft_6_17 wd_425 dX6_keepWay_60 ?_
        refine z_sipush h (v := (924 : Int32)) dX6_keepWay_63 sp_924 ?_
        refine z_icmp_ne h (tgt := 70) dX6_keepWay_66 (by decide) (fun g6 => ?_) (fun g6 => ?_)
        · have hf := it_neg g6 hf
          refine z_aload_n h dX6_keepWay_70 rfl 0 rfl ?_
          refine z_gfR h zC6 (d := 1082) (c := 1067) tg_1067 ln_1067 20 rfl ft_6_20 rf_1067_20 wd_104 dX6_keepWay_71 ?_
          refine z_iload_n h dX6_keepWay_74 rfl 1 rfl ?_
          refine z_iconst h (v := (1 : Int32)) dX6_keepWay_75 ic_1 ?_
          obtain ⟨g7, hf⟩ := ck_out hf
          refine z_zast h (c := 1082) tg_1082 ln_1082 g7 rfl dX6_keepWay_76 ?_
          refine z_gen (fun σ8 eσ8 => ?_)
          have hf := bd_to eσ8 hf
          refine z_aload_n h dX6_keepWay_77 rfl 0 rfl ?_
          refine z_dup h dX6_keepWay_78 rfl ?_
          refine z_gfI h zC6 (c := 1067) tg_1067 ln_1067 17 rfl ft_6_17 wd_425 dX6_keepWay_79 ?_
          refine z_topI (fun v9 ev9 => ?_)
          have hf := bd_to ev9 hf
          refine z_dup_x1 h dX6_keepWay_82 rfl rfl ?_
          refine z_iconst h (v := (1 : Int32)) dX6_keepWay_83 ic_1 ?_
          refine z_iadd h dX6_keepWay_84 ?_
          refine z_topI (fun v10 ev10 => ?_)
          have hf := bd_to ev10 hf
          refine z_pfI h zC6 (c := 1067) tg_1067 ln_1067 17 rfl ft_6_17 wd_425 rfl (ty := .int) (by decide +kernel) rfl rfl dX6_keepWay_85 ?_
          refine z_gen (fun σ11 eσ11 => ?_)
          have hf := bd_to eσ11 hf
          refine z_istore_n h dX6_keepWay_88 rfl (lv' := [(3, .int v9), (0, .ref (G.1 1067)), (2, .int x2)]) rfl rfl ?_
          exact z_sub [1, 2, 0] rfl (k_X6_keepWay_h89 h hq N x2 _ _ _ hf)
        · have hf := it_pos g6 hf
          exact z_vret h (rt_V hf hq) dX6_keepWay_69
    · have hf := it_neg g3 hf
      refine z_iload_n h dX6_keepWay_19 rfl 1 rfl ?_
      refine z_aload_n h dX6_keepWay_20 rfl 0 rfl ?_
      refine z_aload_n h dX6_keepWay_21 rfl 0 rfl ?_
      refine z_gfR h zC6 (d := 1084) (c := 1067) tg_1067 ln_1067 22 rfl ft_6_22 rf_1067_22 wd_106 dX6_keepWay_22 ?_
      refine z_iconst h (v := (0 : Int32)) dX6_keepWay_25 ic_0 ?_
      refine z_iload_n h dX6_keepWay_26 rfl 2 rfl ?_
      obtain ⟨v34, σ35, e35, hf⟩ := obd_out hf
      refine z_cVv h (n := 3) (c_X6_twistBy l G e35) zC6 tg_1067 ln_1067 rfl rfl wd_478 wd_479 wd_480 wd_5 wd_481 (by decide +kernel) ⟨rfl, rfl⟩ rfl rfl rfl dX6_keepWay_27 ⟨Nat.zero_le _, Nat.zero_le _⟩ ?_
      refine z_lconst h (v := (0 : Int64)) dX6_keepWay_30 lc_0 ?_
      refine z_lif_eq h (tgt := 41) dX6_keepWay_31 dX6_keepWay_32 (by decide) (fun g36 => ?_) (fun g36 => ?_)
      · have hf := it_pos g36 hf
        refine z_iconst h (v := (0 : Int32)) dX6_keepWay_41 ic_0 ?_
        exact z_sub [0, 2] rfl (k_X6_keepWay_b42 h hq N x3 x2 (0 : Int32) (fun x2_ x3_ σ_ hf_ => ih x2_ x3_ σ_ hf_) _ hf)
      · have hf := it_neg g36 hf
        refine z_iconst h (v := (1 : Int32)) dX6_keepWay_35 ic_1 ?_
        refine z_iload_n h dX6_keepWay_36 rfl 2 rfl ?_
        refine z_ishl h dX6_keepWay_37 ?_
        refine z_goto h (tgt := 42) dX6_keepWay_38 (by decide) ?_
        exact z_sub [0, 2] rfl (k_X6_keepWay_b42 h hq N x3 x2 ((1 : Int32) <<< (x3 &&& 31)) (fun x2_ x3_ σ_ hf_ => ih x2_ x3_ σ_ hf_) _ hf)
set_option maxHeartbeats 4000000 in
set_option maxRecDepth 100000 in
theorem c_X6_keepWay (l : Launch) (G : ZG) {N : Nat} {x1 : Int32} {σ σ' : ZS} {r : Unit} (hf : f_X6_keepWay N x1 σ = some (r, σ')) : zMet l G yX6_keepWay cX6_keepWay 5 none rm_X6_keepWay [.ref (G.1 1067), .int x1] σ none σ' := by
  refine z_met (by decide +kernel) rfl (fun Y h hq => ?_)
  have h : zOk (l, rm_X6_keepWay, 5, 0, 0) Y G cX6_keepWay RX6 none := h
  rw [f_X6_keepWay] at hf
  refine z_sub (lv' := [(0, .ref (G.1 1067)), (1, .int x1)]) [0, 1] rfl ?_
  refine z_aload_n h dX6_keepWay_0 rfl 0 rfl ?_
  refine z_iload_n h dX6_keepWay_1 rfl 1 rfl ?_
  obtain ⟨v1, σ2, e2, hf⟩ := obd_out hf
  refine z_cV0 h (n := 1) (c_X6_layWay l G e2) zC6 tg_1067 ln_1067 rfl rfl wd_474 wd_475 wd_476 wd_5 wd_477 (by decide +kernel) ⟨rfl, rfl⟩ rfl rfl rfl dX6_keepWay_2 ⟨Nat.zero_le _, Nat.zero_le _⟩ ?_
  refine z_iconst h (v := (0 : Int32)) dX6_keepWay_5 ic_0 ?_
  refine z_istore_n h dX6_keepWay_6 rfl (lv' := [(2, .int (0 : Int32)), (0, .ref (G.1 1067)), (1, .int x1)]) rfl rfl ?_
  refine z_iconst h (v := (0 : Int32)) dX6_keepWay_7 ic_0 ?_
  refine z_istore_n h dX6_keepWay_8 rfl (lv' := [(3, .int (0 : Int32)), (2, .int (0 : Int32)), (0, .ref (G.1 1067)), (1, .int x1)]) rfl rfl ?_
  exact z_sub [2, 1, 0] rfl (k_X6_keepWay_h9 h hq N _ _ _ _ hf)
theorem dX6_layMechanisms_0 : decode cX6_layMechanisms 0 = .ok (.iconst 0, 1) := by decide +kernel
theorem dX6_layMechanisms_1 : decode cX6_layMechanisms 1 = .ok (.istore_n 1, 1) := by decide +kernel
theorem dX6_layMechanisms_2 : decode cX6_layMechanisms 2 = .ok (.iload_n 1, 1) := by decide +kernel
theorem dX6_layMechanisms_3 : decode cX6_layMechanisms 3 = .ok (.sipush 4096, 3) := by decide +kernel
theorem dX6_layMechanisms_6 : decode cX6_layMechanisms 6 = .ok (.if_icmp .ge 16, 3) := by decide +kernel
theorem dX6_layMechanisms_9 : decode cX6_layMechanisms 9 = .ok (.aload_n 0, 1) := by decide +kernel
theorem dX6_layMechanisms_10 : decode cX6_layMechanisms 10 = .ok (.getfield 57, 3) := by decide +kernel
theorem dX6_layMechanisms_13 : decode cX6_layMechanisms 13 = .ok (.iload_n 1, 1) := by decide +kernel
theorem dX6_layMechanisms_14 : decode cX6_layMechanisms 14 = .ok (.iconst 0, 1) := by decide +kernel
theorem dX6_layMechanisms_15 : decode cX6_layMechanisms 15 = .ok (.bastore, 1) := by decide +kernel
theorem dX6_layMechanisms_16 : decode cX6_layMechanisms 16 = .ok (.iinc 1 1, 3) := by decide +kernel
theorem dX6_layMechanisms_19 : decode cX6_layMechanisms 19 = .ok (.goto (-17), 3) := by decide +kernel
theorem dX6_layMechanisms_22 : decode cX6_layMechanisms 22 = .ok (.aload_n 0, 1) := by decide +kernel
theorem dX6_layMechanisms_23 : decode cX6_layMechanisms 23 = .ok (.iconst 0, 1) := by decide +kernel
theorem dX6_layMechanisms_24 : decode cX6_layMechanisms 24 = .ok (.putfield 196, 3) := by decide +kernel
theorem dX6_layMechanisms_27 : decode cX6_layMechanisms 27 = .ok (.aload_n 0, 1) := by decide +kernel
theorem dX6_layMechanisms_28 : decode cX6_layMechanisms 28 = .ok (.getfield 165, 3) := by decide +kernel
theorem dX6_layMechanisms_31 : decode cX6_layMechanisms 31 = .ok (.ifCond .eq 14, 3) := by decide +kernel
theorem dX6_layMechanisms_34 : decode cX6_layMechanisms 34 = .ok (.aload_n 0, 1) := by decide +kernel
theorem dX6_layMechanisms_35 : decode cX6_layMechanisms 35 = .ok (.getfield 183, 3) := by decide +kernel
theorem dX6_layMechanisms_38 : decode cX6_layMechanisms 38 = .ok (.aload_n 0, 1) := by decide +kernel
theorem dX6_layMechanisms_39 : decode cX6_layMechanisms 39 = .ok (.getfield 165, 3) := by decide +kernel
theorem dX6_layMechanisms_42 : decode cX6_layMechanisms 42 = .ok (.if_icmp .ge 4, 3) := by decide +kernel
theorem dX6_layMechanisms_45 : decode cX6_layMechanisms 45 = .ok (.return_, 1) := by decide +kernel
theorem dX6_layMechanisms_46 : decode cX6_layMechanisms 46 = .ok (.aload_n 0, 1) := by decide +kernel
theorem dX6_layMechanisms_47 : decode cX6_layMechanisms 47 = .ok (.getfield 165, 3) := by decide +kernel
theorem dX6_layMechanisms_50 : decode cX6_layMechanisms 50 = .ok (.iconst 1, 1) := by decide +kernel
theorem dX6_layMechanisms_51 : decode cX6_layMechanisms 51 = .ok (.isub, 1) := by decide +kernel
theorem dX6_layMechanisms_52 : decode cX6_layMechanisms 52 = .ok (.istore_n 1, 1) := by decide +kernel
theorem dX6_layMechanisms_53 : decode cX6_layMechanisms 53 = .ok (.iconst 0, 1) := by decide +kernel
theorem dX6_layMechanisms_54 : decode cX6_layMechanisms 54 = .ok (.istore_n 2, 1) := by decide +kernel
theorem dX6_layMechanisms_55 : decode cX6_layMechanisms 55 = .ok (.aload_n 0, 1) := by decide +kernel
theorem dX6_layMechanisms_56 : decode cX6_layMechanisms 56 = .ok (.getfield 61, 3) := by decide +kernel
theorem dX6_layMechanisms_59 : decode cX6_layMechanisms 59 = .ok (.iconst 0, 1) := by decide +kernel
theorem dX6_layMechanisms_60 : decode cX6_layMechanisms 60 = .ok (.iconst (-1), 1) := by decide +kernel
theorem dX6_layMechanisms_61 : decode cX6_layMechanisms 61 = .ok (.iastore, 1) := by decide +kernel
theorem dX6_layMechanisms_62 : decode cX6_layMechanisms 62 = .ok (.iconst 0, 1) := by decide +kernel
theorem dX6_layMechanisms_63 : decode cX6_layMechanisms 63 = .ok (.istore_n 3, 1) := by decide +kernel
theorem dX6_layMechanisms_64 : decode cX6_layMechanisms 64 = .ok (.iload_n 3, 1) := by decide +kernel
theorem dX6_layMechanisms_65 : decode cX6_layMechanisms 65 = .ok (.sipush 20000, 3) := by decide +kernel
theorem dX6_layMechanisms_68 : decode cX6_layMechanisms 68 = .ok (.if_icmp .ge 97, 3) := by decide +kernel
theorem dX6_layMechanisms_71 : decode cX6_layMechanisms 71 = .ok (.iload_n 2, 1) := by decide +kernel
theorem dX6_layMechanisms_72 : decode cX6_layMechanisms 72 = .ok (.ifCond .lt 93, 3) := by decide +kernel
theorem dX6_layMechanisms_75 : decode cX6_layMechanisms 75 = .ok (.iload_n 2, 1) := by decide +kernel
theorem dX6_layMechanisms_76 : decode cX6_layMechanisms 76 = .ok (.iload_n 1, 1) := by decide +kernel
theorem dX6_layMechanisms_77 : decode cX6_layMechanisms 77 = .ok (.if_icmp .ne 14, 3) := by decide +kernel
theorem dX6_layMechanisms_80 : decode cX6_layMechanisms 80 = .ok (.aload_n 0, 1) := by decide +kernel
theorem dX6_layMechanisms_81 : decode cX6_layMechanisms 81 = .ok (.iload_n 1, 1) := by decide +kernel
theorem dX6_layMechanisms_82 : decode cX6_layMechanisms 82 = .ok (.invokevirtual 199, 3) := by decide +kernel
theorem dX6_layMechanisms_85 : decode cX6_layMechanisms 85 = .ok (.iinc 2 (-1), 3) := by decide +kernel
theorem dX6_layMechanisms_88 : decode cX6_layMechanisms 88 = .ok (.goto 71, 3) := by decide +kernel
theorem dX6_layMechanisms_91 : decode cX6_layMechanisms 91 = .ok (.aload_n 0, 1) := by decide +kernel
theorem dX6_layMechanisms_92 : decode cX6_layMechanisms 92 = .ok (.getfield 61, 3) := by decide +kernel
theorem dX6_layMechanisms_95 : decode cX6_layMechanisms 95 = .ok (.iload_n 2, 1) := by decide +kernel
theorem dX6_layMechanisms_96 : decode cX6_layMechanisms 96 = .ok (.iaload, 1) := by decide +kernel
theorem dX6_layMechanisms_97 : decode cX6_layMechanisms 97 = .ok (.iconst 1, 1) := by decide +kernel
theorem dX6_layMechanisms_98 : decode cX6_layMechanisms 98 = .ok (.iadd, 1) := by decide +kernel
theorem dX6_layMechanisms_99 : decode cX6_layMechanisms 99 = .ok (.iconst 2, 1) := by decide +kernel
theorem dX6_layMechanisms_100 : decode cX6_layMechanisms 100 = .ok (.aload_n 0, 1) := by decide +kernel
theorem dX6_layMechanisms_101 : decode cX6_layMechanisms 101 = .ok (.getfield 141, 3) := by decide +kernel
theorem dX6_layMechanisms_104 : decode cX6_layMechanisms 104 = .ok (.imul, 1) := by decide +kernel
theorem dX6_layMechanisms_105 : decode cX6_layMechanisms 105 = .ok (.iload_n 1, 1) := by decide +kernel
theorem dX6_layMechanisms_106 : decode cX6_layMechanisms 106 = .ok (.isub, 1) := by decide +kernel
theorem dX6_layMechanisms_107 : decode cX6_layMechanisms 107 = .ok (.iload_n 2, 1) := by decide +kernel
theorem dX6_layMechanisms_108 : decode cX6_layMechanisms 108 = .ok (.iadd, 1) := by decide +kernel
theorem dX6_layMechanisms_109 : decode cX6_layMechanisms 109 = .ok (.if_icmp .le 9, 3) := by decide +kernel
theorem dX6_layMechanisms_112 : decode cX6_layMechanisms 112 = .ok (.iinc 2 (-1), 3) := by decide +kernel
theorem dX6_layMechanisms_115 : decode cX6_layMechanisms 115 = .ok (.goto 44, 3) := by decide +kernel
theorem dX6_layMechanisms_118 : decode cX6_layMechanisms 118 = .ok (.aload_n 0, 1) := by decide +kernel
theorem dX6_layMechanisms_119 : decode cX6_layMechanisms 119 = .ok (.getfield 61, 3) := by decide +kernel
theorem dX6_layMechanisms_122 : decode cX6_layMechanisms 122 = .ok (.iload_n 2, 1) := by decide +kernel
theorem dX6_layMechanisms_123 : decode cX6_layMechanisms 123 = .ok (.dup2, 1) := by decide +kernel
theorem dX6_layMechanisms_124 : decode cX6_layMechanisms 124 = .ok (.iaload, 1) := by decide +kernel
theorem dX6_layMechanisms_125 : decode cX6_layMechanisms 125 = .ok (.iconst 1, 1) := by decide +kernel
theorem dX6_layMechanisms_126 : decode cX6_layMechanisms 126 = .ok (.iadd, 1) := by decide +kernel
theorem dX6_layMechanisms_127 : decode cX6_layMechanisms 127 = .ok (.iastore, 1) := by decide +kernel
theorem dX6_layMechanisms_128 : decode cX6_layMechanisms 128 = .ok (.aload_n 0, 1) := by decide +kernel
theorem dX6_layMechanisms_129 : decode cX6_layMechanisms 129 = .ok (.aload_n 0, 1) := by decide +kernel
theorem dX6_layMechanisms_130 : decode cX6_layMechanisms 130 = .ok (.getfield 61, 3) := by decide +kernel
theorem dX6_layMechanisms_133 : decode cX6_layMechanisms 133 = .ok (.iload_n 2, 1) := by decide +kernel
theorem dX6_layMechanisms_134 : decode cX6_layMechanisms 134 = .ok (.iaload, 1) := by decide +kernel
theorem dX6_layMechanisms_135 : decode cX6_layMechanisms 135 = .ok (.iload_n 2, 1) := by decide +kernel
theorem dX6_layMechanisms_136 : decode cX6_layMechanisms 136 = .ok (.invokevirtual 186, 3) := by decide +kernel
theorem dX6_layMechanisms_139 : decode cX6_layMechanisms 139 = .ok (.ifCond .eq 20, 3) := by decide +kernel
theorem dX6_layMechanisms_142 : decode cX6_layMechanisms 142 = .ok (.iinc 2 1, 3) := by decide +kernel
theorem dX6_layMechanisms_145 : decode cX6_layMechanisms 145 = .ok (.aload_n 0, 1) := by decide +kernel
theorem dX6_layMechanisms_146 : decode cX6_layMechanisms 146 = .ok (.getfield 61, 3) := by decide +kernel
theorem dX6_layMechanisms_149 : decode cX6_layMechanisms 149 = .ok (.iload_n 2, 1) := by decide +kernel
theorem dX6_layMechanisms_150 : decode cX6_layMechanisms 150 = .ok (.aload_n 0, 1) := by decide +kernel
theorem dX6_layMechanisms_151 : decode cX6_layMechanisms 151 = .ok (.getfield 61, 3) := by decide +kernel
theorem dX6_layMechanisms_154 : decode cX6_layMechanisms 154 = .ok (.iload_n 2, 1) := by decide +kernel
theorem dX6_layMechanisms_155 : decode cX6_layMechanisms 155 = .ok (.iconst 1, 1) := by decide +kernel
theorem dX6_layMechanisms_156 : decode cX6_layMechanisms 156 = .ok (.isub, 1) := by decide +kernel
theorem dX6_layMechanisms_157 : decode cX6_layMechanisms 157 = .ok (.iaload, 1) := by decide +kernel
theorem dX6_layMechanisms_158 : decode cX6_layMechanisms 158 = .ok (.iastore, 1) := by decide +kernel
theorem dX6_layMechanisms_159 : decode cX6_layMechanisms 159 = .ok (.iinc 3 1, 3) := by decide +kernel
theorem dX6_layMechanisms_162 : decode cX6_layMechanisms 162 = .ok (.goto (-98), 3) := by decide +kernel
theorem dX6_layMechanisms_165 : decode cX6_layMechanisms 165 = .ok (.return_, 1) := by decide +kernel
abbrev rm_X6_layMechanisms : Room := { frames := 3, cells := 0, slots := 0, locals := 108 }
noncomputable def f_X6_layMechanisms_b159 (N : Nat) (kb64 : Int32 → Int32 → ZS → Option (Unit × ZS)) (x1 : Int32) (x2 : Int32) (x3 : Int32) (σ : ZS) : Option (Unit × ZS) := bd (x3 + (1 : Int32)) fun v21 => kb64 x2 v21 σ
noncomputable def f_X6_layMechanisms_h64 (N : Nat) (x1 : Int32) : Nat → Int32 → Int32 → ZS → Option (Unit × ZS)
  | 0, _, _, _ => none
  | n + 1, x2, x3, σ => (if (20000 : Int32) ≤ x3 then some ((), σ) else (if x2 < 0 then some ((), σ) else (if x2 = x1 then obd (f_X6_keepWay N x1 σ) fun _ σ29 => bd (x2 + (-1 : Int32)) fun v30 => f_X6_layMechanisms_b159 N (fun x2_ x3_ σ_ => f_X6_layMechanisms_h64 N x1 n x2_ x3_ σ_) x1 v30 x3 σ29 else ck (inb x2 13) ((if ((gI σ 1083 (x2.toNatClampNeg)) + (1 : Int32)) ≤ ((((2 : Int32) * (gI σ 1067 4)) - x1) + x2) then ck (inb x2 13) (bd ((gI σ 1083 (x2.toNatClampNeg)) + (1 : Int32)) fun v14 => ck (inb x2 13) (bd (sI σ 1083 (x2.toNatClampNeg) v14) fun σ16 => ck (inb x2 13) (obd (f_X6_isPut N (gI σ16 1083 (x2.toNatClampNeg)) x2 σ16) fun v18 σ19 => (if v18 = 0 then f_X6_layMechanisms_b159 N (fun x2_ x3_ σ_ => f_X6_layMechanisms_h64 N x1 n x2_ x3_ σ_) x1 x2 x3 σ19 else bd (x2 + (1 : Int32)) fun v22 => ck (inb (v22 - (1 : Int32)) 13) (bd (gI σ19 1083 ((v22 - (1 : Int32)).toNatClampNeg)) fun v24 => ck (inb v22 13) (bd (sI σ19 1083 (v22.toNatClampNeg) v24) fun σ26 => f_X6_layMechanisms_b159 N (fun x2_ x3_ σ_ => f_X6_layMechanisms_h64 N x1 n x2_ x3_ σ_) x1 v22 x3 σ26)))))) else bd (x2 + (-1 : Int32)) fun v27 => f_X6_layMechanisms_b159 N (fun x2_ x3_ σ_ => f_X6_layMechanisms_h64 N x1 n x2_ x3_ σ_) x1 v27 x3 σ)))))
noncomputable def f_X6_layMechanisms_h2 (N : Nat) : Nat → Int32 → ZS → Option (Unit × ZS)
  | 0, _, _ => none
  | n + 1, x1, σ => (if (4096 : Int32) ≤ x1 then bd (sI σ 1067 17 (0 : Int32)) fun σ2 => (if (gI σ2 1067 10) = 0 then some ((), σ2) else (if (gI σ2 1067 10) ≤ (gI σ2 1067 11) then bd ((gI σ2 1067 10) - (1 : Int32)) fun v5 => ck (inb (0 : Int32) 13) (bd (sI σ2 1083 ((0 : Int32).toNatClampNeg) (-1 : Int32)) fun σ7 => f_X6_layMechanisms_h64 N v5 N (0 : Int32) (0 : Int32) σ7) else some ((), σ2))) else ck (inb x1 4096) (bd (sI σ 1082 (x1.toNatClampNeg) (0 : Int32)) fun σ32 => bd (x1 + (1 : Int32)) fun v33 => f_X6_layMechanisms_h2 N n v33 σ32))
noncomputable def f_X6_layMechanisms (N : Nat) (σ : ZS) : Option (Unit × ZS) := f_X6_layMechanisms_h2 N N (0 : Int32) σ
set_option maxHeartbeats 4000000 in
set_option maxRecDepth 100000 in
theorem k_X6_layMechanisms_b159 {l : Launch} {Y : ZY} {G : ZG} {σ' : ZS} (h : zOk (l, rm_X6_layMechanisms, 4, 0, 0) Y G cX6_layMechanisms RX6 none) (hq : zRet (l, rm_X6_layMechanisms, 4, 0, 0) Y G none σ') (N : Nat) {kb64 : Int32 → Int32 → ZS → Option (Unit × ZS)} (x1 : Int32) (x2 : Int32) (x3 : Int32) (hb64 : ∀ (x2_ : Int32) (x3_ : Int32) (σ_ : ZS), kb64 x2_ x3_ σ_ = some ((), σ') → Z (l, rm_X6_layMechanisms, 4, 0, 0) Y G σ_ [(0, .ref (G.1 1067)), (1, .int x1), (2, .int x2_), (3, .int x3_)] [] 64) (σ : ZS) (hf : f_X6_layMechanisms_b159 N kb64 x1 x2 x3 σ = some ((), σ')) : Z (l, rm_X6_layMechanisms, 4, 0, 0) Y G σ [(0, .ref (G.1 1067)), (1, .int x1), (2, .int x2), (3, .int x3)] [] 159 := by
  rw [f_X6_layMechanisms_b159] at hf
  obtain ⟨v21, ev21, hf⟩ := bd_ex hf
  refine z_iinc h (v := v21) (lv' := [(3, .int v21), (0, .ref (G.1 1067)), (1, .int x1), (2, .int x2)]) dX6_layMechanisms_159 3 rfl (by rw [ev21]; rfl) rfl rfl ?_
  refine z_goto h (tgt := 64) dX6_layMechanisms_162 (by decide) ?_
  exact z_sub [1, 2, 3, 0] rfl (hb64 _ _ _ hf)
set_option maxHeartbeats 4000000 in
set_option maxRecDepth 100000 in
theorem k_X6_layMechanisms_h64 {l : Launch} {Y : ZY} {G : ZG} {σ' : ZS} (h : zOk (l, rm_X6_layMechanisms, 4, 0, 0) Y G cX6_layMechanisms RX6 none) (hq : zRet (l, rm_X6_layMechanisms, 4, 0, 0) Y G none σ') (N : Nat) (x1 : Int32) : ∀ (n : Nat) (x2 : Int32) (x3 : Int32) (σ : ZS), f_X6_layMechanisms_h64 N x1 n x2 x3 σ = some ((), σ') → Z (l, rm_X6_layMechanisms, 4, 0, 0) Y G σ [(0, .ref (G.1 1067)), (1, .int x1), (2, .int x2), (3, .int x3)] [] 64 := by
  intro n
  induction n with
  | zero =>
    intro x2 x3 σ hf
    rw [f_X6_layMechanisms_h64] at hf
    cases hf
  | succ n ih =>
    intro x2 x3 σ hf
    rw [f_X6_layMechanisms_h64] at hf
    refine z_iload_n h dX6_layMechanisms_64 rfl 3 rfl ?_
    refine z_sipush h (v := (20000 : Int32)) dX6_layMechanisms_65 sp_20000 ?_
    refine z_icmp_ge h (tgt := 165) dX6_layMechanisms_68 (by decide) (fun g8 => ?_) (fun g8 => ?_)
    · have hf := it_pos g8 hf
      exact z_vret h (rt_V hf hq) dX6_layMechanisms_165
    · have hf := it_neg g8 hf
      refine z_iload_n h dX6_layMechanisms_71 rfl 2 rfl ?_
      refine z_if_lt h (tgt := 165) dX6_layMechanisms_72 (by decide) (fun g9 => ?_) (fun g9 => ?_)
      · have hf := it_pos g9 hf
        exact z_vret h (rt_V hf hq) dX6_layMechanisms_165
      · have hf := it_neg g9 hf
        refine z_iload_n h dX6_layMechanisms_75 rfl 2 rfl ?_
        refine z_iload_n h dX6_layMechanisms_76 rfl 1 rfl ?_
        refine z_icmp_ne h (tgt := 91) dX6_layMechanisms_77 (by decide) (fun g10 => ?_) (fun g10 => ?_)
        · have hf := it_neg g10 hf
          refine z_aload_n h dX6_layMechanisms_91 rfl 0 rfl ?_
          refine z_gfR h zC6 (d := 1083) (c := 1067) tg_1067 ln_1067 21 rfl ft_6_21 rf_1067_21 wd_105 dX6_layMechanisms_92 ?_
          refine z_iload_n h dX6_layMechanisms_95 rfl 2 rfl ?_
          obtain ⟨g11, hf⟩ := ck_out hf
          refine z_iald h (c := 1083) tg_1083 ln_1083 g11 dX6_layMechanisms_96 ?_
          refine z_iconst h (v := (1 : Int32)) dX6_layMechanisms_97 ic_1 ?_
          refine z_iadd h dX6_layMechanisms_98 ?_
          refine z_iconst h (v := (2 : Int32)) dX6_layMechanisms_99 ic_2 ?_
          refine z_aload_n h dX6_layMechanisms_100 rfl 0 rfl ?_
          refine z_gfI h zC6 (c := 1067) tg_1067 ln_1067 4 rfl ft_6_4 wd_200 dX6_layMechanisms_101 ?_
          refine z_imul h dX6_layMechanisms_104 ?_
          refine z_iload_n h dX6_layMechanisms_105 rfl 1 rfl ?_
          refine z_isub h dX6_layMechanisms_106 ?_
          refine z_iload_n h dX6_layMechanisms_107 rfl 2 rfl ?_
          refine z_iadd h dX6_layMechanisms_108 ?_
          refine z_icmp_le h (tgt := 118) dX6_layMechanisms_109 (by decide) (fun g12 => ?_) (fun g12 => ?_)
          · have hf := it_pos g12 hf
            refine z_aload_n h dX6_layMechanisms_118 rfl 0 rfl ?_
            refine z_gfR h zC6 (d := 1083) (c := 1067) tg_1067 ln_1067 21 rfl ft_6_21 rf_1067_21 wd_105 dX6_layMechanisms_119 ?_
            refine z_iload_n h dX6_layMechanisms_122 rfl 2 rfl ?_
            refine z_dup2_11 h dX6_layMechanisms_123 rfl rfl ?_
            obtain ⟨g13, hf⟩ := ck_out hf
            refine z_iald h (c := 1083) tg_1083 ln_1083 g13 dX6_layMechanisms_124 ?_
            refine z_iconst h (v := (1 : Int32)) dX6_layMechanisms_125 ic_1 ?_
            refine z_iadd h dX6_layMechanisms_126 ?_
            refine z_topI (fun v14 ev14 => ?_)
            have hf := bd_to ev14 hf
            obtain ⟨g15, hf⟩ := ck_out hf
            refine z_iast h (c := 1083) tg_1083 ln_1083 g15 dX6_layMechanisms_127 ?_
            refine z_gen (fun σ16 eσ16 => ?_)
            have hf := bd_to eσ16 hf
            refine z_aload_n h dX6_layMechanisms_128 rfl 0 rfl ?_
            refine z_aload_n h dX6_layMechanisms_129 rfl 0 rfl ?_
            refine z_gfR h zC6 (d := 1083) (c := 1067) tg_1067 ln_1067 21 rfl ft_6_21 rf_1067_21 wd_105 dX6_layMechanisms_130 ?_
            refine z_iload_n h dX6_layMechanisms_133 rfl 2 rfl ?_
            obtain ⟨g17, hf⟩ := ck_out hf
            refine z_iald h (c := 1083) tg_1083 ln_1083 g17 dX6_layMechanisms_134 ?_
            refine z_iload_n h dX6_layMechanisms_135 rfl 2 rfl ?_
            obtain ⟨v18, σ19, e19, hf⟩ := obd_out hf
            refine z_cVv h (n := 2) (c_X6_isPut l G e19) zC6 tg_1067 ln_1067 rfl rfl wd_455 wd_456 wd_457 wd_5 wd_458 (by decide +kernel) ⟨rfl, rfl⟩ rfl rfl rfl dX6_layMechanisms_136 ⟨Nat.zero_le _, Nat.zero_le _⟩ ?_
            refine z_if_eq h (tgt := 159) dX6_layMechanisms_139 (by decide) (fun g20 => ?_) (fun g20 => ?_)
            · have hf := it_pos g20 hf
              exact z_sub [0, 1, 2, 3] rfl (k_X6_layMechanisms_b159 h hq N x1 x2 x3 (fun x2_ x3_ σ_ hf_ => ih x2_ x3_ σ_ hf_) _ hf)
            · have hf := it_neg g20 hf
              obtain ⟨v22, ev22, hf⟩ := bd_ex hf
              refine z_iinc h (v := v22) (lv' := [(2, .int v22), (0, .ref (G.1 1067)), (1, .int x1), (3, .int x3)]) dX6_layMechanisms_142 2 rfl (by rw [ev22]; rfl) rfl rfl ?_
              refine z_aload_n h dX6_layMechanisms_145 rfl 1 rfl ?_
              refine z_gfR h zC6 (d := 1083) (c := 1067) tg_1067 ln_1067 21 rfl ft_6_21 rf_1067_21 wd_105 dX6_layMechanisms_146 ?_
              refine z_iload_n h dX6_layMechanisms_149 rfl 0 rfl ?_
              refine z_aload_n h dX6_layMechanisms_150 rfl 1 rfl ?_
              refine z_gfR h zC6 (d := 1083) (c := 1067) tg_1067 ln_1067 21 rfl ft_6_21 rf_1067_21 wd_105 dX6_layMechanisms_151 ?_
              refine z_iload_n h dX6_layMechanisms_154 rfl 0 rfl ?_
              refine z_iconst h (v := (1 : Int32)) dX6_layMechanisms_155 ic_1 ?_
              refine z_isub h dX6_layMechanisms_156 ?_
              obtain ⟨g23, hf⟩ := ck_out hf
              refine z_iald h (c := 1083) tg_1083 ln_1083 g23 dX6_layMechanisms_157 ?_
              refine z_topI (fun v24 ev24 => ?_)
              have hf := bd_to ev24 hf
              obtain ⟨g25, hf⟩ := ck_out hf
              refine z_iast h (c := 1083) tg_1083 ln_1083 g25 dX6_layMechanisms_158 ?_
              refine z_gen (fun σ26 eσ26 => ?_)
              have hf := bd_to eσ26 hf
              exact z_sub [1, 2, 0, 3] rfl (k_X6_layMechanisms_b159 h hq N x1 v22 x3 (fun x2_ x3_ σ_ hf_ => ih x2_ x3_ σ_ hf_) _ hf)
          · have hf := it_neg g12 hf
            obtain ⟨v27, ev27, hf⟩ := bd_ex hf
            refine z_iinc h (v := v27) (lv' := [(2, .int v27), (0, .ref (G.1 1067)), (1, .int x1), (3, .int x3)]) dX6_layMechanisms_112 2 rfl (by rw [ev27]; rfl) rfl rfl ?_
            refine z_goto h (tgt := 159) dX6_layMechanisms_115 (by decide) ?_
            exact z_sub [1, 2, 0, 3] rfl (k_X6_layMechanisms_b159 h hq N x1 v27 x3 (fun x2_ x3_ σ_ hf_ => ih x2_ x3_ σ_ hf_) _ hf)
        · have hf := it_pos g10 hf
          refine z_aload_n h dX6_layMechanisms_80 rfl 0 rfl ?_
          refine z_iload_n h dX6_layMechanisms_81 rfl 1 rfl ?_
          obtain ⟨v28, σ29, e29, hf⟩ := obd_out hf
          refine z_cV0 h (n := 1) (c_X6_keepWay l G e29) zC6 tg_1067 ln_1067 rfl rfl wd_470 wd_471 wd_472 wd_5 wd_473 (by decide +kernel) ⟨rfl, rfl⟩ rfl rfl rfl dX6_layMechanisms_82 ⟨Nat.zero_le _, Nat.zero_le _⟩ ?_
          obtain ⟨v30, ev30, hf⟩ := bd_ex hf
          refine z_iinc h (v := v30) (lv' := [(2, .int v30), (0, .ref (G.1 1067)), (1, .int x1), (3, .int x3)]) dX6_layMechanisms_85 2 rfl (by rw [ev30]; rfl) rfl rfl ?_
          refine z_goto h (tgt := 159) dX6_layMechanisms_88 (by decide) ?_
          exact z_sub [1, 2, 0, 3] rfl (k_X6_layMechanisms_b159 h hq N x1 v30 x3 (fun x2_ x3_ σ_ hf_ => ih x2_ x3_ σ_ hf_) _ hf)
set_option maxHeartbeats 4000000 in
set_option maxRecDepth 100000 in
theorem k_X6_layMechanisms_h2 {l : Launch} {Y : ZY} {G : ZG} {σ' : ZS} (h : zOk (l, rm_X6_layMechanisms, 4, 0, 0) Y G cX6_layMechanisms RX6 none) (hq : zRet (l, rm_X6_layMechanisms, 4, 0, 0) Y G none σ') (N : Nat) : ∀ (n : Nat) (x1 : Int32) (σ : ZS), f_X6_layMechanisms_h2 N n x1 σ = some ((), σ') → Z (l, rm_X6_layMechanisms, 4, 0, 0) Y G σ [(0, .ref (G.1 1067)), (1, .int x1)] [] 2 := by
  intro n
  induction n with
  | zero =>
    intro x1 σ hf
    rw [f_X6_layMechanisms_h2] at hf
    cases hf
  | succ n ih =>
    intro x1 σ hf
    rw [f_X6_layMechanisms_h2] at hf
    refine z_iload_n h dX6_layMechanisms_2 rfl 1 rfl ?_
    refine z_sipush h (v := (4096 : Int32)) dX6_layMechanisms_3 sp_4096 ?_
    refine z_icmp_ge h (tgt := 22) dX6_layMechanisms_6 (by decide) (fun g1 => ?_) (fun g1 => ?_)
    · have hf := it_pos g1 hf
      refine z_aload_n h dX6_layMechanisms_22 rfl 0 rfl ?_
      refine z_iconst h (v := (0 : Int32)) dX6_layMechanisms_23 ic_0 ?_
      refine z_pfI h zC6 (c := 1067) tg_1067 ln_1067 17 rfl ft_6_17 wd_425 rfl (ty := .int) (by decide +kernel) rfl rfl dX6_layMechanisms_24 ?_
      refine z_gen (fun σ2 eσ2 => ?_)
      have hf := bd_to eσ2 hf
      refine z_aload_n h dX6_layMechanisms_27 rfl 0 rfl ?_
      refine z_gfI h zC6 (c := 1067) tg_1067 ln_1067 10 rfl ft_6_10 wd_424 dX6_layMechanisms_28 ?_
      refine z_if_eq h (tgt := 45) dX6_layMechanisms_31 (by decide) (fun g3 => ?_) (fun g3 => ?_)
      · have hf := it_pos g3 hf
        exact z_vret h (rt_V hf hq) dX6_layMechanisms_45
      · have hf := it_neg g3 hf
        refine z_aload_n h dX6_layMechanisms_34 rfl 0 rfl ?_
        refine z_gfI h zC6 (c := 1067) tg_1067 ln_1067 11 rfl ft_6_11 wd_430 dX6_layMechanisms_35 ?_
        refine z_aload_n h dX6_layMechanisms_38 rfl 0 rfl ?_
        refine z_gfI h zC6 (c := 1067) tg_1067 ln_1067 10 rfl ft_6_10 wd_424 dX6_layMechanisms_39 ?_
        refine z_icmp_ge h (tgt := 46) dX6_layMechanisms_42 (by decide) (fun g4 => ?_) (fun g4 => ?_)
        · have hf := it_pos g4 hf
          refine z_aload_n h dX6_layMechanisms_46 rfl 0 rfl ?_
          refine z_gfI h zC6 (c := 1067) tg_1067 ln_1067 10 rfl ft_6_10 wd_424 dX6_layMechanisms_47 ?_
          refine z_iconst h (v := (1 : Int32)) dX6_layMechanisms_50 ic_1 ?_
          refine z_isub h dX6_layMechanisms_51 ?_
          refine z_topI (fun v5 ev5 => ?_)
          have hf := bd_to ev5 hf
          refine z_istore_n h dX6_layMechanisms_52 rfl (lv' := [(1, .int v5), (0, .ref (G.1 1067))]) rfl rfl ?_
          refine z_iconst h (v := (0 : Int32)) dX6_layMechanisms_53 ic_0 ?_
          refine z_istore_n h dX6_layMechanisms_54 rfl (lv' := [(2, .int (0 : Int32)), (1, .int v5), (0, .ref (G.1 1067))]) rfl rfl ?_
          refine z_aload_n h dX6_layMechanisms_55 rfl 2 rfl ?_
          refine z_gfR h zC6 (d := 1083) (c := 1067) tg_1067 ln_1067 21 rfl ft_6_21 rf_1067_21 wd_105 dX6_layMechanisms_56 ?_
          refine z_iconst h (v := (0 : Int32)) dX6_layMechanisms_59 ic_0 ?_
          refine z_iconst h (v := (-1 : Int32)) dX6_layMechanisms_60 ic_m1 ?_
          obtain ⟨g6, hf⟩ := ck_out hf
          refine z_iast h (c := 1083) tg_1083 ln_1083 g6 dX6_layMechanisms_61 ?_
          refine z_gen (fun σ7 eσ7 => ?_)
          have hf := bd_to eσ7 hf
          refine z_iconst h (v := (0 : Int32)) dX6_layMechanisms_62 ic_0 ?_
          refine z_istore_n h dX6_layMechanisms_63 rfl (lv' := [(3, .int (0 : Int32)), (2, .int (0 : Int32)), (1, .int v5), (0, .ref (G.1 1067))]) rfl rfl ?_
          exact z_sub [3, 2, 1, 0] rfl (k_X6_layMechanisms_h64 h hq N v5 _ _ _ _ hf)
        · have hf := it_neg g4 hf
          exact z_vret h (rt_V hf hq) dX6_layMechanisms_45
    · have hf := it_neg g1 hf
      refine z_aload_n h dX6_layMechanisms_9 rfl 0 rfl ?_
      refine z_gfR h zC6 (d := 1082) (c := 1067) tg_1067 ln_1067 20 rfl ft_6_20 rf_1067_20 wd_104 dX6_layMechanisms_10 ?_
      refine z_iload_n h dX6_layMechanisms_13 rfl 1 rfl ?_
      refine z_iconst h (v := (0 : Int32)) dX6_layMechanisms_14 ic_0 ?_
      obtain ⟨g31, hf⟩ := ck_out hf
      refine z_zast h (c := 1082) tg_1082 ln_1082 g31 rfl dX6_layMechanisms_15 ?_
      refine z_gen (fun σ32 eσ32 => ?_)
      have hf := bd_to eσ32 hf
      obtain ⟨v33, ev33, hf⟩ := bd_ex hf
      refine z_iinc h (v := v33) (lv' := [(1, .int v33), (0, .ref (G.1 1067))]) dX6_layMechanisms_16 1 rfl (by rw [ev33]; rfl) rfl rfl ?_
      refine z_goto h (tgt := 2) dX6_layMechanisms_19 (by decide) ?_
      exact z_sub [1, 0] rfl (ih _ _ hf)
set_option maxHeartbeats 4000000 in
set_option maxRecDepth 100000 in
theorem c_X6_layMechanisms (l : Launch) (G : ZG) {N : Nat} {σ σ' : ZS} {r : Unit} (hf : f_X6_layMechanisms N σ = some (r, σ')) : zMet l G yX6_layMechanisms cX6_layMechanisms 4 none rm_X6_layMechanisms [.ref (G.1 1067)] σ none σ' := by
  refine z_met (by decide +kernel) rfl (fun Y h hq => ?_)
  have h : zOk (l, rm_X6_layMechanisms, 4, 0, 0) Y G cX6_layMechanisms RX6 none := h
  rw [f_X6_layMechanisms] at hf
  refine z_sub (lv' := [(0, .ref (G.1 1067))]) [0] rfl ?_
  refine z_iconst h (v := (0 : Int32)) dX6_layMechanisms_0 ic_0 ?_
  refine z_istore_n h dX6_layMechanisms_1 rfl (lv' := [(1, .int (0 : Int32)), (0, .ref (G.1 1067))]) rfl rfl ?_
  exact z_sub [1, 0] rfl (k_X6_layMechanisms_h2 h hq N _ _ _ hf)
theorem dX6_isLoose_0 : decode cX6_isLoose 0 = .ok (.aload_n 0, 1) := by decide +kernel
theorem dX6_isLoose_1 : decode cX6_isLoose 1 = .ok (.getfield 31, 3) := by decide +kernel
theorem dX6_isLoose_4 : decode cX6_isLoose 4 = .ok (.ifCond .eq 24, 3) := by decide +kernel
theorem dX6_isLoose_7 : decode cX6_isLoose 7 = .ok (.aload_n 0, 1) := by decide +kernel
theorem dX6_isLoose_8 : decode cX6_isLoose 8 = .ok (.iconst 0, 1) := by decide +kernel
theorem dX6_isLoose_9 : decode cX6_isLoose 9 = .ok (.putfield 31, 3) := by decide +kernel
theorem dX6_isLoose_12 : decode cX6_isLoose 12 = .ok (.aload_n 0, 1) := by decide +kernel
theorem dX6_isLoose_13 : decode cX6_isLoose 13 = .ok (.invokevirtual 202, 3) := by decide +kernel
theorem dX6_isLoose_16 : decode cX6_isLoose 16 = .ok (.aload_n 0, 1) := by decide +kernel
theorem dX6_isLoose_17 : decode cX6_isLoose 17 = .ok (.invokevirtual 205, 3) := by decide +kernel
theorem dX6_isLoose_20 : decode cX6_isLoose 20 = .ok (.aload_n 0, 1) := by decide +kernel
theorem dX6_isLoose_21 : decode cX6_isLoose 21 = .ok (.invokevirtual 208, 3) := by decide +kernel
theorem dX6_isLoose_24 : decode cX6_isLoose 24 = .ok (.aload_n 0, 1) := by decide +kernel
theorem dX6_isLoose_25 : decode cX6_isLoose 25 = .ok (.invokevirtual 211, 3) := by decide +kernel
theorem dX6_isLoose_28 : decode cX6_isLoose 28 = .ok (.aload_n 0, 1) := by decide +kernel
theorem dX6_isLoose_29 : decode cX6_isLoose 29 = .ok (.getfield 183, 3) := by decide +kernel
theorem dX6_isLoose_32 : decode cX6_isLoose 32 = .ok (.aload_n 0, 1) := by decide +kernel
theorem dX6_isLoose_33 : decode cX6_isLoose 33 = .ok (.getfield 165, 3) := by decide +kernel
theorem dX6_isLoose_36 : decode cX6_isLoose 36 = .ok (.if_icmp .ge 7, 3) := by decide +kernel
theorem dX6_isLoose_39 : decode cX6_isLoose 39 = .ok (.iconst 1, 1) := by decide +kernel
theorem dX6_isLoose_40 : decode cX6_isLoose 40 = .ok (.goto 4, 3) := by decide +kernel
theorem dX6_isLoose_43 : decode cX6_isLoose 43 = .ok (.iconst 0, 1) := by decide +kernel
theorem dX6_isLoose_44 : decode cX6_isLoose 44 = .ok (.ireturn, 1) := by decide +kernel
abbrev rm_X6_isLoose : Room := { frames := 4, cells := 0, slots := 0, locals := 139 }
noncomputable def f_X6_isLoose_b28 (N : Nat) (σ : ZS) : Option (Int32 × ZS) := (if (gI σ 1067 10) ≤ (gI σ 1067 11) then some ((0 : Int32), σ) else some ((1 : Int32), σ))
noncomputable def f_X6_isLoose (N : Nat) (σ : ZS) : Option (Int32 × ZS) := (if (gI σ 1067 9) = 0 then f_X6_isLoose_b28 N σ else bd (sI σ 1067 9 (0 : Int32)) fun σ3 => obd (f_X6_layNumbers N σ3) fun _ σ5 => obd (f_X6_layRows N σ5) fun _ σ7 => obd (f_X6_layRank N σ7) fun _ σ9 => obd (f_X6_layMechanisms N σ9) fun _ σ11 => f_X6_isLoose_b28 N σ11)
set_option maxHeartbeats 4000000 in
set_option maxRecDepth 100000 in
theorem k_X6_isLoose_b28 {l : Launch} {Y : ZY} {G : ZG} {r : Int32} {σ' : ZS} (h : zOk (l, rm_X6_isLoose, 1, 0, 0) Y G cX6_isLoose RX6 (some .boolean)) (hq : zRet (l, rm_X6_isLoose, 1, 0, 0) Y G (some (.int r)) σ') (N : Nat) (σ : ZS) (hf : f_X6_isLoose_b28 N σ = some (r, σ')) : Z (l, rm_X6_isLoose, 1, 0, 0) Y G σ [(0, .ref (G.1 1067))] [] 28 := by
  rw [f_X6_isLoose_b28] at hf
  refine z_aload_n h dX6_isLoose_28 rfl 0 rfl ?_
  refine z_gfI h zC6 (c := 1067) tg_1067 ln_1067 11 rfl ft_6_11 wd_430 dX6_isLoose_29 ?_
  refine z_aload_n h dX6_isLoose_32 rfl 0 rfl ?_
  refine z_gfI h zC6 (c := 1067) tg_1067 ln_1067 10 rfl ft_6_10 wd_424 dX6_isLoose_33 ?_
  refine z_icmp_ge h (tgt := 43) dX6_isLoose_36 (by decide) (fun g2 => ?_) (fun g2 => ?_)
  · have hf := it_pos g2 hf
    refine z_iconst h (v := (0 : Int32)) dX6_isLoose_43 ic_0 ?_
    exact z_zret h rfl (rt_I hf hq) dX6_isLoose_44
  · have hf := it_neg g2 hf
    refine z_iconst h (v := (1 : Int32)) dX6_isLoose_39 ic_1 ?_
    refine z_goto h (tgt := 44) dX6_isLoose_40 (by decide) ?_
    exact z_zret h rfl (rt_I hf hq) dX6_isLoose_44
set_option maxHeartbeats 4000000 in
set_option maxRecDepth 100000 in
theorem c_X6_isLoose (l : Launch) (G : ZG) {N : Nat} {σ σ' : ZS} {r : Int32} (hf : f_X6_isLoose N σ = some (r, σ')) : zMet l G yX6_isLoose cX6_isLoose 1 (some .boolean) rm_X6_isLoose [.ref (G.1 1067)] σ (some (.int r)) σ' := by
  refine z_met (by decide +kernel) rfl (fun Y h hq => ?_)
  have h : zOk (l, rm_X6_isLoose, 1, 0, 0) Y G cX6_isLoose RX6 (some .boolean) := h
  rw [f_X6_isLoose] at hf
  refine z_sub (lv' := [(0, .ref (G.1 1067))]) [0] rfl ?_
  refine z_aload_n h dX6_isLoose_0 rfl 0 rfl ?_
  refine z_gfI h zC6 (c := 1067) tg_1067 ln_1067 9 rfl ft_6_9 wd_95 dX6_isLoose_1 ?_
  refine z_if_eq h (tgt := 28) dX6_isLoose_4 (by decide) (fun g1 => ?_) (fun g1 => ?_)
  · have hf := it_pos g1 hf
    exact z_sub [0] rfl (k_X6_isLoose_b28 h hq N _ hf)
  · have hf := it_neg g1 hf
    refine z_aload_n h dX6_isLoose_7 rfl 0 rfl ?_
    refine z_iconst h (v := (0 : Int32)) dX6_isLoose_8 ic_0 ?_
    refine z_pfI h zC6 (c := 1067) tg_1067 ln_1067 9 rfl ft_6_9 wd_95 rfl (ty := .boolean) (by decide +kernel) rfl rfl dX6_isLoose_9 ?_
    refine z_gen (fun σ3 eσ3 => ?_)
    have hf := bd_to eσ3 hf
    refine z_aload_n h dX6_isLoose_12 rfl 0 rfl ?_
    obtain ⟨v4, σ5, e5, hf⟩ := obd_out hf
    refine z_cV0 h (n := 0) (c_X6_layNumbers l G e5) zC6 tg_1067 ln_1067 rfl rfl wd_431 wd_432 wd_433 wd_5 wd_434 (by decide +kernel) ⟨rfl, rfl⟩ rfl rfl rfl dX6_isLoose_13 ⟨Nat.zero_le _, Nat.zero_le _⟩ ?_
    refine z_aload_n h dX6_isLoose_16 rfl 0 rfl ?_
    obtain ⟨v6, σ7, e7, hf⟩ := obd_out hf
    refine z_cV0 h (n := 0) (c_X6_layRows l G e7) zC6 tg_1067 ln_1067 rfl rfl wd_443 wd_444 wd_445 wd_5 wd_446 (by decide +kernel) ⟨rfl, rfl⟩ rfl rfl rfl dX6_isLoose_17 ⟨Nat.zero_le _, Nat.zero_le _⟩ ?_
    refine z_aload_n h dX6_isLoose_20 rfl 0 rfl ?_
    obtain ⟨v8, σ9, e9, hf⟩ := obd_out hf
    refine z_cV0 h (n := 0) (c_X6_layRank l G e9) zC6 tg_1067 ln_1067 rfl rfl wd_451 wd_452 wd_453 wd_5 wd_454 (by decide +kernel) ⟨rfl, rfl⟩ rfl rfl rfl dX6_isLoose_21 ⟨Nat.zero_le _, Nat.zero_le _⟩ ?_
    refine z_aload_n h dX6_isLoose_24 rfl 0 rfl ?_
    obtain ⟨v10, σ11, e11, hf⟩ := obd_out hf
    refine z_cV0 h (n := 0) (c_X6_layMechanisms l G e11) zC6 tg_1067 ln_1067 rfl rfl wd_466 wd_467 wd_468 wd_5 wd_469 (by decide +kernel) ⟨rfl, rfl⟩ rfl rfl rfl dX6_isLoose_25 ⟨Nat.zero_le _, Nat.zero_le _⟩ ?_
    exact z_sub [0] rfl (k_X6_isLoose_b28 h hq N _ hf)
