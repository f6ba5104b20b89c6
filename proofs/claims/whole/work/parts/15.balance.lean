theorem dX0_weigh_0 : decode cX0_weigh 0 = .ok (.aload_n 0, 1) := by decide +kernel
theorem dX0_weigh_1 : decode cX0_weigh 1 = .ok (.aload_n 1, 1) := by decide +kernel
theorem dX0_weigh_2 : decode cX0_weigh 2 = .ok (.getfield 47, 3) := by decide +kernel
theorem dX0_weigh_5 : decode cX0_weigh 5 = .ok (.putfield 53, 3) := by decide +kernel
theorem dX0_weigh_8 : decode cX0_weigh 8 = .ok (.aload_n 1, 1) := by decide +kernel
theorem dX0_weigh_9 : decode cX0_weigh 9 = .ok (.getfield 54, 3) := by decide +kernel
theorem dX0_weigh_12 : decode cX0_weigh 12 = .ok (.iconst 0, 1) := by decide +kernel
theorem dX0_weigh_13 : decode cX0_weigh 13 = .ok (.aload_n 0, 1) := by decide +kernel
theorem dX0_weigh_14 : decode cX0_weigh 14 = .ok (.getfield 18, 3) := by decide +kernel
theorem dX0_weigh_17 : decode cX0_weigh 17 = .ok (.iconst 0, 1) := by decide +kernel
theorem dX0_weigh_18 : decode cX0_weigh 18 = .ok (.bipush 6, 2) := by decide +kernel
theorem dX0_weigh_20 : decode cX0_weigh 20 = .ok (.invokestatic 55, 3) := by decide +kernel
theorem dX0_weigh_23 : decode cX0_weigh 23 = .ok (.iconst 0, 1) := by decide +kernel
theorem dX0_weigh_24 : decode cX0_weigh 24 = .ok (.istore_n 2, 1) := by decide +kernel
theorem dX0_weigh_25 : decode cX0_weigh 25 = .ok (.iload_n 2, 1) := by decide +kernel
theorem dX0_weigh_26 : decode cX0_weigh 26 = .ok (.aload_n 0, 1) := by decide +kernel
theorem dX0_weigh_27 : decode cX0_weigh 27 = .ok (.getfield 12, 3) := by decide +kernel
theorem dX0_weigh_30 : decode cX0_weigh 30 = .ok (.getfield 61, 3) := by decide +kernel
theorem dX0_weigh_33 : decode cX0_weigh 33 = .ok (.if_icmp .ge 89, 3) := by decide +kernel
theorem dX0_weigh_36 : decode cX0_weigh 36 = .ok (.aload_n 0, 1) := by decide +kernel
theorem dX0_weigh_37 : decode cX0_weigh 37 = .ok (.getfield 27, 3) := by decide +kernel
theorem dX0_weigh_40 : decode cX0_weigh 40 = .ok (.iload_n 2, 1) := by decide +kernel
theorem dX0_weigh_41 : decode cX0_weigh 41 = .ok (.lconst 0, 1) := by decide +kernel
theorem dX0_weigh_42 : decode cX0_weigh 42 = .ok (.lastore, 1) := by decide +kernel
theorem dX0_weigh_43 : decode cX0_weigh 43 = .ok (.iconst 0, 1) := by decide +kernel
theorem dX0_weigh_44 : decode cX0_weigh 44 = .ok (.istore_n 3, 1) := by decide +kernel
theorem dX0_weigh_45 : decode cX0_weigh 45 = .ok (.iload_n 3, 1) := by decide +kernel
theorem dX0_weigh_46 : decode cX0_weigh 46 = .ok (.aload_n 0, 1) := by decide +kernel
theorem dX0_weigh_47 : decode cX0_weigh 47 = .ok (.getfield 53, 3) := by decide +kernel
theorem dX0_weigh_50 : decode cX0_weigh 50 = .ok (.if_icmp .ge 35, 3) := by decide +kernel
theorem dX0_weigh_53 : decode cX0_weigh 53 = .ok (.aload_n 0, 1) := by decide +kernel
theorem dX0_weigh_54 : decode cX0_weigh 54 = .ok (.getfield 27, 3) := by decide +kernel
theorem dX0_weigh_57 : decode cX0_weigh 57 = .ok (.iload_n 2, 1) := by decide +kernel
theorem dX0_weigh_58 : decode cX0_weigh 58 = .ok (.dup2, 1) := by decide +kernel
theorem dX0_weigh_59 : decode cX0_weigh 59 = .ok (.laload, 1) := by decide +kernel
theorem dX0_weigh_60 : decode cX0_weigh 60 = .ok (.aload_n 0, 1) := by decide +kernel
theorem dX0_weigh_61 : decode cX0_weigh 61 = .ok (.getfield 18, 3) := by decide +kernel
theorem dX0_weigh_64 : decode cX0_weigh 64 = .ok (.iload_n 3, 1) := by decide +kernel
theorem dX0_weigh_65 : decode cX0_weigh 65 = .ok (.iaload, 1) := by decide +kernel
theorem dX0_weigh_66 : decode cX0_weigh 66 = .ok (.i2l, 1) := by decide +kernel
theorem dX0_weigh_67 : decode cX0_weigh 67 = .ok (.aload_n 0, 1) := by decide +kernel
theorem dX0_weigh_68 : decode cX0_weigh 68 = .ok (.getfield 12, 3) := by decide +kernel
theorem dX0_weigh_71 : decode cX0_weigh 71 = .ok (.iload_n 2, 1) := by decide +kernel
theorem dX0_weigh_72 : decode cX0_weigh 72 = .ok (.iload_n 3, 1) := by decide +kernel
theorem dX0_weigh_73 : decode cX0_weigh 73 = .ok (.invokevirtual 64, 3) := by decide +kernel
theorem dX0_weigh_76 : decode cX0_weigh 76 = .ok (.lmul, 1) := by decide +kernel
theorem dX0_weigh_77 : decode cX0_weigh 77 = .ok (.ladd, 1) := by decide +kernel
theorem dX0_weigh_78 : decode cX0_weigh 78 = .ok (.lastore, 1) := by decide +kernel
theorem dX0_weigh_79 : decode cX0_weigh 79 = .ok (.iinc 3 1, 3) := by decide +kernel
theorem dX0_weigh_82 : decode cX0_weigh 82 = .ok (.goto (-37), 3) := by decide +kernel
theorem dX0_weigh_85 : decode cX0_weigh 85 = .ok (.iconst 0, 1) := by decide +kernel
theorem dX0_weigh_86 : decode cX0_weigh 86 = .ok (.istore_n 3, 1) := by decide +kernel
theorem dX0_weigh_87 : decode cX0_weigh 87 = .ok (.iload_n 3, 1) := by decide +kernel
theorem dX0_weigh_88 : decode cX0_weigh 88 = .ok (.iconst 3, 1) := by decide +kernel
theorem dX0_weigh_89 : decode cX0_weigh 89 = .ok (.if_icmp .ge 27, 3) := by decide +kernel
theorem dX0_weigh_92 : decode cX0_weigh 92 = .ok (.aload_n 0, 1) := by decide +kernel
theorem dX0_weigh_93 : decode cX0_weigh 93 = .ok (.getfield 24, 3) := by decide +kernel
theorem dX0_weigh_96 : decode cX0_weigh 96 = .ok (.iload_n 3, 1) := by decide +kernel
theorem dX0_weigh_97 : decode cX0_weigh 97 = .ok (.aaload, 1) := by decide +kernel
theorem dX0_weigh_98 : decode cX0_weigh 98 = .ok (.iload_n 2, 1) := by decide +kernel
theorem dX0_weigh_99 : decode cX0_weigh 99 = .ok (.aload_n 0, 1) := by decide +kernel
theorem dX0_weigh_100 : decode cX0_weigh 100 = .ok (.getfield 12, 3) := by decide +kernel
theorem dX0_weigh_103 : decode cX0_weigh 103 = .ok (.iload_n 2, 1) := by decide +kernel
theorem dX0_weigh_104 : decode cX0_weigh 104 = .ok (.aload_n 1, 1) := by decide +kernel
theorem dX0_weigh_105 : decode cX0_weigh 105 = .ok (.iload_n 3, 1) := by decide +kernel
theorem dX0_weigh_106 : decode cX0_weigh 106 = .ok (.invokevirtual 68, 3) := by decide +kernel
theorem dX0_weigh_109 : decode cX0_weigh 109 = .ok (.lastore, 1) := by decide +kernel
theorem dX0_weigh_110 : decode cX0_weigh 110 = .ok (.iinc 3 1, 3) := by decide +kernel
theorem dX0_weigh_113 : decode cX0_weigh 113 = .ok (.goto (-26), 3) := by decide +kernel
theorem dX0_weigh_116 : decode cX0_weigh 116 = .ok (.iinc 2 1, 3) := by decide +kernel
theorem dX0_weigh_119 : decode cX0_weigh 119 = .ok (.goto (-94), 3) := by decide +kernel
theorem dX0_weigh_122 : decode cX0_weigh 122 = .ok (.return_, 1) := by decide +kernel
abbrev rm_X0_weigh : Room := { frames := 2, cells := 0, slots := 0, locals := 64 }
noncomputable def f_X0_weigh_h87 (N : Nat) (kb25 : Int32 → ZS → Option (Unit × ZS)) (x2 : Int32) : Nat → Int32 → ZS → Option (Unit × ZS)
  | 0, _, _ => none
  | n + 1, x3, σ => (if (3 : Int32) ≤ x3 then bd (x2 + (1 : Int32)) fun v12 => kb25 v12 σ else ck (inb x3 3) (obd (f_X3_workOf N x2 x3 σ) fun v14 σ15 => ck (tg (62 + x3.toNatClampNeg) == 2) (ck (inb x2 (ln (62 + x3.toNatClampNeg))) (bd (sJ σ15 (62 + x3.toNatClampNeg) (x2.toNatClampNeg) v14) fun σ18 => bd (x3 + (1 : Int32)) fun v19 => f_X0_weigh_h87 N kb25 x2 n v19 σ18))))
noncomputable def f_X0_weigh_h45 (N : Nat) (kb25 : Int32 → ZS → Option (Unit × ZS)) (x2 : Int32) : Nat → Int32 → ZS → Option (Unit × ZS)
  | 0, _, _ => none
  | n + 1, x3, σ => (if (gI σ 7 2) ≤ x3 then f_X0_weigh_h87 N kb25 x2 N (0 : Int32) σ else ck (inb x2 924) (ck (inb x3 6) (obd (f_X3_bend N x2 x3 σ) fun v22 σ23 => bd ((gJ σ 61 (x2.toNatClampNeg)) + (((gI σ 60 (x3.toNatClampNeg)).toInt64) * v22)) fun v24 => ck (inb x2 924) (bd (sJ σ23 61 (x2.toNatClampNeg) v24) fun σ26 => bd (x3 + (1 : Int32)) fun v27 => f_X0_weigh_h45 N kb25 x2 n v27 σ26))))
noncomputable def f_X0_weigh_h25 (N : Nat) : Nat → Int32 → ZS → Option (Unit × ZS)
  | 0, _, _ => none
  | n + 1, x2, σ => (if (gI σ 6 3) ≤ x2 then some ((), σ) else ck (inb x2 924) (bd (sJ σ 61 (x2.toNatClampNeg) (0 : Int64)) fun σ9 => f_X0_weigh_h45 N (fun x2_ σ_ => f_X0_weigh_h25 N n x2_ σ_) x2 N (0 : Int32) σ9))
noncomputable def f_X0_weigh (N : Nat) (σ : ZS) : Option (Unit × ZS) := bd (gI σ 2 1) fun v1 => bd (sI σ 7 2 v1) fun σ2 => ck (tg 25 == 1) (ck (tg 60 == 1) (ck (cpg (0 : Int32) (0 : Int32) (6 : Int32) (ln 25) (ln 60)) (bd (cpI σ2 25 60 ((0 : Int32).toNatClampNeg) ((0 : Int32).toNatClampNeg) ((6 : Int32).toNatClampNeg)) fun σ6 => f_X0_weigh_h25 N N (0 : Int32) σ6)))
set_option maxHeartbeats 4000000 in
set_option maxRecDepth 100000 in
theorem k_X0_weigh_h87 {l : Launch} {Y : ZY} {G : ZG} {σ' : ZS} (h : zOk (l, rm_X0_weigh, 4, 0, 0) Y G cX0_weigh RX0 none) (hq : zRet (l, rm_X0_weigh, 4, 0, 0) Y G none σ') (N : Nat) {kb25 : Int32 → ZS → Option (Unit × ZS)} (x2 : Int32) (hb25 : ∀ (x2_ : Int32) (σ_ : ZS), kb25 x2_ σ_ = some ((), σ') → Z (l, rm_X0_weigh, 4, 0, 0) Y G σ_ [(0, .ref (G.1 7)), (1, .ref (G.1 2)), (2, .int x2_)] [] 25) : ∀ (n : Nat) (x3 : Int32) (σ : ZS), f_X0_weigh_h87 N kb25 x2 n x3 σ = some ((), σ') → Z (l, rm_X0_weigh, 4, 0, 0) Y G σ [(0, .ref (G.1 7)), (1, .ref (G.1 2)), (2, .int x2), (3, .int x3)] [] 87 := by
  intro n
  induction n with
  | zero =>
    intro x3 σ hf
    rw [f_X0_weigh_h87] at hf
    cases hf
  | succ n ih =>
    intro x3 σ hf
    rw [f_X0_weigh_h87] at hf
    refine z_iload_n h dX0_weigh_87 rfl 3 rfl ?_
    refine z_iconst h (v := (3 : Int32)) dX0_weigh_88 ic_3 ?_
    refine z_icmp_ge h (tgt := 116) dX0_weigh_89 (by decide) (fun g11 => ?_) (fun g11 => ?_)
    · have hf := it_pos g11 hf
      obtain ⟨v12, ev12, hf⟩ := bd_ex hf
      refine z_iinc h (v := v12) (lv' := [(2, .int v12), (0, .ref (G.1 7)), (1, .ref (G.1 2)), (3, .int x3)]) dX0_weigh_116 2 rfl (by rw [ev12]; rfl) rfl rfl ?_
      refine z_goto h (tgt := 25) dX0_weigh_119 (by decide) ?_
      exact z_sub [1, 2, 0] rfl (hb25 _ _ hf)
    · have hf := it_neg g11 hf
      refine z_aload_n h dX0_weigh_92 rfl 0 rfl ?_
      refine z_gfR h zC0 (d := 19) (c := 7) tg_7 ln_7 3 rfl ft_0_3 rf_7_3 wd_51 dX0_weigh_93 ?_
      refine z_iload_n h dX0_weigh_96 rfl 3 rfl ?_
      obtain ⟨g13, hf⟩ := ck_out hf
      refine z_aald h (c := 19) (d := 62 + x3.toNatClampNeg) tg_19 rfl ln_19 rfl g13 dX0_weigh_97 ?_
      refine z_iload_n h dX0_weigh_98 rfl 2 rfl ?_
      refine z_aload_n h dX0_weigh_99 rfl 0 rfl ?_
      refine z_gfR h zC0 (d := 6) (c := 7) tg_7 ln_7 0 rfl ft_0_0 rf_7_0 wd_47 dX0_weigh_100 ?_
      refine z_iload_n h dX0_weigh_103 rfl 2 rfl ?_
      refine z_aload_n h dX0_weigh_104 rfl 1 rfl ?_
      refine z_iload_n h dX0_weigh_105 rfl 3 rfl ?_
      obtain ⟨v14, σ15, e15, hf⟩ := obd_out hf
      refine z_cVv h (n := 3) (c_X3_workOf l G e15) zC3 tg_6 ln_6 rfl rfl wd_401 wd_402 wd_403 wd_46 wd_404 (by decide +kernel) ⟨rfl, rfl⟩ rfl rfl rfl dX0_weigh_106 ⟨Nat.zero_le _, Nat.zero_le _⟩ ?_
      obtain ⟨g16, hf⟩ := ck_out hf
      obtain ⟨g17, hf⟩ := ck_out hf
      refine z_last h (eq_of_beq g16) rfl g17 dX0_weigh_109 ?_
      refine z_gen (fun σ18 eσ18 => ?_)
      have hf := bd_to eσ18 hf
      obtain ⟨v19, ev19, hf⟩ := bd_ex hf
      refine z_iinc h (v := v19) (lv' := [(3, .int v19), (0, .ref (G.1 7)), (1, .ref (G.1 2)), (2, .int x2)]) dX0_weigh_110 3 rfl (by rw [ev19]; rfl) rfl rfl ?_
      refine z_goto h (tgt := 87) dX0_weigh_113 (by decide) ?_
      exact z_sub [1, 2, 3, 0] rfl (ih _ _ hf)
set_option maxHeartbeats 4000000 in
set_option maxRecDepth 100000 in
theorem k_X0_weigh_h45 {l : Launch} {Y : ZY} {G : ZG} {σ' : ZS} (h : zOk (l, rm_X0_weigh, 4, 0, 0) Y G cX0_weigh RX0 none) (hq : zRet (l, rm_X0_weigh, 4, 0, 0) Y G none σ') (N : Nat) {kb25 : Int32 → ZS → Option (Unit × ZS)} (x2 : Int32) (hb25 : ∀ (x2_ : Int32) (σ_ : ZS), kb25 x2_ σ_ = some ((), σ') → Z (l, rm_X0_weigh, 4, 0, 0) Y G σ_ [(0, .ref (G.1 7)), (1, .ref (G.1 2)), (2, .int x2_)] [] 25) : ∀ (n : Nat) (x3 : Int32) (σ : ZS), f_X0_weigh_h45 N kb25 x2 n x3 σ = some ((), σ') → Z (l, rm_X0_weigh, 4, 0, 0) Y G σ [(0, .ref (G.1 7)), (1, .ref (G.1 2)), (2, .int x2), (3, .int x3)] [] 45 := by
  intro n
  induction n with
  | zero =>
    intro x3 σ hf
    rw [f_X0_weigh_h45] at hf
    cases hf
  | succ n ih =>
    intro x3 σ hf
    rw [f_X0_weigh_h45] at hf
    refine z_iload_n h dX0_weigh_45 rfl 3 rfl ?_
    refine z_aload_n h dX0_weigh_46 rfl 0 rfl ?_
    refine z_gfI h zC0 (c := 7) tg_7 ln_7 2 rfl ft_0_2 wd_391 dX0_weigh_47 ?_
    refine z_icmp_ge h (tgt := 85) dX0_weigh_50 (by decide) (fun g10 => ?_) (fun g10 => ?_)
    · have hf := it_pos g10 hf
      refine z_iconst h (v := (0 : Int32)) dX0_weigh_85 ic_0 ?_
      refine z_istore_n h dX0_weigh_86 rfl (lv' := [(3, .int (0 : Int32)), (0, .ref (G.1 7)), (1, .ref (G.1 2)), (2, .int x2)]) rfl rfl ?_
      exact z_sub [1, 2, 3, 0] rfl (k_X0_weigh_h87 h hq N x2 hb25 _ _ _ hf)
    · have hf := it_neg g10 hf
      refine z_aload_n h dX0_weigh_53 rfl 0 rfl ?_
      refine z_gfR h zC0 (d := 61) (c := 7) tg_7 ln_7 4 rfl ft_0_4 rf_7_4 wd_52 dX0_weigh_54 ?_
      refine z_iload_n h dX0_weigh_57 rfl 2 rfl ?_
      refine z_dup2_11 h dX0_weigh_58 rfl rfl ?_
      obtain ⟨g20, hf⟩ := ck_out hf
      refine z_lald h (c := 61) tg_61 ln_61 g20 dX0_weigh_59 ?_
      refine z_aload_n h dX0_weigh_60 rfl 0 rfl ?_
      refine z_gfR h zC0 (d := 60) (c := 7) tg_7 ln_7 1 rfl ft_0_1 rf_7_1 wd_48 dX0_weigh_61 ?_
      refine z_iload_n h dX0_weigh_64 rfl 3 rfl ?_
      obtain ⟨g21, hf⟩ := ck_out hf
      refine z_iald h (c := 60) tg_60 ln_60 g21 dX0_weigh_65 ?_
      refine z_i2l h dX0_weigh_66 ?_
      refine z_aload_n h dX0_weigh_67 rfl 0 rfl ?_
      refine z_gfR h zC0 (d := 6) (c := 7) tg_7 ln_7 0 rfl ft_0_0 rf_7_0 wd_47 dX0_weigh_68 ?_
      refine z_iload_n h dX0_weigh_71 rfl 2 rfl ?_
      refine z_iload_n h dX0_weigh_72 rfl 3 rfl ?_
      obtain ⟨v22, σ23, e23, hf⟩ := obd_out hf
      refine z_cVv h (n := 2) (c_X3_bend l G e23) zC3 tg_6 ln_6 rfl rfl wd_396 wd_397 wd_398 wd_46 wd_399 (by decide +kernel) ⟨rfl, rfl⟩ rfl rfl rfl dX0_weigh_73 ⟨Nat.zero_le _, Nat.zero_le _⟩ ?_
      refine z_lmul h dX0_weigh_76 ?_
      refine z_ladd h dX0_weigh_77 ?_
      refine z_topJ (fun v24 ev24 => ?_)
      have hf := bd_to ev24 hf
      obtain ⟨g25, hf⟩ := ck_out hf
      refine z_last h (c := 61) tg_61 ln_61 g25 dX0_weigh_78 ?_
      refine z_gen (fun σ26 eσ26 => ?_)
      have hf := bd_to eσ26 hf
      obtain ⟨v27, ev27, hf⟩ := bd_ex hf
      refine z_iinc h (v := v27) (lv' := [(3, .int v27), (0, .ref (G.1 7)), (1, .ref (G.1 2)), (2, .int x2)]) dX0_weigh_79 3 rfl (by rw [ev27]; rfl) rfl rfl ?_
      refine z_goto h (tgt := 45) dX0_weigh_82 (by decide) ?_
      exact z_sub [1, 2, 3, 0] rfl (ih _ _ hf)
set_option maxHeartbeats 4000000 in
set_option maxRecDepth 100000 in
theorem k_X0_weigh_h25 {l : Launch} {Y : ZY} {G : ZG} {σ' : ZS} (h : zOk (l, rm_X0_weigh, 4, 0, 0) Y G cX0_weigh RX0 none) (hq : zRet (l, rm_X0_weigh, 4, 0, 0) Y G none σ') (N : Nat) : ∀ (n : Nat) (x2 : Int32) (σ : ZS), f_X0_weigh_h25 N n x2 σ = some ((), σ') → Z (l, rm_X0_weigh, 4, 0, 0) Y G σ [(0, .ref (G.1 7)), (1, .ref (G.1 2)), (2, .int x2)] [] 25 := by
  intro n
  induction n with
  | zero =>
    intro x2 σ hf
    rw [f_X0_weigh_h25] at hf
    cases hf
  | succ n ih =>
    intro x2 σ hf
    rw [f_X0_weigh_h25] at hf
    refine z_iload_n h dX0_weigh_25 rfl 2 rfl ?_
    refine z_aload_n h dX0_weigh_26 rfl 0 rfl ?_
    refine z_gfR h zC0 (d := 6) (c := 7) tg_7 ln_7 0 rfl ft_0_0 rf_7_0 wd_47 dX0_weigh_27 ?_
    refine z_gfIN h zC3 (c := 6) tg_6 ln_6 3 rfl ft_3_3 (by decide +kernel) dX0_weigh_30 ?_
    refine z_icmp_ge h (tgt := 122) dX0_weigh_33 (by decide) (fun g7 => ?_) (fun g7 => ?_)
    · have hf := it_pos g7 hf
      exact z_vret h (rt_V hf hq) dX0_weigh_122
    · have hf := it_neg g7 hf
      refine z_aload_n h dX0_weigh_36 rfl 0 rfl ?_
      refine z_gfR h zC0 (d := 61) (c := 7) tg_7 ln_7 4 rfl ft_0_4 rf_7_4 wd_52 dX0_weigh_37 ?_
      refine z_iload_n h dX0_weigh_40 rfl 2 rfl ?_
      refine z_lconst h (v := (0 : Int64)) dX0_weigh_41 lc_0 ?_
      obtain ⟨g8, hf⟩ := ck_out hf
      refine z_last h (c := 61) tg_61 ln_61 g8 dX0_weigh_42 ?_
      refine z_gen (fun σ9 eσ9 => ?_)
      have hf := bd_to eσ9 hf
      refine z_iconst h (v := (0 : Int32)) dX0_weigh_43 ic_0 ?_
      refine z_istore_n h dX0_weigh_44 rfl (lv' := [(3, .int (0 : Int32)), (0, .ref (G.1 7)), (1, .ref (G.1 2)), (2, .int x2)]) rfl rfl ?_
      exact z_sub [1, 2, 3, 0] rfl (k_X0_weigh_h45 h hq N x2 (fun x2_ σ_ hf_ => ih x2_ σ_ hf_) _ _ _ hf)
set_option maxHeartbeats 4000000 in
set_option maxRecDepth 100000 in
theorem c_X0_weigh (l : Launch) (G : ZG) {N : Nat} {σ σ' : ZS} {r : Unit} (hf : f_X0_weigh N σ = some (r, σ')) : zMet l G yX0_weigh cX0_weigh 4 none rm_X0_weigh [.ref (G.1 7), .ref (G.1 2)] σ none σ' := by
  refine z_met (by decide +kernel) rfl (fun Y h hq => ?_)
  have h : zOk (l, rm_X0_weigh, 4, 0, 0) Y G cX0_weigh RX0 none := h
  rw [f_X0_weigh] at hf
  refine z_sub (lv' := [(0, .ref (G.1 7)), (1, .ref (G.1 2))]) [0, 1] rfl ?_
  refine z_aload_n h dX0_weigh_0 rfl 0 rfl ?_
  refine z_aload_n h dX0_weigh_1 rfl 1 rfl ?_
  refine z_gfIN h zC2 (c := 2) tg_2 ln_2 1 rfl ft_2_1 (by decide +kernel) dX0_weigh_2 ?_
  refine z_topI (fun v1 ev1 => ?_)
  have hf := bd_to ev1 hf
  refine z_pfI h zC0 (c := 7) tg_7 ln_7 2 rfl ft_0_2 wd_391 rfl (ty := .int) (by decide +kernel) rfl rfl dX0_weigh_5 ?_
  refine z_gen (fun σ2 eσ2 => ?_)
  have hf := bd_to eσ2 hf
  refine z_aload_n h dX0_weigh_8 rfl 1 rfl ?_
  refine z_gfRN h zC2 (d := 25) (c := 2) tg_2 ln_2 7 rfl ft_2_7 rf_2_7 (by decide +kernel) dX0_weigh_9 ?_
  refine z_iconst h (v := (0 : Int32)) dX0_weigh_12 ic_0 ?_
  refine z_aload_n h dX0_weigh_13 rfl 0 rfl ?_
  refine z_gfR h zC0 (d := 60) (c := 7) tg_7 ln_7 1 rfl ft_0_1 rf_7_1 wd_48 dX0_weigh_14 ?_
  refine z_iconst h (v := (0 : Int32)) dX0_weigh_17 ic_0 ?_
  refine z_bipush h (v := (6 : Int32)) dX0_weigh_18 bp_6 ?_
  obtain ⟨g3, hf⟩ := ck_out hf
  obtain ⟨g4, hf⟩ := ck_out hf
  obtain ⟨g5, hf⟩ := ck_out hf
  refine z_cpy h (eq_of_beq g3) (eq_of_beq g4) g5 wd_392 wd_393 wd_394 wd_395 rfl rfl dX0_weigh_20 ?_
  refine z_gen (fun σ6 eσ6 => ?_)
  have hf := bd_to eσ6 hf
  refine z_iconst h (v := (0 : Int32)) dX0_weigh_23 ic_0 ?_
  refine z_istore_n h dX0_weigh_24 rfl (lv' := [(2, .int (0 : Int32)), (0, .ref (G.1 7)), (1, .ref (G.1 2))]) rfl rfl ?_
  exact z_sub [1, 2, 0] rfl (k_X0_weigh_h25 h hq N _ _ _ hf)
theorem dX0_limit_0 : decode cX0_limit 0 = .ok (.iload_n 1, 1) := by decide +kernel
theorem dX0_limit_1 : decode cX0_limit 1 = .ok (.ifCond .ne 10, 3) := by decide +kernel
theorem dX0_limit_4 : decode cX0_limit 4 = .ok (.aload_n 0, 1) := by decide +kernel
theorem dX0_limit_5 : decode cX0_limit 5 = .ok (.getfield 34, 3) := by decide +kernel
theorem dX0_limit_8 : decode cX0_limit 8 = .ok (.goto 7, 3) := by decide +kernel
theorem dX0_limit_11 : decode cX0_limit 11 = .ok (.aload_n 0, 1) := by decide +kernel
theorem dX0_limit_12 : decode cX0_limit 12 = .ok (.getfield 38, 3) := by decide +kernel
theorem dX0_limit_15 : decode cX0_limit 15 = .ok (.areturn, 1) := by decide +kernel
abbrev rm_X0_limit : Room := { frames := 0, cells := 0, slots := 0, locals := 0 }
noncomputable def f_X0_limit (N : Nat) (x1 : Int32) (σ : ZS) : Option (Nat × ZS) := (if x1 = 0 then some (9, σ) else some (10, σ))
set_option maxHeartbeats 4000000 in
set_option maxRecDepth 100000 in
theorem c_X0_limit (l : Launch) (G : ZG) {N : Nat} {x1 : Int32} {σ σ' : ZS} {r : Nat} (hf : f_X0_limit N x1 σ = some (r, σ')) : zMet l G yX0_limit cX0_limit 2 (some (.object "FrameCollapse$Fraction")) rm_X0_limit [.ref (G.1 7), .int x1] σ (some (.ref (G.1 r))) σ' := by
  refine z_met (by decide +kernel) rfl (fun Y h hq => ?_)
  have h : zOk (l, rm_X0_limit, 2, 0, 0) Y G cX0_limit RX0 (some (.object "FrameCollapse$Fraction")) := h
  rw [f_X0_limit] at hf
  refine z_sub (lv' := [(0, .ref (G.1 7)), (1, .int x1)]) [0, 1] rfl ?_
  refine z_iload_n h dX0_limit_0 rfl 1 rfl ?_
  refine z_if_ne h (tgt := 11) dX0_limit_1 (by decide) (fun g1 => ?_) (fun g1 => ?_)
  · have hf := it_neg g1 hf
    refine z_aload_n h dX0_limit_11 rfl 0 rfl ?_
    refine z_gfR h zC0 (d := 10) (c := 7) tg_7 ln_7 6 rfl ft_0_6 rf_7_6 wd_55 dX0_limit_12 ?_
    exact z_aret h rfl (rt_A hf hq) dX0_limit_15
  · have hf := it_pos g1 hf
    refine z_aload_n h dX0_limit_4 rfl 0 rfl ?_
    refine z_gfR h zC0 (d := 9) (c := 7) tg_7 ln_7 5 rfl ft_0_5 rf_7_5 wd_54 dX0_limit_5 ?_
    refine z_goto h (tgt := 15) dX0_limit_8 (by decide) ?_
    exact z_aret h rfl (rt_A hf hq) dX0_limit_15
theorem dX0_extreme_0 : decode cX0_extreme 0 = .ok (.aload_n 0, 1) := by decide +kernel
theorem dX0_extreme_1 : decode cX0_extreme 1 = .ok (.iload_n 1, 1) := by decide +kernel
theorem dX0_extreme_2 : decode cX0_extreme 2 = .ok (.iconst 2, 1) := by decide +kernel
theorem dX0_extreme_3 : decode cX0_extreme 3 = .ok (.idiv, 1) := by decide +kernel
theorem dX0_extreme_4 : decode cX0_extreme 4 = .ok (.invokevirtual 72, 3) := by decide +kernel
theorem dX0_extreme_7 : decode cX0_extreme 7 = .ok (.iload_n 1, 1) := by decide +kernel
theorem dX0_extreme_8 : decode cX0_extreme 8 = .ok (.iconst 2, 1) := by decide +kernel
theorem dX0_extreme_9 : decode cX0_extreme 9 = .ok (.irem, 1) := by decide +kernel
theorem dX0_extreme_10 : decode cX0_extreme 10 = .ok (.invokevirtual 76, 3) := by decide +kernel
theorem dX0_extreme_13 : decode cX0_extreme 13 = .ok (.lreturn, 1) := by decide +kernel
abbrev rm_X0_extreme : Room := { frames := 4, cells := 0, slots := 0, locals := 126 }
noncomputable def f_X0_extreme (N : Nat) (x1 : Int32) (σ : ZS) : Option (Int64 × ZS) := obd (f_X0_limit N (x1 / (2 : Int32)) σ) fun v1 σ2 => ck (isc v1 1) (obd (f_X1_lowestTerm N v1 (irm x1 (2 : Int32)) σ2) fun v4 σ5 => some (v4, σ5))
set_option maxHeartbeats 4000000 in
set_option maxRecDepth 100000 in
theorem c_X0_extreme (l : Launch) (G : ZG) {N : Nat} {x1 : Int32} {σ σ' : ZS} {r : Int64} (hf : f_X0_extreme N x1 σ = some (r, σ')) : zMet l G yX0_extreme cX0_extreme 2 (some .long) rm_X0_extreme [.ref (G.1 7), .int x1] σ (some (.long r)) σ' := by
  refine z_met (by decide +kernel) rfl (fun Y h hq => ?_)
  have h : zOk (l, rm_X0_extreme, 2, 0, 0) Y G cX0_extreme RX0 (some .long) := h
  rw [f_X0_extreme] at hf
  refine z_sub (lv' := [(0, .ref (G.1 7)), (1, .int x1)]) [0, 1] rfl ?_
  refine z_aload_n h dX0_extreme_0 rfl 0 rfl ?_
  refine z_iload_n h dX0_extreme_1 rfl 1 rfl ?_
  refine z_iconst h (v := (2 : Int32)) dX0_extreme_2 ic_2 ?_
  refine z_idiv h dX0_extreme_3 (by decide) ?_
  obtain ⟨v1, σ2, e2, hf⟩ := obd_out hf
  refine z_cVv h (n := 1) (c_X0_limit l G e2) zC0 tg_7 ln_7 rfl rfl wd_572 wd_573 wd_574 wd_19 wd_575 (by decide +kernel) ⟨rfl, rfl⟩ rfl rfl rfl dX0_extreme_4 ⟨Nat.zero_le _, Nat.zero_le _⟩ ?_
  refine z_iload_n h dX0_extreme_7 rfl 1 rfl ?_
  refine z_iconst h (v := (2 : Int32)) dX0_extreme_8 ic_2 ?_
  refine z_irem h dX0_extreme_9 (by decide) ?_
  obtain ⟨g3, hf⟩ := ck_out hf
  obtain ⟨v4, σ5, e5, hf⟩ := obd_out hf
  refine z_cVv h (n := 1) (c_X1_lowestTerm l G e5) zC1 (isc_tg g3) (isc_ln g3) rfl rfl wd_576 wd_523 wd_524 wd_25 wd_525 (by decide +kernel) ⟨rfl, rfl⟩ rfl rfl rfl dX0_extreme_10 ⟨Nat.zero_le _, Nat.zero_le _⟩ ?_
  exact z_lret h (rt_J hf hq) dX0_extreme_13
theorem dX0_findBounds_0 : decode cX0_findBounds 0 = .ok (.aload_n 0, 1) := by decide +kernel
theorem dX0_findBounds_1 : decode cX0_findBounds 1 = .ok (.getfield 24, 3) := by decide +kernel
theorem dX0_findBounds_4 : decode cX0_findBounds 4 = .ok (.iload_n 2, 1) := by decide +kernel
theorem dX0_findBounds_5 : decode cX0_findBounds 5 = .ok (.aaload, 1) := by decide +kernel
theorem dX0_findBounds_6 : decode cX0_findBounds 6 = .ok (.iload_n 1, 1) := by decide +kernel
theorem dX0_findBounds_7 : decode cX0_findBounds 7 = .ok (.laload, 1) := by decide +kernel
theorem dX0_findBounds_8 : decode cX0_findBounds 8 = .ok (.lstore_n 3, 1) := by decide +kernel
theorem dX0_findBounds_9 : decode cX0_findBounds 9 = .ok (.lload_n 3, 1) := by decide +kernel
theorem dX0_findBounds_10 : decode cX0_findBounds 10 = .ok (.lconst 0, 1) := by decide +kernel
theorem dX0_findBounds_11 : decode cX0_findBounds 11 = .ok (.lcmp, 1) := by decide +kernel
theorem dX0_findBounds_12 : decode cX0_findBounds 12 = .ok (.ifCond .ge 15, 3) := by decide +kernel
theorem dX0_findBounds_15 : decode cX0_findBounds 15 = .ok (.aload_n 0, 1) := by decide +kernel
theorem dX0_findBounds_16 : decode cX0_findBounds 16 = .ok (.getfield 24, 3) := by decide +kernel
theorem dX0_findBounds_19 : decode cX0_findBounds 19 = .ok (.iconst 0, 1) := by decide +kernel
theorem dX0_findBounds_20 : decode cX0_findBounds 20 = .ok (.aaload, 1) := by decide +kernel
theorem dX0_findBounds_21 : decode cX0_findBounds 21 = .ok (.iload_n 1, 1) := by decide +kernel
theorem dX0_findBounds_22 : decode cX0_findBounds 22 = .ok (.laload, 1) := by decide +kernel
theorem dX0_findBounds_23 : decode cX0_findBounds 23 = .ok (.lneg, 1) := by decide +kernel
theorem dX0_findBounds_24 : decode cX0_findBounds 24 = .ok (.goto 11, 3) := by decide +kernel
theorem dX0_findBounds_27 : decode cX0_findBounds 27 = .ok (.aload_n 0, 1) := by decide +kernel
theorem dX0_findBounds_28 : decode cX0_findBounds 28 = .ok (.getfield 24, 3) := by decide +kernel
theorem dX0_findBounds_31 : decode cX0_findBounds 31 = .ok (.iconst 0, 1) := by decide +kernel
theorem dX0_findBounds_32 : decode cX0_findBounds 32 = .ok (.aaload, 1) := by decide +kernel
theorem dX0_findBounds_33 : decode cX0_findBounds 33 = .ok (.iload_n 1, 1) := by decide +kernel
theorem dX0_findBounds_34 : decode cX0_findBounds 34 = .ok (.laload, 1) := by decide +kernel
theorem dX0_findBounds_35 : decode cX0_findBounds 35 = .ok (.lstore 5, 2) := by decide +kernel
theorem dX0_findBounds_37 : decode cX0_findBounds 37 = .ok (.aload_n 0, 1) := by decide +kernel
theorem dX0_findBounds_38 : decode cX0_findBounds 38 = .ok (.getfield 34, 3) := by decide +kernel
theorem dX0_findBounds_41 : decode cX0_findBounds 41 = .ok (.aload_n 0, 1) := by decide +kernel
theorem dX0_findBounds_42 : decode cX0_findBounds 42 = .ok (.getfield 27, 3) := by decide +kernel
theorem dX0_findBounds_45 : decode cX0_findBounds 45 = .ok (.iload_n 1, 1) := by decide +kernel
theorem dX0_findBounds_46 : decode cX0_findBounds 46 = .ok (.laload, 1) := by decide +kernel
theorem dX0_findBounds_47 : decode cX0_findBounds 47 = .ok (.lload 5, 2) := by decide +kernel
theorem dX0_findBounds_49 : decode cX0_findBounds 49 = .ok (.lsub, 1) := by decide +kernel
theorem dX0_findBounds_50 : decode cX0_findBounds 50 = .ok (.lload_n 3, 1) := by decide +kernel
theorem dX0_findBounds_51 : decode cX0_findBounds 51 = .ok (.invokestatic 80, 3) := by decide +kernel
theorem dX0_findBounds_54 : decode cX0_findBounds 54 = .ok (.invokevirtual 86, 3) := by decide +kernel
theorem dX0_findBounds_57 : decode cX0_findBounds 57 = .ok (.aload_n 0, 1) := by decide +kernel
theorem dX0_findBounds_58 : decode cX0_findBounds 58 = .ok (.getfield 38, 3) := by decide +kernel
theorem dX0_findBounds_61 : decode cX0_findBounds 61 = .ok (.aload_n 0, 1) := by decide +kernel
theorem dX0_findBounds_62 : decode cX0_findBounds 62 = .ok (.getfield 27, 3) := by decide +kernel
theorem dX0_findBounds_65 : decode cX0_findBounds 65 = .ok (.iload_n 1, 1) := by decide +kernel
theorem dX0_findBounds_66 : decode cX0_findBounds 66 = .ok (.laload, 1) := by decide +kernel
theorem dX0_findBounds_67 : decode cX0_findBounds 67 = .ok (.lneg, 1) := by decide +kernel
theorem dX0_findBounds_68 : decode cX0_findBounds 68 = .ok (.lload 5, 2) := by decide +kernel
theorem dX0_findBounds_70 : decode cX0_findBounds 70 = .ok (.lsub, 1) := by decide +kernel
theorem dX0_findBounds_71 : decode cX0_findBounds 71 = .ok (.lload_n 3, 1) := by decide +kernel
theorem dX0_findBounds_72 : decode cX0_findBounds 72 = .ok (.invokestatic 80, 3) := by decide +kernel
theorem dX0_findBounds_75 : decode cX0_findBounds 75 = .ok (.invokevirtual 86, 3) := by decide +kernel
theorem dX0_findBounds_78 : decode cX0_findBounds 78 = .ok (.lload_n 3, 1) := by decide +kernel
theorem dX0_findBounds_79 : decode cX0_findBounds 79 = .ok (.lconst 0, 1) := by decide +kernel
theorem dX0_findBounds_80 : decode cX0_findBounds 80 = .ok (.lcmp, 1) := by decide +kernel
theorem dX0_findBounds_81 : decode cX0_findBounds 81 = .ok (.ifCond .eq 7, 3) := by decide +kernel
theorem dX0_findBounds_84 : decode cX0_findBounds 84 = .ok (.iconst 1, 1) := by decide +kernel
theorem dX0_findBounds_85 : decode cX0_findBounds 85 = .ok (.goto 4, 3) := by decide +kernel
theorem dX0_findBounds_88 : decode cX0_findBounds 88 = .ok (.iconst 0, 1) := by decide +kernel
theorem dX0_findBounds_89 : decode cX0_findBounds 89 = .ok (.ireturn, 1) := by decide +kernel
abbrev rm_X0_findBounds : Room := { frames := 1, cells := 0, slots := 0, locals := 32 }
noncomputable def f_X0_findBounds_b35 (N : Nat) (x1 : Int32) (x3 : Int64) (s0 : Int64) (σ : ZS) : Option (Int32 × ZS) := ck (inb x1 924) (obd (f_ABS N x3 σ) fun v10 σ11 => obd (f_X1_put N 9 ((gJ σ 61 (x1.toNatClampNeg)) - s0) v10 σ11) fun _ σ13 => ck (inb x1 924) (obd (f_ABS N x3 σ13) fun v15 σ16 => obd (f_X1_put N 10 ((-(gJ σ13 61 (x1.toNatClampNeg))) - s0) v15 σ16) fun _ σ18 => (if x3 = (0 : Int64) then some ((0 : Int32), σ18) else some ((1 : Int32), σ18))))
noncomputable def f_X0_findBounds (N : Nat) (x1 : Int32) (x2 : Int32) (σ : ZS) : Option (Int32 × ZS) := ck (inb x2 3) (ck (tg (62 + x2.toNatClampNeg) == 2) (ck (inb x1 (ln (62 + x2.toNatClampNeg))) (bd (gJ σ (62 + x2.toNatClampNeg) (x1.toNatClampNeg)) fun v4 => (if v4 < (0 : Int64) then ck (inb (0 : Int32) 3) (ck (tg (62 + (0 : Int32).toNatClampNeg) == 2) (ck (inb x1 (ln (62 + (0 : Int32).toNatClampNeg))) (f_X0_findBounds_b35 N x1 v4 (-(gJ σ (62 + (0 : Int32).toNatClampNeg) (x1.toNatClampNeg))) σ))) else ck (inb (0 : Int32) 3) (ck (tg (62 + (0 : Int32).toNatClampNeg) == 2) (ck (inb x1 (ln (62 + (0 : Int32).toNatClampNeg))) (f_X0_findBounds_b35 N x1 v4 (gJ σ (62 + (0 : Int32).toNatClampNeg) (x1.toNatClampNeg)) σ)))))))
set_option maxHeartbeats 4000000 in
set_option maxRecDepth 100000 in
theorem k_X0_findBounds_b35 {l : Launch} {Y : ZY} {G : ZG} {r : Int32} {σ' : ZS} (h : zOk (l, rm_X0_findBounds, 7, 0, 0) Y G cX0_findBounds RX0 (some .boolean)) (hq : zRet (l, rm_X0_findBounds, 7, 0, 0) Y G (some (.int r)) σ') (N : Nat) (x1 : Int32) (x3 : Int64) (s0 : Int64) (σ : ZS) (hf : f_X0_findBounds_b35 N x1 x3 s0 σ = some (r, σ')) : Z (l, rm_X0_findBounds, 7, 0, 0) Y G σ [(0, .ref (G.1 7)), (1, .int x1), (3, .long x3)] [.long s0] 35 := by
  rw [f_X0_findBounds_b35] at hf
  refine z_lstore h dX0_findBounds_35 (lv' := [(5, .long s0), (0, .ref (G.1 7)), (1, .int x1), (3, .long x3)]) rfl rfl ?_
  refine z_aload_n h dX0_findBounds_37 rfl 1 rfl ?_
  refine z_gfR h zC0 (d := 9) (c := 7) tg_7 ln_7 5 rfl ft_0_5 rf_7_5 wd_54 dX0_findBounds_38 ?_
  refine z_aload_n h dX0_findBounds_41 rfl 1 rfl ?_
  refine z_gfR h zC0 (d := 61) (c := 7) tg_7 ln_7 4 rfl ft_0_4 rf_7_4 wd_52 dX0_findBounds_42 ?_
  refine z_iload_n h dX0_findBounds_45 rfl 2 rfl ?_
  obtain ⟨g9, hf⟩ := ck_out hf
  refine z_lald h (c := 61) tg_61 ln_61 g9 dX0_findBounds_46 ?_
  refine z_lload h dX0_findBounds_47 0 rfl ?_
  refine z_lsub h dX0_findBounds_49 ?_
  refine z_lload_n h dX0_findBounds_50 rfl 3 rfl ?_
  obtain ⟨v10, σ11, e11, hf⟩ := obd_out hf
  refine z_cSv h (n := 1) (c_ABS l G e11) rfl wd_566 wd_338 wd_339 wd_340 (by decide +kernel) ⟨rfl, rfl⟩ rfl rfl rfl dX0_findBounds_51 ⟨Nat.zero_le _, Nat.zero_le _⟩ ?_
  obtain ⟨v12, σ13, e13, hf⟩ := obd_out hf
  refine z_cV0 h (n := 2) (c_X1_put l G e13) zC1 tg_9 ln_9 rfl rfl wd_567 wd_518 wd_519 wd_25 wd_520 (by decide +kernel) ⟨rfl, rfl⟩ rfl rfl rfl dX0_findBounds_54 ⟨Nat.zero_le _, Nat.zero_le _⟩ ?_
  refine z_aload_n h dX0_findBounds_57 rfl 1 rfl ?_
  refine z_gfR h zC0 (d := 10) (c := 7) tg_7 ln_7 6 rfl ft_0_6 rf_7_6 wd_55 dX0_findBounds_58 ?_
  refine z_aload_n h dX0_findBounds_61 rfl 1 rfl ?_
  refine z_gfR h zC0 (d := 61) (c := 7) tg_7 ln_7 4 rfl ft_0_4 rf_7_4 wd_52 dX0_findBounds_62 ?_
  refine z_iload_n h dX0_findBounds_65 rfl 2 rfl ?_
  obtain ⟨g14, hf⟩ := ck_out hf
  refine z_lald h (c := 61) tg_61 ln_61 g14 dX0_findBounds_66 ?_
  refine z_lneg h dX0_findBounds_67 ?_
  refine z_lload h dX0_findBounds_68 0 rfl ?_
  refine z_lsub h dX0_findBounds_70 ?_
  refine z_lload_n h dX0_findBounds_71 rfl 3 rfl ?_
  obtain ⟨v15, σ16, e16, hf⟩ := obd_out hf
  refine z_cSv h (n := 1) (c_ABS l G e16) rfl wd_566 wd_338 wd_339 wd_340 (by decide +kernel) ⟨rfl, rfl⟩ rfl rfl rfl dX0_findBounds_72 ⟨Nat.zero_le _, Nat.zero_le _⟩ ?_
  obtain ⟨v17, σ18, e18, hf⟩ := obd_out hf
  refine z_cV0 h (n := 2) (c_X1_put l G e18) zC1 tg_10 ln_10 rfl rfl wd_567 wd_518 wd_519 wd_25 wd_520 (by decide +kernel) ⟨rfl, rfl⟩ rfl rfl rfl dX0_findBounds_75 ⟨Nat.zero_le _, Nat.zero_le _⟩ ?_
  refine z_lload_n h dX0_findBounds_78 rfl 3 rfl ?_
  refine z_lconst h (v := (0 : Int64)) dX0_findBounds_79 lc_0 ?_
  refine z_lif_eq h (tgt := 88) dX0_findBounds_80 dX0_findBounds_81 (by decide) (fun g19 => ?_) (fun g19 => ?_)
  · have hf := it_pos g19 hf
    refine z_iconst h (v := (0 : Int32)) dX0_findBounds_88 ic_0 ?_
    exact z_zret h rfl (rt_I hf hq) dX0_findBounds_89
  · have hf := it_neg g19 hf
    refine z_iconst h (v := (1 : Int32)) dX0_findBounds_84 ic_1 ?_
    refine z_goto h (tgt := 89) dX0_findBounds_85 (by decide) ?_
    exact z_zret h rfl (rt_I hf hq) dX0_findBounds_89
set_option maxHeartbeats 4000000 in
set_option maxRecDepth 100000 in
theorem c_X0_findBounds (l : Launch) (G : ZG) {N : Nat} {x1 : Int32} {x2 : Int32} {σ σ' : ZS} {r : Int32} (hf : f_X0_findBounds N x1 x2 σ = some (r, σ')) : zMet l G yX0_findBounds cX0_findBounds 7 (some .boolean) rm_X0_findBounds [.ref (G.1 7), .int x1, .int x2] σ (some (.int r)) σ' := by
  refine z_met (by decide +kernel) rfl (fun Y h hq => ?_)
  have h : zOk (l, rm_X0_findBounds, 7, 0, 0) Y G cX0_findBounds RX0 (some .boolean) := h
  rw [f_X0_findBounds] at hf
  refine z_sub (lv' := [(0, .ref (G.1 7)), (1, .int x1), (2, .int x2)]) [0, 1, 2] rfl ?_
  refine z_aload_n h dX0_findBounds_0 rfl 0 rfl ?_
  refine z_gfR h zC0 (d := 19) (c := 7) tg_7 ln_7 3 rfl ft_0_3 rf_7_3 wd_51 dX0_findBounds_1 ?_
  refine z_iload_n h dX0_findBounds_4 rfl 2 rfl ?_
  obtain ⟨g1, hf⟩ := ck_out hf
  refine z_aald h (c := 19) (d := 62 + x2.toNatClampNeg) tg_19 rfl ln_19 rfl g1 dX0_findBounds_5 ?_
  refine z_iload_n h dX0_findBounds_6 rfl 1 rfl ?_
  obtain ⟨g2, hf⟩ := ck_out hf
  obtain ⟨g3, hf⟩ := ck_out hf
  refine z_lald h (eq_of_beq g2) rfl g3 dX0_findBounds_7 ?_
  refine z_topJ (fun v4 ev4 => ?_)
  have hf := bd_to ev4 hf
  refine z_lstore_n h dX0_findBounds_8 rfl (lv' := [(3, .long v4), (0, .ref (G.1 7)), (1, .int x1), (2, .int x2)]) rfl rfl ?_
  refine z_lload_n h dX0_findBounds_9 rfl 0 rfl ?_
  refine z_lconst h (v := (0 : Int64)) dX0_findBounds_10 lc_0 ?_
  refine z_lif_ge h (tgt := 27) dX0_findBounds_11 dX0_findBounds_12 (by decide) (fun g5 => ?_) (fun g5 => ?_)
  · have hf := it_neg g5 hf
    refine z_aload_n h dX0_findBounds_27 rfl 1 rfl ?_
    refine z_gfR h zC0 (d := 19) (c := 7) tg_7 ln_7 3 rfl ft_0_3 rf_7_3 wd_51 dX0_findBounds_28 ?_
    refine z_iconst h (v := (0 : Int32)) dX0_findBounds_31 ic_0 ?_
    obtain ⟨g6, hf⟩ := ck_out hf
    refine z_aald h (c := 19) (d := 62 + (0 : Int32).toNatClampNeg) tg_19 rfl ln_19 rfl g6 dX0_findBounds_32 ?_
    refine z_iload_n h dX0_findBounds_33 rfl 2 rfl ?_
    obtain ⟨g7, hf⟩ := ck_out hf
    obtain ⟨g8, hf⟩ := ck_out hf
    refine z_lald h (eq_of_beq g7) rfl g8 dX0_findBounds_34 ?_
    exact z_sub [1, 2, 0] rfl (k_X0_findBounds_b35 h hq N x1 v4 (gJ σ (62 + (0 : Int32).toNatClampNeg) (x1.toNatClampNeg)) _ hf)
  · have hf := it_pos g5 hf
    refine z_aload_n h dX0_findBounds_15 rfl 1 rfl ?_
    refine z_gfR h zC0 (d := 19) (c := 7) tg_7 ln_7 3 rfl ft_0_3 rf_7_3 wd_51 dX0_findBounds_16 ?_
    refine z_iconst h (v := (0 : Int32)) dX0_findBounds_19 ic_0 ?_
    obtain ⟨g20, hf⟩ := ck_out hf
    refine z_aald h (c := 19) (d := 62 + (0 : Int32).toNatClampNeg) tg_19 rfl ln_19 rfl g20 dX0_findBounds_20 ?_
    refine z_iload_n h dX0_findBounds_21 rfl 2 rfl ?_
    obtain ⟨g21, hf⟩ := ck_out hf
    obtain ⟨g22, hf⟩ := ck_out hf
    refine z_lald h (eq_of_beq g21) rfl g22 dX0_findBounds_22 ?_
    refine z_lneg h dX0_findBounds_23 ?_
    refine z_goto h (tgt := 35) dX0_findBounds_24 (by decide) ?_
    exact z_sub [1, 2, 0] rfl (k_X0_findBounds_b35 h hq N x1 v4 (-(gJ σ (62 + (0 : Int32).toNatClampNeg) (x1.toNatClampNeg))) _ hf)
theorem dX0_lower_0 : decode cX0_lower 0 = .ok (.aload_n 0, 1) := by decide +kernel
theorem dX0_lower_1 : decode cX0_lower 1 = .ok (.getfield 41, 3) := by decide +kernel
theorem dX0_lower_4 : decode cX0_lower 4 = .ok (.lload_n 2, 1) := by decide +kernel
theorem dX0_lower_5 : decode cX0_lower 5 = .ok (.lload 4, 2) := by decide +kernel
theorem dX0_lower_7 : decode cX0_lower 7 = .ok (.invokevirtual 86, 3) := by decide +kernel
theorem dX0_lower_10 : decode cX0_lower 10 = .ok (.iload_n 1, 1) := by decide +kernel
theorem dX0_lower_11 : decode cX0_lower 11 = .ok (.ifCond .ne 17, 3) := by decide +kernel
theorem dX0_lower_14 : decode cX0_lower 14 = .ok (.aload_n 0, 1) := by decide +kernel
theorem dX0_lower_15 : decode cX0_lower 15 = .ok (.getfield 41, 3) := by decide +kernel
theorem dX0_lower_18 : decode cX0_lower 18 = .ok (.aload_n 0, 1) := by decide +kernel
theorem dX0_lower_19 : decode cX0_lower 19 = .ok (.getfield 34, 3) := by decide +kernel
theorem dX0_lower_22 : decode cX0_lower 22 = .ok (.invokevirtual 97, 3) := by decide +kernel
theorem dX0_lower_25 : decode cX0_lower 25 = .ok (.ifCond .eq 14, 3) := by decide +kernel
theorem dX0_lower_28 : decode cX0_lower 28 = .ok (.aload_n 0, 1) := by decide +kernel
theorem dX0_lower_29 : decode cX0_lower 29 = .ok (.getfield 34, 3) := by decide +kernel
theorem dX0_lower_32 : decode cX0_lower 32 = .ok (.aload_n 0, 1) := by decide +kernel
theorem dX0_lower_33 : decode cX0_lower 33 = .ok (.getfield 41, 3) := by decide +kernel
theorem dX0_lower_36 : decode cX0_lower 36 = .ok (.invokevirtual 101, 3) := by decide +kernel
theorem dX0_lower_39 : decode cX0_lower 39 = .ok (.return_, 1) := by decide +kernel
abbrev rm_X0_lower : Room := { frames := 2, cells := 0, slots := 0, locals := 79 }
noncomputable def f_X0_lower_b28 (N : Nat) (σ : ZS) : Option (Unit × ZS) := obd (f_X1_copyFrom N 9 11 σ) fun _ σ5 => some ((), σ5)
noncomputable def f_X0_lower (N : Nat) (x1 : Int32) (x2 : Int64) (x4 : Int64) (σ : ZS) : Option (Unit × ZS) := obd (f_X1_put N 11 x2 x4 σ) fun _ σ2 => (if x1 = 0 then obd (f_X1_isBelow N 11 9 σ2) fun v6 σ7 => (if v6 = 0 then some ((), σ7) else f_X0_lower_b28 N σ7) else f_X0_lower_b28 N σ2)
set_option maxHeartbeats 4000000 in
set_option maxRecDepth 100000 in
theorem k_X0_lower_b28 {l : Launch} {Y : ZY} {G : ZG} {σ' : ZS} (h : zOk (l, rm_X0_lower, 6, 0, 0) Y G cX0_lower RX0 none) (hq : zRet (l, rm_X0_lower, 6, 0, 0) Y G none σ') (N : Nat) (σ : ZS) (hf : f_X0_lower_b28 N σ = some ((), σ')) : Z (l, rm_X0_lower, 6, 0, 0) Y G σ [(0, .ref (G.1 7))] [] 28 := by
  rw [f_X0_lower_b28] at hf
  refine z_aload_n h dX0_lower_28 rfl 0 rfl ?_
  refine z_gfR h zC0 (d := 9) (c := 7) tg_7 ln_7 5 rfl ft_0_5 rf_7_5 wd_54 dX0_lower_29 ?_
  refine z_aload_n h dX0_lower_32 rfl 0 rfl ?_
  refine z_gfR h zC0 (d := 11) (c := 7) tg_7 ln_7 7 rfl ft_0_7 rf_7_7 wd_56 dX0_lower_33 ?_
  obtain ⟨v4, σ5, e5, hf⟩ := obd_out hf
  refine z_cV0 h (n := 1) (c_X1_copyFrom l G e5) zC1 tg_9 ln_9 rfl rfl wd_605 wd_606 wd_607 wd_25 wd_608 (by decide +kernel) ⟨rfl, rfl⟩ rfl rfl rfl dX0_lower_36 ⟨Nat.zero_le _, Nat.zero_le _⟩ ?_
  exact z_vret h (rt_V hf hq) dX0_lower_39
set_option maxHeartbeats 4000000 in
set_option maxRecDepth 100000 in
theorem c_X0_lower (l : Launch) (G : ZG) {N : Nat} {x1 : Int32} {x2 : Int64} {x4 : Int64} {σ σ' : ZS} {r : Unit} (hf : f_X0_lower N x1 x2 x4 σ = some (r, σ')) : zMet l G yX0_lower cX0_lower 6 none rm_X0_lower [.ref (G.1 7), .int x1, .long x2, .long x4] σ none σ' := by
  refine z_met (by decide +kernel) rfl (fun Y h hq => ?_)
  have h : zOk (l, rm_X0_lower, 6, 0, 0) Y G cX0_lower RX0 none := h
  rw [f_X0_lower] at hf
  refine z_sub (lv' := [(0, .ref (G.1 7)), (1, .int x1), (2, .long x2), (4, .long x4)]) [0, 1, 2, 3] rfl ?_
  refine z_aload_n h dX0_lower_0 rfl 0 rfl ?_
  refine z_gfR h zC0 (d := 11) (c := 7) tg_7 ln_7 7 rfl ft_0_7 rf_7_7 wd_56 dX0_lower_1 ?_
  refine z_lload_n h dX0_lower_4 rfl 2 rfl ?_
  refine z_lload h dX0_lower_5 3 rfl ?_
  obtain ⟨v1, σ2, e2, hf⟩ := obd_out hf
  refine z_cV0 h (n := 2) (c_X1_put l G e2) zC1 tg_11 ln_11 rfl rfl wd_567 wd_518 wd_519 wd_25 wd_520 (by decide +kernel) ⟨rfl, rfl⟩ rfl rfl rfl dX0_lower_7 ⟨Nat.zero_le _, Nat.zero_le _⟩ ?_
  refine z_iload_n h dX0_lower_10 rfl 1 rfl ?_
  refine z_if_ne h (tgt := 28) dX0_lower_11 (by decide) (fun g3 => ?_) (fun g3 => ?_)
  · have hf := it_neg g3 hf
    exact z_sub [0] rfl (k_X0_lower_b28 h hq N _ hf)
  · have hf := it_pos g3 hf
    refine z_aload_n h dX0_lower_14 rfl 0 rfl ?_
    refine z_gfR h zC0 (d := 11) (c := 7) tg_7 ln_7 7 rfl ft_0_7 rf_7_7 wd_56 dX0_lower_15 ?_
    refine z_aload_n h dX0_lower_18 rfl 0 rfl ?_
    refine z_gfR h zC0 (d := 9) (c := 7) tg_7 ln_7 5 rfl ft_0_5 rf_7_5 wd_54 dX0_lower_19 ?_
    obtain ⟨v6, σ7, e7, hf⟩ := obd_out hf
    refine z_cVv h (n := 1) (c_X1_isBelow l G e7) zC1 tg_11 ln_11 rfl rfl wd_597 wd_598 wd_599 wd_25 wd_600 (by decide +kernel) ⟨rfl, rfl⟩ rfl rfl rfl dX0_lower_22 ⟨Nat.zero_le _, Nat.zero_le _⟩ ?_
    refine z_if_eq h (tgt := 39) dX0_lower_25 (by decide) (fun g8 => ?_) (fun g8 => ?_)
    · have hf := it_pos g8 hf
      exact z_vret h (rt_V hf hq) dX0_lower_39
    · have hf := it_neg g8 hf
      exact z_sub [0] rfl (k_X0_lower_b28 h hq N _ hf)
theorem dX0_raise_0 : decode cX0_raise 0 = .ok (.aload_n 0, 1) := by decide +kernel
theorem dX0_raise_1 : decode cX0_raise 1 = .ok (.getfield 41, 3) := by decide +kernel
theorem dX0_raise_4 : decode cX0_raise 4 = .ok (.lload_n 2, 1) := by decide +kernel
theorem dX0_raise_5 : decode cX0_raise 5 = .ok (.lload 4, 2) := by decide +kernel
theorem dX0_raise_7 : decode cX0_raise 7 = .ok (.invokevirtual 86, 3) := by decide +kernel
theorem dX0_raise_10 : decode cX0_raise 10 = .ok (.iload_n 1, 1) := by decide +kernel
theorem dX0_raise_11 : decode cX0_raise 11 = .ok (.ifCond .ne 17, 3) := by decide +kernel
theorem dX0_raise_14 : decode cX0_raise 14 = .ok (.aload_n 0, 1) := by decide +kernel
theorem dX0_raise_15 : decode cX0_raise 15 = .ok (.getfield 38, 3) := by decide +kernel
theorem dX0_raise_18 : decode cX0_raise 18 = .ok (.aload_n 0, 1) := by decide +kernel
theorem dX0_raise_19 : decode cX0_raise 19 = .ok (.getfield 41, 3) := by decide +kernel
theorem dX0_raise_22 : decode cX0_raise 22 = .ok (.invokevirtual 97, 3) := by decide +kernel
theorem dX0_raise_25 : decode cX0_raise 25 = .ok (.ifCond .eq 14, 3) := by decide +kernel
theorem dX0_raise_28 : decode cX0_raise 28 = .ok (.aload_n 0, 1) := by decide +kernel
theorem dX0_raise_29 : decode cX0_raise 29 = .ok (.getfield 38, 3) := by decide +kernel
theorem dX0_raise_32 : decode cX0_raise 32 = .ok (.aload_n 0, 1) := by decide +kernel
theorem dX0_raise_33 : decode cX0_raise 33 = .ok (.getfield 41, 3) := by decide +kernel
theorem dX0_raise_36 : decode cX0_raise 36 = .ok (.invokevirtual 101, 3) := by decide +kernel
theorem dX0_raise_39 : decode cX0_raise 39 = .ok (.return_, 1) := by decide +kernel
abbrev rm_X0_raise : Room := { frames := 2, cells := 0, slots := 0, locals := 79 }
noncomputable def f_X0_raise_b28 (N : Nat) (σ : ZS) : Option (Unit × ZS) := obd (f_X1_copyFrom N 10 11 σ) fun _ σ5 => some ((), σ5)
noncomputable def f_X0_raise (N : Nat) (x1 : Int32) (x2 : Int64) (x4 : Int64) (σ : ZS) : Option (Unit × ZS) := obd (f_X1_put N 11 x2 x4 σ) fun _ σ2 => (if x1 = 0 then obd (f_X1_isBelow N 10 11 σ2) fun v6 σ7 => (if v6 = 0 then some ((), σ7) else f_X0_raise_b28 N σ7) else f_X0_raise_b28 N σ2)
set_option maxHeartbeats 4000000 in
set_option maxRecDepth 100000 in
theorem k_X0_raise_b28 {l : Launch} {Y : ZY} {G : ZG} {σ' : ZS} (h : zOk (l, rm_X0_raise, 6, 0, 0) Y G cX0_raise RX0 none) (hq : zRet (l, rm_X0_raise, 6, 0, 0) Y G none σ') (N : Nat) (σ : ZS) (hf : f_X0_raise_b28 N σ = some ((), σ')) : Z (l, rm_X0_raise, 6, 0, 0) Y G σ [(0, .ref (G.1 7))] [] 28 := by
  rw [f_X0_raise_b28] at hf
  refine z_aload_n h dX0_raise_28 rfl 0 rfl ?_
  refine z_gfR h zC0 (d := 10) (c := 7) tg_7 ln_7 6 rfl ft_0_6 rf_7_6 wd_55 dX0_raise_29 ?_
  refine z_aload_n h dX0_raise_32 rfl 0 rfl ?_
  refine z_gfR h zC0 (d := 11) (c := 7) tg_7 ln_7 7 rfl ft_0_7 rf_7_7 wd_56 dX0_raise_33 ?_
  obtain ⟨v4, σ5, e5, hf⟩ := obd_out hf
  refine z_cV0 h (n := 1) (c_X1_copyFrom l G e5) zC1 tg_10 ln_10 rfl rfl wd_605 wd_606 wd_607 wd_25 wd_608 (by decide +kernel) ⟨rfl, rfl⟩ rfl rfl rfl dX0_raise_36 ⟨Nat.zero_le _, Nat.zero_le _⟩ ?_
  exact z_vret h (rt_V hf hq) dX0_raise_39
set_option maxHeartbeats 4000000 in
set_option maxRecDepth 100000 in
theorem c_X0_raise (l : Launch) (G : ZG) {N : Nat} {x1 : Int32} {x2 : Int64} {x4 : Int64} {σ σ' : ZS} {r : Unit} (hf : f_X0_raise N x1 x2 x4 σ = some (r, σ')) : zMet l G yX0_raise cX0_raise 6 none rm_X0_raise [.ref (G.1 7), .int x1, .long x2, .long x4] σ none σ' := by
  refine z_met (by decide +kernel) rfl (fun Y h hq => ?_)
  have h : zOk (l, rm_X0_raise, 6, 0, 0) Y G cX0_raise RX0 none := h
  rw [f_X0_raise] at hf
  refine z_sub (lv' := [(0, .ref (G.1 7)), (1, .int x1), (2, .long x2), (4, .long x4)]) [0, 1, 2, 3] rfl ?_
  refine z_aload_n h dX0_raise_0 rfl 0 rfl ?_
  refine z_gfR h zC0 (d := 11) (c := 7) tg_7 ln_7 7 rfl ft_0_7 rf_7_7 wd_56 dX0_raise_1 ?_
  refine z_lload_n h dX0_raise_4 rfl 2 rfl ?_
  refine z_lload h dX0_raise_5 3 rfl ?_
  obtain ⟨v1, σ2, e2, hf⟩ := obd_out hf
  refine z_cV0 h (n := 2) (c_X1_put l G e2) zC1 tg_11 ln_11 rfl rfl wd_567 wd_518 wd_519 wd_25 wd_520 (by decide +kernel) ⟨rfl, rfl⟩ rfl rfl rfl dX0_raise_7 ⟨Nat.zero_le _, Nat.zero_le _⟩ ?_
  refine z_iload_n h dX0_raise_10 rfl 1 rfl ?_
  refine z_if_ne h (tgt := 28) dX0_raise_11 (by decide) (fun g3 => ?_) (fun g3 => ?_)
  · have hf := it_neg g3 hf
    exact z_sub [0] rfl (k_X0_raise_b28 h hq N _ hf)
  · have hf := it_pos g3 hf
    refine z_aload_n h dX0_raise_14 rfl 0 rfl ?_
    refine z_gfR h zC0 (d := 10) (c := 7) tg_7 ln_7 6 rfl ft_0_6 rf_7_6 wd_55 dX0_raise_15 ?_
    refine z_aload_n h dX0_raise_18 rfl 0 rfl ?_
    refine z_gfR h zC0 (d := 11) (c := 7) tg_7 ln_7 7 rfl ft_0_7 rf_7_7 wd_56 dX0_raise_19 ?_
    obtain ⟨v6, σ7, e7, hf⟩ := obd_out hf
    refine z_cVv h (n := 1) (c_X1_isBelow l G e7) zC1 tg_10 ln_10 rfl rfl wd_597 wd_598 wd_599 wd_25 wd_600 (by decide +kernel) ⟨rfl, rfl⟩ rfl rfl rfl dX0_raise_22 ⟨Nat.zero_le _, Nat.zero_le _⟩ ?_
    refine z_if_eq h (tgt := 39) dX0_raise_25 (by decide) (fun g8 => ?_) (fun g8 => ?_)
    · have hf := it_pos g8 hf
      exact z_vret h (rt_V hf hq) dX0_raise_39
    · have hf := it_neg g8 hf
      exact z_sub [0] rfl (k_X0_raise_b28 h hq N _ hf)
theorem dX0_range_0 : decode cX0_range 0 = .ok (.iconst 0, 1) := by decide +kernel
theorem dX0_range_1 : decode cX0_range 1 = .ok (.istore 4, 2) := by decide +kernel
theorem dX0_range_3 : decode cX0_range 3 = .ok (.iconst 0, 1) := by decide +kernel
theorem dX0_range_4 : decode cX0_range 4 = .ok (.istore 5, 2) := by decide +kernel
theorem dX0_range_6 : decode cX0_range 6 = .ok (.iload 5, 2) := by decide +kernel
theorem dX0_range_8 : decode cX0_range 8 = .ok (.aload_n 0, 1) := by decide +kernel
theorem dX0_range_9 : decode cX0_range 9 = .ok (.getfield 12, 3) := by decide +kernel
theorem dX0_range_12 : decode cX0_range 12 = .ok (.getfield 61, 3) := by decide +kernel
theorem dX0_range_15 : decode cX0_range 15 = .ok (.if_icmp .ge 150, 3) := by decide +kernel
theorem dX0_range_18 : decode cX0_range 18 = .ok (.aload_n 0, 1) := by decide +kernel
theorem dX0_range_19 : decode cX0_range 19 = .ok (.getfield 27, 3) := by decide +kernel
theorem dX0_range_22 : decode cX0_range 22 = .ok (.iload 5, 2) := by decide +kernel
theorem dX0_range_24 : decode cX0_range 24 = .ok (.laload, 1) := by decide +kernel
theorem dX0_range_25 : decode cX0_range 25 = .ok (.iload_n 3, 1) := by decide +kernel
theorem dX0_range_26 : decode cX0_range 26 = .ok (.i2l, 1) := by decide +kernel
theorem dX0_range_27 : decode cX0_range 27 = .ok (.aload_n 0, 1) := by decide +kernel
theorem dX0_range_28 : decode cX0_range 28 = .ok (.getfield 12, 3) := by decide +kernel
theorem dX0_range_31 : decode cX0_range 31 = .ok (.iload 5, 2) := by decide +kernel
theorem dX0_range_33 : decode cX0_range 33 = .ok (.iload_n 2, 1) := by decide +kernel
theorem dX0_range_34 : decode cX0_range 34 = .ok (.invokevirtual 64, 3) := by decide +kernel
theorem dX0_range_37 : decode cX0_range 37 = .ok (.lmul, 1) := by decide +kernel
theorem dX0_range_38 : decode cX0_range 38 = .ok (.ladd, 1) := by decide +kernel
theorem dX0_range_39 : decode cX0_range 39 = .ok (.lstore 6, 2) := by decide +kernel
theorem dX0_range_41 : decode cX0_range 41 = .ok (.aload_n 0, 1) := by decide +kernel
theorem dX0_range_42 : decode cX0_range 42 = .ok (.getfield 24, 3) := by decide +kernel
theorem dX0_range_45 : decode cX0_range 45 = .ok (.iload_n 1, 1) := by decide +kernel
theorem dX0_range_46 : decode cX0_range 46 = .ok (.aaload, 1) := by decide +kernel
theorem dX0_range_47 : decode cX0_range 47 = .ok (.iload 5, 2) := by decide +kernel
theorem dX0_range_49 : decode cX0_range 49 = .ok (.laload, 1) := by decide +kernel
theorem dX0_range_50 : decode cX0_range 50 = .ok (.invokestatic 80, 3) := by decide +kernel
theorem dX0_range_53 : decode cX0_range 53 = .ok (.lstore 8, 2) := by decide +kernel
theorem dX0_range_55 : decode cX0_range 55 = .ok (.aload_n 0, 1) := by decide +kernel
theorem dX0_range_56 : decode cX0_range 56 = .ok (.getfield 24, 3) := by decide +kernel
theorem dX0_range_59 : decode cX0_range 59 = .ok (.iload_n 1, 1) := by decide +kernel
theorem dX0_range_60 : decode cX0_range 60 = .ok (.aaload, 1) := by decide +kernel
theorem dX0_range_61 : decode cX0_range 61 = .ok (.iload 5, 2) := by decide +kernel
theorem dX0_range_63 : decode cX0_range 63 = .ok (.laload, 1) := by decide +kernel
theorem dX0_range_64 : decode cX0_range 64 = .ok (.lconst 0, 1) := by decide +kernel
theorem dX0_range_65 : decode cX0_range 65 = .ok (.lcmp, 1) := by decide +kernel
theorem dX0_range_66 : decode cX0_range 66 = .ok (.ifCond .ge 16, 3) := by decide +kernel
theorem dX0_range_69 : decode cX0_range 69 = .ok (.aload_n 0, 1) := by decide +kernel
theorem dX0_range_70 : decode cX0_range 70 = .ok (.getfield 24, 3) := by decide +kernel
theorem dX0_range_73 : decode cX0_range 73 = .ok (.iconst 0, 1) := by decide +kernel
theorem dX0_range_74 : decode cX0_range 74 = .ok (.aaload, 1) := by decide +kernel
theorem dX0_range_75 : decode cX0_range 75 = .ok (.iload 5, 2) := by decide +kernel
theorem dX0_range_77 : decode cX0_range 77 = .ok (.laload, 1) := by decide +kernel
theorem dX0_range_78 : decode cX0_range 78 = .ok (.lneg, 1) := by decide +kernel
theorem dX0_range_79 : decode cX0_range 79 = .ok (.goto 12, 3) := by decide +kernel
theorem dX0_range_82 : decode cX0_range 82 = .ok (.aload_n 0, 1) := by decide +kernel
theorem dX0_range_83 : decode cX0_range 83 = .ok (.getfield 24, 3) := by decide +kernel
theorem dX0_range_86 : decode cX0_range 86 = .ok (.iconst 0, 1) := by decide +kernel
theorem dX0_range_87 : decode cX0_range 87 = .ok (.aaload, 1) := by decide +kernel
theorem dX0_range_88 : decode cX0_range 88 = .ok (.iload 5, 2) := by decide +kernel
theorem dX0_range_90 : decode cX0_range 90 = .ok (.laload, 1) := by decide +kernel
theorem dX0_range_91 : decode cX0_range 91 = .ok (.lstore 10, 2) := by decide +kernel
theorem dX0_range_93 : decode cX0_range 93 = .ok (.lload 8, 2) := by decide +kernel
theorem dX0_range_95 : decode cX0_range 95 = .ok (.lconst 0, 1) := by decide +kernel
theorem dX0_range_96 : decode cX0_range 96 = .ok (.lcmp, 1) := by decide +kernel
theorem dX0_range_97 : decode cX0_range 97 = .ok (.ifCond .ne 16, 3) := by decide +kernel
theorem dX0_range_100 : decode cX0_range 100 = .ok (.lload 10, 2) := by decide +kernel
theorem dX0_range_102 : decode cX0_range 102 = .ok (.invokestatic 80, 3) := by decide +kernel
theorem dX0_range_105 : decode cX0_range 105 = .ok (.lload 6, 2) := by decide +kernel
theorem dX0_range_107 : decode cX0_range 107 = .ok (.lcmp, 1) := by decide +kernel
theorem dX0_range_108 : decode cX0_range 108 = .ok (.ifCond .le 51, 3) := by decide +kernel
theorem dX0_range_111 : decode cX0_range 111 = .ok (.iconst 2, 1) := by decide +kernel
theorem dX0_range_112 : decode cX0_range 112 = .ok (.ireturn, 1) := by decide +kernel
theorem dX0_range_113 : decode cX0_range 113 = .ok (.aload_n 0, 1) := by decide +kernel
theorem dX0_range_114 : decode cX0_range 114 = .ok (.iload 4, 2) := by decide +kernel
theorem dX0_range_116 : decode cX0_range 116 = .ok (.ifCond .ne 7, 3) := by decide +kernel
theorem dX0_range_119 : decode cX0_range 119 = .ok (.iconst 1, 1) := by decide +kernel
theorem dX0_range_120 : decode cX0_range 120 = .ok (.goto 4, 3) := by decide +kernel
theorem dX0_range_123 : decode cX0_range 123 = .ok (.iconst 0, 1) := by decide +kernel
theorem dX0_range_124 : decode cX0_range 124 = .ok (.lload 6, 2) := by decide +kernel
theorem dX0_range_126 : decode cX0_range 126 = .ok (.lload 10, 2) := by decide +kernel
theorem dX0_range_128 : decode cX0_range 128 = .ok (.lsub, 1) := by decide +kernel
theorem dX0_range_129 : decode cX0_range 129 = .ok (.lload 8, 2) := by decide +kernel
theorem dX0_range_131 : decode cX0_range 131 = .ok (.invokevirtual 90, 3) := by decide +kernel
theorem dX0_range_134 : decode cX0_range 134 = .ok (.aload_n 0, 1) := by decide +kernel
theorem dX0_range_135 : decode cX0_range 135 = .ok (.iload 4, 2) := by decide +kernel
theorem dX0_range_137 : decode cX0_range 137 = .ok (.ifCond .ne 7, 3) := by decide +kernel
theorem dX0_range_140 : decode cX0_range 140 = .ok (.iconst 1, 1) := by decide +kernel
theorem dX0_range_141 : decode cX0_range 141 = .ok (.goto 4, 3) := by decide +kernel
theorem dX0_range_144 : decode cX0_range 144 = .ok (.iconst 0, 1) := by decide +kernel
theorem dX0_range_145 : decode cX0_range 145 = .ok (.lload 6, 2) := by decide +kernel
theorem dX0_range_147 : decode cX0_range 147 = .ok (.lneg, 1) := by decide +kernel
theorem dX0_range_148 : decode cX0_range 148 = .ok (.lload 10, 2) := by decide +kernel
theorem dX0_range_150 : decode cX0_range 150 = .ok (.lsub, 1) := by decide +kernel
theorem dX0_range_151 : decode cX0_range 151 = .ok (.lload 8, 2) := by decide +kernel
theorem dX0_range_153 : decode cX0_range 153 = .ok (.invokevirtual 94, 3) := by decide +kernel
theorem dX0_range_156 : decode cX0_range 156 = .ok (.iconst 1, 1) := by decide +kernel
theorem dX0_range_157 : decode cX0_range 157 = .ok (.istore 4, 2) := by decide +kernel
theorem dX0_range_159 : decode cX0_range 159 = .ok (.iinc 5 1, 3) := by decide +kernel
theorem dX0_range_162 : decode cX0_range 162 = .ok (.goto (-156), 3) := by decide +kernel
theorem dX0_range_165 : decode cX0_range 165 = .ok (.iload 4, 2) := by decide +kernel
theorem dX0_range_167 : decode cX0_range 167 = .ok (.ifCond .ne 5, 3) := by decide +kernel
theorem dX0_range_170 : decode cX0_range 170 = .ok (.iconst 1, 1) := by decide +kernel
theorem dX0_range_171 : decode cX0_range 171 = .ok (.ireturn, 1) := by decide +kernel
theorem dX0_range_172 : decode cX0_range 172 = .ok (.aload_n 0, 1) := by decide +kernel
theorem dX0_range_173 : decode cX0_range 173 = .ok (.getfield 34, 3) := by decide +kernel
theorem dX0_range_176 : decode cX0_range 176 = .ok (.aload_n 0, 1) := by decide +kernel
theorem dX0_range_177 : decode cX0_range 177 = .ok (.getfield 38, 3) := by decide +kernel
theorem dX0_range_180 : decode cX0_range 180 = .ok (.invokevirtual 97, 3) := by decide +kernel
theorem dX0_range_183 : decode cX0_range 183 = .ok (.ifCond .eq 7, 3) := by decide +kernel
theorem dX0_range_186 : decode cX0_range 186 = .ok (.iconst 2, 1) := by decide +kernel
theorem dX0_range_187 : decode cX0_range 187 = .ok (.goto 4, 3) := by decide +kernel
theorem dX0_range_190 : decode cX0_range 190 = .ok (.iconst 0, 1) := by decide +kernel
theorem dX0_range_191 : decode cX0_range 191 = .ok (.ireturn, 1) := by decide +kernel
abbrev rm_X0_range : Room := { frames := 3, cells := 0, slots := 0, locals := 112 }
noncomputable def f_X0_range_b159 (N : Nat) (kb6 : Int32 → Int32 → ZS → Option (Int32 × ZS)) (x1 : Int32) (x2 : Int32) (x3 : Int32) (x4 : Int32) (x5 : Int32) (σ : ZS) : Option (Int32 × ZS) := bd (x5 + (1 : Int32)) fun v29 => kb6 x4 v29 σ
noncomputable def f_X0_range_b145 (N : Nat) (kb6 : Int32 → Int32 → ZS → Option (Int32 × ZS)) (x1 : Int32) (x2 : Int32) (x3 : Int32) (x5 : Int32) (x6 : Int64) (x8 : Int64) (x10 : Int64) (s1 : Int32) (σ : ZS) : Option (Int32 × ZS) := obd (f_X0_raise N s1 ((-x6) - x10) x8 σ) fun _ σ28 => f_X0_range_b159 N kb6 x1 x2 x3 (1 : Int32) x5 σ28
noncomputable def f_X0_range_b124 (N : Nat) (kb6 : Int32 → Int32 → ZS → Option (Int32 × ZS)) (x1 : Int32) (x2 : Int32) (x3 : Int32) (x4 : Int32) (x5 : Int32) (x6 : Int64) (x8 : Int64) (x10 : Int64) (s1 : Int32) (σ : ZS) : Option (Int32 × ZS) := obd (f_X0_lower N s1 (x6 - x10) x8 σ) fun _ σ25 => (if x4 = 0 then f_X0_range_b145 N kb6 x1 x2 x3 x5 x6 x8 x10 (1 : Int32) σ25 else f_X0_range_b145 N kb6 x1 x2 x3 x5 x6 x8 x10 (0 : Int32) σ25)
noncomputable def f_X0_range_b91 (N : Nat) (kb6 : Int32 → Int32 → ZS → Option (Int32 × ZS)) (x1 : Int32) (x2 : Int32) (x3 : Int32) (x4 : Int32) (x5 : Int32) (x6 : Int64) (x8 : Int64) (s0 : Int64) (σ : ZS) : Option (Int32 × ZS) := (if x8 = (0 : Int64) then obd (f_ABS N s0 σ) fun v30 σ31 => (if x6 < v30 then some ((2 : Int32), σ31) else f_X0_range_b159 N kb6 x1 x2 x3 x4 x5 σ31) else (if x4 = 0 then f_X0_range_b124 N kb6 x1 x2 x3 x4 x5 x6 x8 s0 (1 : Int32) σ else f_X0_range_b124 N kb6 x1 x2 x3 x4 x5 x6 x8 s0 (0 : Int32) σ))
noncomputable def f_X0_range_h6 (N : Nat) (x1 : Int32) (x2 : Int32) (x3 : Int32) : Nat → Int32 → Int32 → ZS → Option (Int32 × ZS)
  | 0, _, _, _ => none
  | n + 1, x4, x5, σ => (if (gI σ 6 3) ≤ x5 then (if x4 = 0 then some ((1 : Int32), σ) else obd (f_X1_isBelow N 9 10 σ) fun v3 σ4 => (if v3 = 0 then some ((0 : Int32), σ4) else some ((2 : Int32), σ4))) else ck (inb x5 924) (obd (f_X3_bend N x5 x2 σ) fun v7 σ8 => bd ((gJ σ 61 (x5.toNatClampNeg)) + ((x3.toInt64) * v7)) fun v9 => ck (inb x1 3) (ck (tg (62 + x1.toNatClampNeg) == 2) (ck (inb x5 (ln (62 + x1.toNatClampNeg))) (obd (f_ABS N (gJ σ8 (62 + x1.toNatClampNeg) (x5.toNatClampNeg)) σ8) fun v13 σ14 => ck (inb x1 3) (ck (tg (62 + x1.toNatClampNeg) == 2) (ck (inb x5 (ln (62 + x1.toNatClampNeg))) ((if (gJ σ14 (62 + x1.toNatClampNeg) (x5.toNatClampNeg)) < (0 : Int64) then ck (inb (0 : Int32) 3) (ck (tg (62 + (0 : Int32).toNatClampNeg) == 2) (ck (inb x5 (ln (62 + (0 : Int32).toNatClampNeg))) (f_X0_range_b91 N (fun x4_ x5_ σ_ => f_X0_range_h6 N x1 x2 x3 n x4_ x5_ σ_) x1 x2 x3 x4 x5 v9 v13 (-(gJ σ14 (62 + (0 : Int32).toNatClampNeg) (x5.toNatClampNeg))) σ14))) else ck (inb (0 : Int32) 3) (ck (tg (62 + (0 : Int32).toNatClampNeg) == 2) (ck (inb x5 (ln (62 + (0 : Int32).toNatClampNeg))) (f_X0_range_b91 N (fun x4_ x5_ σ_ => f_X0_range_h6 N x1 x2 x3 n x4_ x5_ σ_) x1 x2 x3 x4 x5 v9 v13 (gJ σ14 (62 + (0 : Int32).toNatClampNeg) (x5.toNatClampNeg)) σ14))))))))))))
noncomputable def f_X0_range (N : Nat) (x1 : Int32) (x2 : Int32) (x3 : Int32) (σ : ZS) : Option (Int32 × ZS) := f_X0_range_h6 N x1 x2 x3 N (0 : Int32) (0 : Int32) σ
set_option maxHeartbeats 4000000 in
set_option maxRecDepth 100000 in
theorem k_X0_range_b159 {l : Launch} {Y : ZY} {G : ZG} {r : Int32} {σ' : ZS} (h : zOk (l, rm_X0_range, 12, 0, 0) Y G cX0_range RX0 (some .int)) (hq : zRet (l, rm_X0_range, 12, 0, 0) Y G (some (.int r)) σ') (N : Nat) {kb6 : Int32 → Int32 → ZS → Option (Int32 × ZS)} (x1 : Int32) (x2 : Int32) (x3 : Int32) (x4 : Int32) (x5 : Int32) (hb6 : ∀ (x4_ : Int32) (x5_ : Int32) (σ_ : ZS), kb6 x4_ x5_ σ_ = some (r, σ') → Z (l, rm_X0_range, 12, 0, 0) Y G σ_ [(0, .ref (G.1 7)), (1, .int x1), (2, .int x2), (3, .int x3), (4, .int x4_), (5, .int x5_)] [] 6) (σ : ZS) (hf : f_X0_range_b159 N kb6 x1 x2 x3 x4 x5 σ = some (r, σ')) : Z (l, rm_X0_range, 12, 0, 0) Y G σ [(0, .ref (G.1 7)), (1, .int x1), (2, .int x2), (3, .int x3), (4, .int x4), (5, .int x5)] [] 159 := by
  rw [f_X0_range_b159] at hf
  obtain ⟨v29, ev29, hf⟩ := bd_ex hf
  refine z_iinc h (v := v29) (lv' := [(5, .int v29), (0, .ref (G.1 7)), (1, .int x1), (2, .int x2), (3, .int x3), (4, .int x4)]) dX0_range_159 5 rfl (by rw [ev29]; rfl) rfl rfl ?_
  refine z_goto h (tgt := 6) dX0_range_162 (by decide) ?_
  exact z_sub [1, 2, 3, 4, 5, 0] rfl (hb6 _ _ _ hf)
set_option maxHeartbeats 4000000 in
set_option maxRecDepth 100000 in
theorem k_X0_range_b145 {l : Launch} {Y : ZY} {G : ZG} {r : Int32} {σ' : ZS} (h : zOk (l, rm_X0_range, 12, 0, 0) Y G cX0_range RX0 (some .int)) (hq : zRet (l, rm_X0_range, 12, 0, 0) Y G (some (.int r)) σ') (N : Nat) {kb6 : Int32 → Int32 → ZS → Option (Int32 × ZS)} (x1 : Int32) (x2 : Int32) (x3 : Int32) (x5 : Int32) (x6 : Int64) (x8 : Int64) (x10 : Int64) (s1 : Int32) (hb6 : ∀ (x4_ : Int32) (x5_ : Int32) (σ_ : ZS), kb6 x4_ x5_ σ_ = some (r, σ') → Z (l, rm_X0_range, 12, 0, 0) Y G σ_ [(0, .ref (G.1 7)), (1, .int x1), (2, .int x2), (3, .int x3), (4, .int x4_), (5, .int x5_)] [] 6) (σ : ZS) (hf : f_X0_range_b145 N kb6 x1 x2 x3 x5 x6 x8 x10 s1 σ = some (r, σ')) : Z (l, rm_X0_range, 12, 0, 0) Y G σ [(0, .ref (G.1 7)), (1, .int x1), (2, .int x2), (3, .int x3), (5, .int x5), (6, .long x6), (8, .long x8), (10, .long x10)] [.int s1, .ref (G.1 7)] 145 := by
  rw [f_X0_range_b145] at hf
  refine z_lload h dX0_range_145 5 rfl ?_
  refine z_lneg h dX0_range_147 ?_
  refine z_lload h dX0_range_148 7 rfl ?_
  refine z_lsub h dX0_range_150 ?_
  refine z_lload h dX0_range_151 6 rfl ?_
  obtain ⟨v27, σ28, e28, hf⟩ := obd_out hf
  refine z_cV0 h (n := 3) (c_X0_raise l G e28) zC0 tg_7 ln_7 rfl rfl wd_609 wd_610 wd_611 wd_19 wd_612 (by decide +kernel) ⟨rfl, rfl⟩ rfl rfl rfl dX0_range_153 ⟨Nat.zero_le _, Nat.zero_le _⟩ ?_
  refine z_iconst h (v := (1 : Int32)) dX0_range_156 ic_1 ?_
  refine z_istore h dX0_range_157 (lv' := [(4, .int (1 : Int32)), (0, .ref (G.1 7)), (1, .int x1), (2, .int x2), (3, .int x3), (5, .int x5), (6, .long x6), (8, .long x8), (10, .long x10)]) rfl rfl ?_
  exact z_sub [1, 2, 3, 4, 0, 5] rfl (k_X0_range_b159 h hq N x1 x2 x3 (1 : Int32) x5 hb6 _ hf)
set_option maxHeartbeats 4000000 in
set_option maxRecDepth 100000 in
theorem k_X0_range_b124 {l : Launch} {Y : ZY} {G : ZG} {r : Int32} {σ' : ZS} (h : zOk (l, rm_X0_range, 12, 0, 0) Y G cX0_range RX0 (some .int)) (hq : zRet (l, rm_X0_range, 12, 0, 0) Y G (some (.int r)) σ') (N : Nat) {kb6 : Int32 → Int32 → ZS → Option (Int32 × ZS)} (x1 : Int32) (x2 : Int32) (x3 : Int32) (x4 : Int32) (x5 : Int32) (x6 : Int64) (x8 : Int64) (x10 : Int64) (s1 : Int32) (hb6 : ∀ (x4_ : Int32) (x5_ : Int32) (σ_ : ZS), kb6 x4_ x5_ σ_ = some (r, σ') → Z (l, rm_X0_range, 12, 0, 0) Y G σ_ [(0, .ref (G.1 7)), (1, .int x1), (2, .int x2), (3, .int x3), (4, .int x4_), (5, .int x5_)] [] 6) (σ : ZS) (hf : f_X0_range_b124 N kb6 x1 x2 x3 x4 x5 x6 x8 x10 s1 σ = some (r, σ')) : Z (l, rm_X0_range, 12, 0, 0) Y G σ [(0, .ref (G.1 7)), (1, .int x1), (2, .int x2), (3, .int x3), (4, .int x4), (5, .int x5), (6, .long x6), (8, .long x8), (10, .long x10)] [.int s1, .ref (G.1 7)] 124 := by
  rw [f_X0_range_b124] at hf
  refine z_lload h dX0_range_124 6 rfl ?_
  refine z_lload h dX0_range_126 8 rfl ?_
  refine z_lsub h dX0_range_128 ?_
  refine z_lload h dX0_range_129 7 rfl ?_
  obtain ⟨v24, σ25, e25, hf⟩ := obd_out hf
  refine z_cV0 h (n := 3) (c_X0_lower l G e25) zC0 tg_7 ln_7 rfl rfl wd_593 wd_594 wd_595 wd_19 wd_596 (by decide +kernel) ⟨rfl, rfl⟩ rfl rfl rfl dX0_range_131 ⟨Nat.zero_le _, Nat.zero_le _⟩ ?_
  refine z_aload_n h dX0_range_134 rfl 0 rfl ?_
  refine z_iload h dX0_range_135 4 rfl ?_
  refine z_if_ne h (tgt := 144) dX0_range_137 (by decide) (fun g26 => ?_) (fun g26 => ?_)
  · have hf := it_neg g26 hf
    refine z_iconst h (v := (0 : Int32)) dX0_range_144 ic_0 ?_
    exact z_sub [0, 1, 2, 3, 5, 6, 7, 8] rfl (k_X0_range_b145 h hq N x1 x2 x3 x5 x6 x8 x10 (0 : Int32) hb6 _ hf)
  · have hf := it_pos g26 hf
    refine z_iconst h (v := (1 : Int32)) dX0_range_140 ic_1 ?_
    refine z_goto h (tgt := 145) dX0_range_141 (by decide) ?_
    exact z_sub [0, 1, 2, 3, 5, 6, 7, 8] rfl (k_X0_range_b145 h hq N x1 x2 x3 x5 x6 x8 x10 (1 : Int32) hb6 _ hf)
set_option maxHeartbeats 4000000 in
set_option maxRecDepth 100000 in
theorem k_X0_range_b91 {l : Launch} {Y : ZY} {G : ZG} {r : Int32} {σ' : ZS} (h : zOk (l, rm_X0_range, 12, 0, 0) Y G cX0_range RX0 (some .int)) (hq : zRet (l, rm_X0_range, 12, 0, 0) Y G (some (.int r)) σ') (N : Nat) {kb6 : Int32 → Int32 → ZS → Option (Int32 × ZS)} (x1 : Int32) (x2 : Int32) (x3 : Int32) (x4 : Int32) (x5 : Int32) (x6 : Int64) (x8 : Int64) (s0 : Int64) (hb6 : ∀ (x4_ : Int32) (x5_ : Int32) (σ_ : ZS), kb6 x4_ x5_ σ_ = some (r, σ') → Z (l, rm_X0_range, 12, 0, 0) Y G σ_ [(0, .ref (G.1 7)), (1, .int x1), (2, .int x2), (3, .int x3), (4, .int x4_), (5, .int x5_)] [] 6) (σ : ZS) (hf : f_X0_range_b91 N kb6 x1 x2 x3 x4 x5 x6 x8 s0 σ = some (r, σ')) : Z (l, rm_X0_range, 12, 0, 0) Y G σ [(0, .ref (G.1 7)), (1, .int x1), (2, .int x2), (3, .int x3), (4, .int x4), (5, .int x5), (6, .long x6), (8, .long x8)] [.long s0] 91 := by
  rw [f_X0_range_b91] at hf
  refine z_lstore h dX0_range_91 (lv' := [(10, .long s0), (0, .ref (G.1 7)), (1, .int x1), (2, .int x2), (3, .int x3), (4, .int x4), (5, .int x5), (6, .long x6), (8, .long x8)]) rfl rfl ?_
  refine z_lload h dX0_range_93 8 rfl ?_
  refine z_lconst h (v := (0 : Int64)) dX0_range_95 lc_0 ?_
  refine z_lif_ne h (tgt := 113) dX0_range_96 dX0_range_97 (by decide) (fun g22 => ?_) (fun g22 => ?_)
  · have hf := it_neg g22 hf
    refine z_aload_n h dX0_range_113 rfl 1 rfl ?_
    refine z_iload h dX0_range_114 5 rfl ?_
    refine z_if_ne h (tgt := 123) dX0_range_116 (by decide) (fun g23 => ?_) (fun g23 => ?_)
    · have hf := it_neg g23 hf
      refine z_iconst h (v := (0 : Int32)) dX0_range_123 ic_0 ?_
      exact z_sub [1, 2, 3, 4, 5, 6, 7, 8, 0] rfl (k_X0_range_b124 h hq N x1 x2 x3 x4 x5 x6 x8 s0 (0 : Int32) hb6 _ hf)
    · have hf := it_pos g23 hf
      refine z_iconst h (v := (1 : Int32)) dX0_range_119 ic_1 ?_
      refine z_goto h (tgt := 124) dX0_range_120 (by decide) ?_
      exact z_sub [1, 2, 3, 4, 5, 6, 7, 8, 0] rfl (k_X0_range_b124 h hq N x1 x2 x3 x4 x5 x6 x8 s0 (1 : Int32) hb6 _ hf)
  · have hf := it_pos g22 hf
    refine z_lload h dX0_range_100 0 rfl ?_
    obtain ⟨v30, σ31, e31, hf⟩ := obd_out hf
    refine z_cSv h (n := 1) (c_ABS l G e31) rfl wd_566 wd_338 wd_339 wd_340 (by decide +kernel) ⟨rfl, rfl⟩ rfl rfl rfl dX0_range_102 ⟨Nat.zero_le _, Nat.zero_le _⟩ ?_
    refine z_lload h dX0_range_105 7 rfl ?_
    refine z_lif_le h (tgt := 159) dX0_range_107 dX0_range_108 (by decide) (fun g32 => ?_) (fun g32 => ?_)
    · have hf := it_neg g32 hf
      exact z_sub [1, 2, 3, 4, 5, 6] rfl (k_X0_range_b159 h hq N x1 x2 x3 x4 x5 hb6 _ hf)
    · have hf := it_pos g32 hf
      refine z_iconst h (v := (2 : Int32)) dX0_range_111 ic_2 ?_
      exact z_iret h (rt_I hf hq) dX0_range_112
set_option maxHeartbeats 4000000 in
set_option maxRecDepth 100000 in
theorem k_X0_range_h6 {l : Launch} {Y : ZY} {G : ZG} {r : Int32} {σ' : ZS} (h : zOk (l, rm_X0_range, 12, 0, 0) Y G cX0_range RX0 (some .int)) (hq : zRet (l, rm_X0_range, 12, 0, 0) Y G (some (.int r)) σ') (N : Nat) (x1 : Int32) (x2 : Int32) (x3 : Int32) : ∀ (n : Nat) (x4 : Int32) (x5 : Int32) (σ : ZS), f_X0_range_h6 N x1 x2 x3 n x4 x5 σ = some (r, σ') → Z (l, rm_X0_range, 12, 0, 0) Y G σ [(0, .ref (G.1 7)), (1, .int x1), (2, .int x2), (3, .int x3), (4, .int x4), (5, .int x5)] [] 6 := by
  intro n
  induction n with
  | zero =>
    intro x4 x5 σ hf
    rw [f_X0_range_h6] at hf
    cases hf
  | succ n ih =>
    intro x4 x5 σ hf
    rw [f_X0_range_h6] at hf
    refine z_iload h dX0_range_6 5 rfl ?_
    refine z_aload_n h dX0_range_8 rfl 0 rfl ?_
    refine z_gfR h zC0 (d := 6) (c := 7) tg_7 ln_7 0 rfl ft_0_0 rf_7_0 wd_47 dX0_range_9 ?_
    refine z_gfIN h zC3 (c := 6) tg_6 ln_6 3 rfl ft_3_3 (by decide +kernel) dX0_range_12 ?_
    refine z_icmp_ge h (tgt := 165) dX0_range_15 (by decide) (fun g1 => ?_) (fun g1 => ?_)
    · have hf := it_pos g1 hf
      refine z_iload h dX0_range_165 4 rfl ?_
      refine z_if_ne h (tgt := 172) dX0_range_167 (by decide) (fun g2 => ?_) (fun g2 => ?_)
      · have hf := it_neg g2 hf
        refine z_aload_n h dX0_range_172 rfl 0 rfl ?_
        refine z_gfR h zC0 (d := 9) (c := 7) tg_7 ln_7 5 rfl ft_0_5 rf_7_5 wd_54 dX0_range_173 ?_
        refine z_aload_n h dX0_range_176 rfl 0 rfl ?_
        refine z_gfR h zC0 (d := 10) (c := 7) tg_7 ln_7 6 rfl ft_0_6 rf_7_6 wd_55 dX0_range_177 ?_
        obtain ⟨v3, σ4, e4, hf⟩ := obd_out hf
        refine z_cVv h (n := 1) (c_X1_isBelow l G e4) zC1 tg_9 ln_9 rfl rfl wd_597 wd_598 wd_599 wd_25 wd_600 (by decide +kernel) ⟨rfl, rfl⟩ rfl rfl rfl dX0_range_180 ⟨Nat.zero_le _, Nat.zero_le _⟩ ?_
        refine z_if_eq h (tgt := 190) dX0_range_183 (by decide) (fun g5 => ?_) (fun g5 => ?_)
        · have hf := it_pos g5 hf
          refine z_iconst h (v := (0 : Int32)) dX0_range_190 ic_0 ?_
          exact z_iret h (rt_I hf hq) dX0_range_191
        · have hf := it_neg g5 hf
          refine z_iconst h (v := (2 : Int32)) dX0_range_186 ic_2 ?_
          refine z_goto h (tgt := 191) dX0_range_187 (by decide) ?_
          exact z_iret h (rt_I hf hq) dX0_range_191
      · have hf := it_pos g2 hf
        refine z_iconst h (v := (1 : Int32)) dX0_range_170 ic_1 ?_
        exact z_iret h (rt_I hf hq) dX0_range_171
    · have hf := it_neg g1 hf
      refine z_aload_n h dX0_range_18 rfl 0 rfl ?_
      refine z_gfR h zC0 (d := 61) (c := 7) tg_7 ln_7 4 rfl ft_0_4 rf_7_4 wd_52 dX0_range_19 ?_
      refine z_iload h dX0_range_22 5 rfl ?_
      obtain ⟨g6, hf⟩ := ck_out hf
      refine z_lald h (c := 61) tg_61 ln_61 g6 dX0_range_24 ?_
      refine z_iload_n h dX0_range_25 rfl 3 rfl ?_
      refine z_i2l h dX0_range_26 ?_
      refine z_aload_n h dX0_range_27 rfl 0 rfl ?_
      refine z_gfR h zC0 (d := 6) (c := 7) tg_7 ln_7 0 rfl ft_0_0 rf_7_0 wd_47 dX0_range_28 ?_
      refine z_iload h dX0_range_31 5 rfl ?_
      refine z_iload_n h dX0_range_33 rfl 2 rfl ?_
      obtain ⟨v7, σ8, e8, hf⟩ := obd_out hf
      refine z_cVv h (n := 2) (c_X3_bend l G e8) zC3 tg_6 ln_6 rfl rfl wd_396 wd_397 wd_398 wd_46 wd_399 (by decide +kernel) ⟨rfl, rfl⟩ rfl rfl rfl dX0_range_34 ⟨Nat.zero_le _, Nat.zero_le _⟩ ?_
      refine z_lmul h dX0_range_37 ?_
      refine z_ladd h dX0_range_38 ?_
      refine z_topJ (fun v9 ev9 => ?_)
      have hf := bd_to ev9 hf
      refine z_lstore h dX0_range_39 (lv' := [(6, .long v9), (0, .ref (G.1 7)), (1, .int x1), (2, .int x2), (3, .int x3), (4, .int x4), (5, .int x5)]) rfl rfl ?_
      refine z_aload_n h dX0_range_41 rfl 1 rfl ?_
      refine z_gfR h zC0 (d := 19) (c := 7) tg_7 ln_7 3 rfl ft_0_3 rf_7_3 wd_51 dX0_range_42 ?_
      refine z_iload_n h dX0_range_45 rfl 2 rfl ?_
      obtain ⟨g10, hf⟩ := ck_out hf
      refine z_aald h (c := 19) (d := 62 + x1.toNatClampNeg) tg_19 rfl ln_19 rfl g10 dX0_range_46 ?_
      refine z_iload h dX0_range_47 6 rfl ?_
      obtain ⟨g11, hf⟩ := ck_out hf
      obtain ⟨g12, hf⟩ := ck_out hf
      refine z_lald h (eq_of_beq g11) rfl g12 dX0_range_49 ?_
      obtain ⟨v13, σ14, e14, hf⟩ := obd_out hf
      refine z_cSv h (n := 1) (c_ABS l G e14) rfl wd_566 wd_338 wd_339 wd_340 (by decide +kernel) ⟨rfl, rfl⟩ rfl rfl rfl dX0_range_50 ⟨Nat.zero_le _, Nat.zero_le _⟩ ?_
      refine z_lstore h dX0_range_53 (lv' := [(8, .long v13), (6, .long v9), (0, .ref (G.1 7)), (1, .int x1), (2, .int x2), (3, .int x3), (4, .int x4), (5, .int x5)]) rfl rfl ?_
      refine z_aload_n h dX0_range_55 rfl 2 rfl ?_
      refine z_gfR h zC0 (d := 19) (c := 7) tg_7 ln_7 3 rfl ft_0_3 rf_7_3 wd_51 dX0_range_56 ?_
      refine z_iload_n h dX0_range_59 rfl 3 rfl ?_
      obtain ⟨g15, hf⟩ := ck_out hf
      refine z_aald h (c := 19) (d := 62 + x1.toNatClampNeg) tg_19 rfl ln_19 rfl g15 dX0_range_60 ?_
      refine z_iload h dX0_range_61 7 rfl ?_
      obtain ⟨g16, hf⟩ := ck_out hf
      obtain ⟨g17, hf⟩ := ck_out hf
      refine z_lald h (eq_of_beq g16) rfl g17 dX0_range_63 ?_
      refine z_lconst h (v := (0 : Int64)) dX0_range_64 lc_0 ?_
      refine z_lif_ge h (tgt := 82) dX0_range_65 dX0_range_66 (by decide) (fun g18 => ?_) (fun g18 => ?_)
      · have hf := it_neg g18 hf
        refine z_aload_n h dX0_range_82 rfl 2 rfl ?_
        refine z_gfR h zC0 (d := 19) (c := 7) tg_7 ln_7 3 rfl ft_0_3 rf_7_3 wd_51 dX0_range_83 ?_
        refine z_iconst h (v := (0 : Int32)) dX0_range_86 ic_0 ?_
        obtain ⟨g19, hf⟩ := ck_out hf
        refine z_aald h (c := 19) (d := 62 + (0 : Int32).toNatClampNeg) tg_19 rfl ln_19 rfl g19 dX0_range_87 ?_
        refine z_iload h dX0_range_88 7 rfl ?_
        obtain ⟨g20, hf⟩ := ck_out hf
        obtain ⟨g21, hf⟩ := ck_out hf
        refine z_lald h (eq_of_beq g20) rfl g21 dX0_range_90 ?_
        exact z_sub [2, 3, 4, 5, 6, 7, 1, 0] rfl (k_X0_range_b91 h hq N x1 x2 x3 x4 x5 v9 v13 (gJ σ14 (62 + (0 : Int32).toNatClampNeg) (x5.toNatClampNeg)) (fun x4_ x5_ σ_ hf_ => ih x4_ x5_ σ_ hf_) _ hf)
      · have hf := it_pos g18 hf
        refine z_aload_n h dX0_range_69 rfl 2 rfl ?_
        refine z_gfR h zC0 (d := 19) (c := 7) tg_7 ln_7 3 rfl ft_0_3 rf_7_3 wd_51 dX0_range_70 ?_
        refine z_iconst h (v := (0 : Int32)) dX0_range_73 ic_0 ?_
        obtain ⟨g33, hf⟩ := ck_out hf
        refine z_aald h (c := 19) (d := 62 + (0 : Int32).toNatClampNeg) tg_19 rfl ln_19 rfl g33 dX0_range_74 ?_
        refine z_iload h dX0_range_75 7 rfl ?_
        obtain ⟨g34, hf⟩ := ck_out hf
        obtain ⟨g35, hf⟩ := ck_out hf
        refine z_lald h (eq_of_beq g34) rfl g35 dX0_range_77 ?_
        refine z_lneg h dX0_range_78 ?_
        refine z_goto h (tgt := 91) dX0_range_79 (by decide) ?_
        exact z_sub [2, 3, 4, 5, 6, 7, 1, 0] rfl (k_X0_range_b91 h hq N x1 x2 x3 x4 x5 v9 v13 (-(gJ σ14 (62 + (0 : Int32).toNatClampNeg) (x5.toNatClampNeg))) (fun x4_ x5_ σ_ hf_ => ih x4_ x5_ σ_ hf_) _ hf)
set_option maxHeartbeats 4000000 in
set_option maxRecDepth 100000 in
theorem c_X0_range (l : Launch) (G : ZG) {N : Nat} {x1 : Int32} {x2 : Int32} {x3 : Int32} {σ σ' : ZS} {r : Int32} (hf : f_X0_range N x1 x2 x3 σ = some (r, σ')) : zMet l G yX0_range cX0_range 12 (some .int) rm_X0_range [.ref (G.1 7), .int x1, .int x2, .int x3] σ (some (.int r)) σ' := by
  refine z_met (by decide +kernel) rfl (fun Y h hq => ?_)
  have h : zOk (l, rm_X0_range, 12, 0, 0) Y G cX0_range RX0 (some .int) := h
  rw [f_X0_range] at hf
  refine z_sub (lv' := [(0, .ref (G.1 7)), (1, .int x1), (2, .int x2), (3, .int x3)]) [0, 1, 2, 3] rfl ?_
  refine z_iconst h (v := (0 : Int32)) dX0_range_0 ic_0 ?_
  refine z_istore h dX0_range_1 (lv' := [(4, .int (0 : Int32)), (0, .ref (G.1 7)), (1, .int x1), (2, .int x2), (3, .int x3)]) rfl rfl ?_
  refine z_iconst h (v := (0 : Int32)) dX0_range_3 ic_0 ?_
  refine z_istore h dX0_range_4 (lv' := [(5, .int (0 : Int32)), (4, .int (0 : Int32)), (0, .ref (G.1 7)), (1, .int x1), (2, .int x2), (3, .int x3)]) rfl rfl ?_
  exact z_sub [2, 3, 4, 5, 1, 0] rfl (k_X0_range_h6 h hq N x1 x2 x3 _ _ _ _ hf)
theorem dX0_carries_0 : decode cX0_carries 0 = .ok (.iconst 0, 1) := by decide +kernel
theorem dX0_carries_1 : decode cX0_carries 1 = .ok (.istore 4, 2) := by decide +kernel
theorem dX0_carries_3 : decode cX0_carries 3 = .ok (.iload 4, 2) := by decide +kernel
theorem dX0_carries_5 : decode cX0_carries 5 = .ok (.aload_n 0, 1) := by decide +kernel
theorem dX0_carries_6 : decode cX0_carries 6 = .ok (.getfield 12, 3) := by decide +kernel
theorem dX0_carries_9 : decode cX0_carries 9 = .ok (.getfield 61, 3) := by decide +kernel
theorem dX0_carries_12 : decode cX0_carries 12 = .ok (.if_icmp .ge 70, 3) := by decide +kernel
theorem dX0_carries_15 : decode cX0_carries 15 = .ok (.aload_n 0, 1) := by decide +kernel
theorem dX0_carries_16 : decode cX0_carries 16 = .ok (.getfield 24, 3) := by decide +kernel
theorem dX0_carries_19 : decode cX0_carries 19 = .ok (.iconst 0, 1) := by decide +kernel
theorem dX0_carries_20 : decode cX0_carries 20 = .ok (.aaload, 1) := by decide +kernel
theorem dX0_carries_21 : decode cX0_carries 21 = .ok (.iload 4, 2) := by decide +kernel
theorem dX0_carries_23 : decode cX0_carries 23 = .ok (.laload, 1) := by decide +kernel
theorem dX0_carries_24 : decode cX0_carries 24 = .ok (.iload_n 3, 1) := by decide +kernel
theorem dX0_carries_25 : decode cX0_carries 25 = .ok (.i2l, 1) := by decide +kernel
theorem dX0_carries_26 : decode cX0_carries 26 = .ok (.lmul, 1) := by decide +kernel
theorem dX0_carries_27 : decode cX0_carries 27 = .ok (.aload_n 0, 1) := by decide +kernel
theorem dX0_carries_28 : decode cX0_carries 28 = .ok (.getfield 24, 3) := by decide +kernel
theorem dX0_carries_31 : decode cX0_carries 31 = .ok (.iconst 1, 1) := by decide +kernel
theorem dX0_carries_32 : decode cX0_carries 32 = .ok (.aaload, 1) := by decide +kernel
theorem dX0_carries_33 : decode cX0_carries 33 = .ok (.iload 4, 2) := by decide +kernel
theorem dX0_carries_35 : decode cX0_carries 35 = .ok (.laload, 1) := by decide +kernel
theorem dX0_carries_36 : decode cX0_carries 36 = .ok (.iload_n 1, 1) := by decide +kernel
theorem dX0_carries_37 : decode cX0_carries 37 = .ok (.i2l, 1) := by decide +kernel
theorem dX0_carries_38 : decode cX0_carries 38 = .ok (.lmul, 1) := by decide +kernel
theorem dX0_carries_39 : decode cX0_carries 39 = .ok (.ladd, 1) := by decide +kernel
theorem dX0_carries_40 : decode cX0_carries 40 = .ok (.aload_n 0, 1) := by decide +kernel
theorem dX0_carries_41 : decode cX0_carries 41 = .ok (.getfield 24, 3) := by decide +kernel
theorem dX0_carries_44 : decode cX0_carries 44 = .ok (.iconst 2, 1) := by decide +kernel
theorem dX0_carries_45 : decode cX0_carries 45 = .ok (.aaload, 1) := by decide +kernel
theorem dX0_carries_46 : decode cX0_carries 46 = .ok (.iload 4, 2) := by decide +kernel
theorem dX0_carries_48 : decode cX0_carries 48 = .ok (.laload, 1) := by decide +kernel
theorem dX0_carries_49 : decode cX0_carries 49 = .ok (.iload_n 2, 1) := by decide +kernel
theorem dX0_carries_50 : decode cX0_carries 50 = .ok (.i2l, 1) := by decide +kernel
theorem dX0_carries_51 : decode cX0_carries 51 = .ok (.lmul, 1) := by decide +kernel
theorem dX0_carries_52 : decode cX0_carries 52 = .ok (.ladd, 1) := by decide +kernel
theorem dX0_carries_53 : decode cX0_carries 53 = .ok (.lstore 5, 2) := by decide +kernel
theorem dX0_carries_55 : decode cX0_carries 55 = .ok (.lload 5, 2) := by decide +kernel
theorem dX0_carries_57 : decode cX0_carries 57 = .ok (.invokestatic 80, 3) := by decide +kernel
theorem dX0_carries_60 : decode cX0_carries 60 = .ok (.aload_n 0, 1) := by decide +kernel
theorem dX0_carries_61 : decode cX0_carries 61 = .ok (.getfield 27, 3) := by decide +kernel
theorem dX0_carries_64 : decode cX0_carries 64 = .ok (.iload 4, 2) := by decide +kernel
theorem dX0_carries_66 : decode cX0_carries 66 = .ok (.laload, 1) := by decide +kernel
theorem dX0_carries_67 : decode cX0_carries 67 = .ok (.iload_n 3, 1) := by decide +kernel
theorem dX0_carries_68 : decode cX0_carries 68 = .ok (.i2l, 1) := by decide +kernel
theorem dX0_carries_69 : decode cX0_carries 69 = .ok (.lmul, 1) := by decide +kernel
theorem dX0_carries_70 : decode cX0_carries 70 = .ok (.lcmp, 1) := by decide +kernel
theorem dX0_carries_71 : decode cX0_carries 71 = .ok (.ifCond .le 5, 3) := by decide +kernel
theorem dX0_carries_74 : decode cX0_carries 74 = .ok (.iconst 0, 1) := by decide +kernel
theorem dX0_carries_75 : decode cX0_carries 75 = .ok (.ireturn, 1) := by decide +kernel
theorem dX0_carries_76 : decode cX0_carries 76 = .ok (.iinc 4 1, 3) := by decide +kernel
theorem dX0_carries_79 : decode cX0_carries 79 = .ok (.goto (-76), 3) := by decide +kernel
theorem dX0_carries_82 : decode cX0_carries 82 = .ok (.iconst 1, 1) := by decide +kernel
theorem dX0_carries_83 : decode cX0_carries 83 = .ok (.ireturn, 1) := by decide +kernel
abbrev rm_X0_carries : Room := { frames := 1, cells := 0, slots := 0, locals := 29 }
noncomputable def f_X0_carries_h3 (N : Nat) (x1 : Int32) (x2 : Int32) (x3 : Int32) : Nat → Int32 → ZS → Option (Int32 × ZS)
  | 0, _, _ => none
  | n + 1, x4, σ => (if (gI σ 6 3) ≤ x4 then some ((1 : Int32), σ) else ck (inb (0 : Int32) 3) (ck (tg (62 + (0 : Int32).toNatClampNeg) == 2) (ck (inb x4 (ln (62 + (0 : Int32).toNatClampNeg))) (ck (inb (1 : Int32) 3) (ck (tg (62 + (1 : Int32).toNatClampNeg) == 2) (ck (inb x4 (ln (62 + (1 : Int32).toNatClampNeg))) (ck (inb (2 : Int32) 3) (ck (tg (62 + (2 : Int32).toNatClampNeg) == 2) (ck (inb x4 (ln (62 + (2 : Int32).toNatClampNeg))) (bd ((((gJ σ (62 + (0 : Int32).toNatClampNeg) (x4.toNatClampNeg)) * (x3.toInt64)) + ((gJ σ (62 + (1 : Int32).toNatClampNeg) (x4.toNatClampNeg)) * (x1.toInt64))) + ((gJ σ (62 + (2 : Int32).toNatClampNeg) (x4.toNatClampNeg)) * (x2.toInt64))) fun v11 => obd (f_ABS N v11 σ) fun v12 σ13 => ck (inb x4 924) ((if ((gJ σ13 61 (x4.toNatClampNeg)) * (x3.toInt64)) < v12 then some ((0 : Int32), σ13) else bd (x4 + (1 : Int32)) fun v16 => f_X0_carries_h3 N x1 x2 x3 n v16 σ13))))))))))))
noncomputable def f_X0_carries (N : Nat) (x1 : Int32) (x2 : Int32) (x3 : Int32) (σ : ZS) : Option (Int32 × ZS) := f_X0_carries_h3 N x1 x2 x3 N (0 : Int32) σ
set_option maxHeartbeats 4000000 in
set_option maxRecDepth 100000 in
theorem k_X0_carries_h3 {l : Launch} {Y : ZY} {G : ZG} {r : Int32} {σ' : ZS} (h : zOk (l, rm_X0_carries, 7, 0, 0) Y G cX0_carries RX0 (some .boolean)) (hq : zRet (l, rm_X0_carries, 7, 0, 0) Y G (some (.int r)) σ') (N : Nat) (x1 : Int32) (x2 : Int32) (x3 : Int32) : ∀ (n : Nat) (x4 : Int32) (σ : ZS), f_X0_carries_h3 N x1 x2 x3 n x4 σ = some (r, σ') → Z (l, rm_X0_carries, 7, 0, 0) Y G σ [(0, .ref (G.1 7)), (1, .int x1), (2, .int x2), (3, .int x3), (4, .int x4)] [] 3 := by
  intro n
  induction n with
  | zero =>
    intro x4 σ hf
    rw [f_X0_carries_h3] at hf
    cases hf
  | succ n ih =>
    intro x4 σ hf
    rw [f_X0_carries_h3] at hf
    refine z_iload h dX0_carries_3 4 rfl ?_
    refine z_aload_n h dX0_carries_5 rfl 0 rfl ?_
    refine z_gfR h zC0 (d := 6) (c := 7) tg_7 ln_7 0 rfl ft_0_0 rf_7_0 wd_47 dX0_carries_6 ?_
    refine z_gfIN h zC3 (c := 6) tg_6 ln_6 3 rfl ft_3_3 (by decide +kernel) dX0_carries_9 ?_
    refine z_icmp_ge h (tgt := 82) dX0_carries_12 (by decide) (fun g1 => ?_) (fun g1 => ?_)
    · have hf := it_pos g1 hf
      refine z_iconst h (v := (1 : Int32)) dX0_carries_82 ic_1 ?_
      exact z_zret h rfl (rt_I hf hq) dX0_carries_83
    · have hf := it_neg g1 hf
      refine z_aload_n h dX0_carries_15 rfl 0 rfl ?_
      refine z_gfR h zC0 (d := 19) (c := 7) tg_7 ln_7 3 rfl ft_0_3 rf_7_3 wd_51 dX0_carries_16 ?_
      refine z_iconst h (v := (0 : Int32)) dX0_carries_19 ic_0 ?_
      obtain ⟨g2, hf⟩ := ck_out hf
      refine z_aald h (c := 19) (d := 62 + (0 : Int32).toNatClampNeg) tg_19 rfl ln_19 rfl g2 dX0_carries_20 ?_
      refine z_iload h dX0_carries_21 4 rfl ?_
      obtain ⟨g3, hf⟩ := ck_out hf
      obtain ⟨g4, hf⟩ := ck_out hf
      refine z_lald h (eq_of_beq g3) rfl g4 dX0_carries_23 ?_
      refine z_iload_n h dX0_carries_24 rfl 3 rfl ?_
      refine z_i2l h dX0_carries_25 ?_
      refine z_lmul h dX0_carries_26 ?_
      refine z_aload_n h dX0_carries_27 rfl 0 rfl ?_
      refine z_gfR h zC0 (d := 19) (c := 7) tg_7 ln_7 3 rfl ft_0_3 rf_7_3 wd_51 dX0_carries_28 ?_
      refine z_iconst h (v := (1 : Int32)) dX0_carries_31 ic_1 ?_
      obtain ⟨g5, hf⟩ := ck_out hf
      refine z_aald h (c := 19) (d := 62 + (1 : Int32).toNatClampNeg) tg_19 rfl ln_19 rfl g5 dX0_carries_32 ?_
      refine z_iload h dX0_carries_33 4 rfl ?_
      obtain ⟨g6, hf⟩ := ck_out hf
      obtain ⟨g7, hf⟩ := ck_out hf
      refine z_lald h (eq_of_beq g6) rfl g7 dX0_carries_35 ?_
      refine z_iload_n h dX0_carries_36 rfl 1 rfl ?_
      refine z_i2l h dX0_carries_37 ?_
      refine z_lmul h dX0_carries_38 ?_
      refine z_ladd h dX0_carries_39 ?_
      refine z_aload_n h dX0_carries_40 rfl 0 rfl ?_
      refine z_gfR h zC0 (d := 19) (c := 7) tg_7 ln_7 3 rfl ft_0_3 rf_7_3 wd_51 dX0_carries_41 ?_
      refine z_iconst h (v := (2 : Int32)) dX0_carries_44 ic_2 ?_
      obtain ⟨g8, hf⟩ := ck_out hf
      refine z_aald h (c := 19) (d := 62 + (2 : Int32).toNatClampNeg) tg_19 rfl ln_19 rfl g8 dX0_carries_45 ?_
      refine z_iload h dX0_carries_46 4 rfl ?_
      obtain ⟨g9, hf⟩ := ck_out hf
      obtain ⟨g10, hf⟩ := ck_out hf
      refine z_lald h (eq_of_beq g9) rfl g10 dX0_carries_48 ?_
      refine z_iload_n h dX0_carries_49 rfl 2 rfl ?_
      refine z_i2l h dX0_carries_50 ?_
      refine z_lmul h dX0_carries_51 ?_
      refine z_ladd h dX0_carries_52 ?_
      refine z_topJ (fun v11 ev11 => ?_)
      have hf := bd_to ev11 hf
      refine z_lstore h dX0_carries_53 (lv' := [(5, .long v11), (0, .ref (G.1 7)), (1, .int x1), (2, .int x2), (3, .int x3), (4, .int x4)]) rfl rfl ?_
      refine z_lload h dX0_carries_55 0 rfl ?_
      obtain ⟨v12, σ13, e13, hf⟩ := obd_out hf
      refine z_cSv h (n := 1) (c_ABS l G e13) rfl wd_566 wd_338 wd_339 wd_340 (by decide +kernel) ⟨rfl, rfl⟩ rfl rfl rfl dX0_carries_57 ⟨Nat.zero_le _, Nat.zero_le _⟩ ?_
      refine z_aload_n h dX0_carries_60 rfl 1 rfl ?_
      refine z_gfR h zC0 (d := 61) (c := 7) tg_7 ln_7 4 rfl ft_0_4 rf_7_4 wd_52 dX0_carries_61 ?_
      refine z_iload h dX0_carries_64 5 rfl ?_
      obtain ⟨g14, hf⟩ := ck_out hf
      refine z_lald h (c := 61) tg_61 ln_61 g14 dX0_carries_66 ?_
      refine z_iload_n h dX0_carries_67 rfl 4 rfl ?_
      refine z_i2l h dX0_carries_68 ?_
      refine z_lmul h dX0_carries_69 ?_
      refine z_lif_le h (tgt := 76) dX0_carries_70 dX0_carries_71 (by decide) (fun g15 => ?_) (fun g15 => ?_)
      · have hf := it_neg g15 hf
        obtain ⟨v16, ev16, hf⟩ := bd_ex hf
        refine z_iinc h (v := v16) (lv' := [(4, .int v16), (5, .long v11), (0, .ref (G.1 7)), (1, .int x1), (2, .int x2), (3, .int x3)]) dX0_carries_76 5 rfl (by rw [ev16]; rfl) rfl rfl ?_
        refine z_goto h (tgt := 3) dX0_carries_79 (by decide) ?_
        exact z_sub [2, 3, 4, 5, 0] rfl (ih _ _ hf)
      · have hf := it_pos g15 hf
        refine z_iconst h (v := (0 : Int32)) dX0_carries_74 ic_0 ?_
        exact z_zret h rfl (rt_I hf hq) dX0_carries_75
set_option maxHeartbeats 4000000 in
set_option maxRecDepth 100000 in
theorem c_X0_carries (l : Launch) (G : ZG) {N : Nat} {x1 : Int32} {x2 : Int32} {x3 : Int32} {σ σ' : ZS} {r : Int32} (hf : f_X0_carries N x1 x2 x3 σ = some (r, σ')) : zMet l G yX0_carries cX0_carries 7 (some .boolean) rm_X0_carries [.ref (G.1 7), .int x1, .int x2, .int x3] σ (some (.int r)) σ' := by
  refine z_met (by decide +kernel) rfl (fun Y h hq => ?_)
  have h : zOk (l, rm_X0_carries, 7, 0, 0) Y G cX0_carries RX0 (some .boolean) := h
  rw [f_X0_carries] at hf
  refine z_sub (lv' := [(0, .ref (G.1 7)), (1, .int x1), (2, .int x2), (3, .int x3)]) [0, 1, 2, 3] rfl ?_
  refine z_iconst h (v := (0 : Int32)) dX0_carries_0 ic_0 ?_
  refine z_istore h dX0_carries_1 (lv' := [(4, .int (0 : Int32)), (0, .ref (G.1 7)), (1, .int x1), (2, .int x2), (3, .int x3)]) rfl rfl ?_
  exact z_sub [1, 2, 3, 4, 0] rfl (k_X0_carries_h3 h hq N x1 x2 x3 _ _ _ hf)
theorem dX0_takeLimitLoads_0 : decode cX0_takeLimitLoads 0 = .ok (.aload_n 0, 1) := by decide +kernel
theorem dX0_takeLimitLoads_1 : decode cX0_takeLimitLoads 1 = .ok (.iload_n 1, 1) := by decide +kernel
theorem dX0_takeLimitLoads_2 : decode cX0_takeLimitLoads 2 = .ok (.putfield 105, 3) := by decide +kernel
theorem dX0_takeLimitLoads_5 : decode cX0_takeLimitLoads 5 = .ok (.aload_n 0, 1) := by decide +kernel
theorem dX0_takeLimitLoads_6 : decode cX0_takeLimitLoads 6 = .ok (.aload_n 0, 1) := by decide +kernel
theorem dX0_takeLimitLoads_7 : decode cX0_takeLimitLoads 7 = .ok (.iload_n 2, 1) := by decide +kernel
theorem dX0_takeLimitLoads_8 : decode cX0_takeLimitLoads 8 = .ok (.invokevirtual 72, 3) := by decide +kernel
theorem dX0_takeLimitLoads_11 : decode cX0_takeLimitLoads 11 = .ok (.iconst 0, 1) := by decide +kernel
theorem dX0_takeLimitLoads_12 : decode cX0_takeLimitLoads 12 = .ok (.invokevirtual 76, 3) := by decide +kernel
theorem dX0_takeLimitLoads_15 : decode cX0_takeLimitLoads 15 = .ok (.putfield 108, 3) := by decide +kernel
theorem dX0_takeLimitLoads_18 : decode cX0_takeLimitLoads 18 = .ok (.aload_n 0, 1) := by decide +kernel
theorem dX0_takeLimitLoads_19 : decode cX0_takeLimitLoads 19 = .ok (.aload_n 0, 1) := by decide +kernel
theorem dX0_takeLimitLoads_20 : decode cX0_takeLimitLoads 20 = .ok (.iload_n 2, 1) := by decide +kernel
theorem dX0_takeLimitLoads_21 : decode cX0_takeLimitLoads 21 = .ok (.invokevirtual 72, 3) := by decide +kernel
theorem dX0_takeLimitLoads_24 : decode cX0_takeLimitLoads 24 = .ok (.iconst 1, 1) := by decide +kernel
theorem dX0_takeLimitLoads_25 : decode cX0_takeLimitLoads 25 = .ok (.invokevirtual 76, 3) := by decide +kernel
theorem dX0_takeLimitLoads_28 : decode cX0_takeLimitLoads 28 = .ok (.putfield 112, 3) := by decide +kernel
theorem dX0_takeLimitLoads_31 : decode cX0_takeLimitLoads 31 = .ok (.return_, 1) := by decide +kernel
abbrev rm_X0_takeLimitLoads : Room := { frames := 4, cells := 0, slots := 0, locals := 126 }
noncomputable def f_X0_takeLimitLoads (N : Nat) (x1 : Int32) (x2 : Int32) (σ : ZS) : Option (Unit × ZS) := bd (sI σ 7 9 x1) fun σ1 => obd (f_X0_limit N x2 σ1) fun v2 σ3 => ck (isc v2 1) (obd (f_X1_lowestTerm N v2 (0 : Int32) σ3) fun v5 σ6 => bd (sJ σ6 7 10 v5) fun σ7 => obd (f_X0_limit N x2 σ7) fun v8 σ9 => ck (isc v8 1) (obd (f_X1_lowestTerm N v8 (1 : Int32) σ9) fun v11 σ12 => bd (sJ σ12 7 11 v11) fun σ13 => some ((), σ13)))
set_option maxHeartbeats 4000000 in
set_option maxRecDepth 100000 in
theorem c_X0_takeLimitLoads (l : Launch) (G : ZG) {N : Nat} {x1 : Int32} {x2 : Int32} {σ σ' : ZS} {r : Unit} (hf : f_X0_takeLimitLoads N x1 x2 σ = some (r, σ')) : zMet l G yX0_takeLimitLoads cX0_takeLimitLoads 3 none rm_X0_takeLimitLoads [.ref (G.1 7), .int x1, .int x2] σ none σ' := by
  refine z_met (by decide +kernel) rfl (fun Y h hq => ?_)
  have h : zOk (l, rm_X0_takeLimitLoads, 3, 0, 0) Y G cX0_takeLimitLoads RX0 none := h
  rw [f_X0_takeLimitLoads] at hf
  refine z_sub (lv' := [(0, .ref (G.1 7)), (1, .int x1), (2, .int x2)]) [0, 1, 2] rfl ?_
  refine z_aload_n h dX0_takeLimitLoads_0 rfl 0 rfl ?_
  refine z_iload_n h dX0_takeLimitLoads_1 rfl 1 rfl ?_
  refine z_pfI h zC0 (c := 7) tg_7 ln_7 9 rfl ft_0_9 wd_756 rfl (ty := .int) (by decide +kernel) rfl rfl dX0_takeLimitLoads_2 ?_
  refine z_gen (fun σ1 eσ1 => ?_)
  have hf := bd_to eσ1 hf
  refine z_aload_n h dX0_takeLimitLoads_5 rfl 0 rfl ?_
  refine z_aload_n h dX0_takeLimitLoads_6 rfl 0 rfl ?_
  refine z_iload_n h dX0_takeLimitLoads_7 rfl 2 rfl ?_
  obtain ⟨v2, σ3, e3, hf⟩ := obd_out hf
  refine z_cVv h (n := 1) (c_X0_limit l G e3) zC0 tg_7 ln_7 rfl rfl wd_572 wd_573 wd_574 wd_19 wd_575 (by decide +kernel) ⟨rfl, rfl⟩ rfl rfl rfl dX0_takeLimitLoads_8 ⟨Nat.zero_le _, Nat.zero_le _⟩ ?_
  refine z_iconst h (v := (0 : Int32)) dX0_takeLimitLoads_11 ic_0 ?_
  obtain ⟨g4, hf⟩ := ck_out hf
  obtain ⟨v5, σ6, e6, hf⟩ := obd_out hf
  refine z_cVv h (n := 1) (c_X1_lowestTerm l G e6) zC1 (isc_tg g4) (isc_ln g4) rfl rfl wd_576 wd_523 wd_524 wd_25 wd_525 (by decide +kernel) ⟨rfl, rfl⟩ rfl rfl rfl dX0_takeLimitLoads_12 ⟨Nat.zero_le _, Nat.zero_le _⟩ ?_
  refine z_pfJ h zC0 (c := 7) tg_7 ln_7 10 rfl ft_0_10 wd_757 rfl (ty := .long) (by decide +kernel) rfl rfl dX0_takeLimitLoads_15 ?_
  refine z_gen (fun σ7 eσ7 => ?_)
  have hf := bd_to eσ7 hf
  refine z_aload_n h dX0_takeLimitLoads_18 rfl 0 rfl ?_
  refine z_aload_n h dX0_takeLimitLoads_19 rfl 0 rfl ?_
  refine z_iload_n h dX0_takeLimitLoads_20 rfl 2 rfl ?_
  obtain ⟨v8, σ9, e9, hf⟩ := obd_out hf
  refine z_cVv h (n := 1) (c_X0_limit l G e9) zC0 tg_7 ln_7 rfl rfl wd_572 wd_573 wd_574 wd_19 wd_575 (by decide +kernel) ⟨rfl, rfl⟩ rfl rfl rfl dX0_takeLimitLoads_21 ⟨Nat.zero_le _, Nat.zero_le _⟩ ?_
  refine z_iconst h (v := (1 : Int32)) dX0_takeLimitLoads_24 ic_1 ?_
  obtain ⟨g10, hf⟩ := ck_out hf
  obtain ⟨v11, σ12, e12, hf⟩ := obd_out hf
  refine z_cVv h (n := 1) (c_X1_lowestTerm l G e12) zC1 (isc_tg g10) (isc_ln g10) rfl rfl wd_576 wd_523 wd_524 wd_25 wd_525 (by decide +kernel) ⟨rfl, rfl⟩ rfl rfl rfl dX0_takeLimitLoads_25 ⟨Nat.zero_le _, Nat.zero_le _⟩ ?_
  refine z_pfJ h zC0 (c := 7) tg_7 ln_7 11 rfl ft_0_11 wd_758 rfl (ty := .long) (by decide +kernel) rfl rfl dX0_takeLimitLoads_28 ?_
  refine z_gen (fun σ13 eσ13 => ?_)
  have hf := bd_to eσ13 hf
  exact z_vret h (rt_V hf hq) dX0_takeLimitLoads_31
theorem dX0_limitWork_0 : decode cX0_limitWork 0 = .ok (.aload_n 0, 1) := by decide +kernel
theorem dX0_limitWork_1 : decode cX0_limitWork 1 = .ok (.getfield 24, 3) := by decide +kernel
theorem dX0_limitWork_4 : decode cX0_limitWork 4 = .ok (.iconst 0, 1) := by decide +kernel
theorem dX0_limitWork_5 : decode cX0_limitWork 5 = .ok (.aaload, 1) := by decide +kernel
theorem dX0_limitWork_6 : decode cX0_limitWork 6 = .ok (.iload_n 1, 1) := by decide +kernel
theorem dX0_limitWork_7 : decode cX0_limitWork 7 = .ok (.laload, 1) := by decide +kernel
theorem dX0_limitWork_8 : decode cX0_limitWork 8 = .ok (.aload_n 0, 1) := by decide +kernel
theorem dX0_limitWork_9 : decode cX0_limitWork 9 = .ok (.getfield 112, 3) := by decide +kernel
theorem dX0_limitWork_12 : decode cX0_limitWork 12 = .ok (.lmul, 1) := by decide +kernel
theorem dX0_limitWork_13 : decode cX0_limitWork 13 = .ok (.aload_n 0, 1) := by decide +kernel
theorem dX0_limitWork_14 : decode cX0_limitWork 14 = .ok (.getfield 24, 3) := by decide +kernel
theorem dX0_limitWork_17 : decode cX0_limitWork 17 = .ok (.aload_n 0, 1) := by decide +kernel
theorem dX0_limitWork_18 : decode cX0_limitWork 18 = .ok (.getfield 105, 3) := by decide +kernel
theorem dX0_limitWork_21 : decode cX0_limitWork 21 = .ok (.aaload, 1) := by decide +kernel
theorem dX0_limitWork_22 : decode cX0_limitWork 22 = .ok (.iload_n 1, 1) := by decide +kernel
theorem dX0_limitWork_23 : decode cX0_limitWork 23 = .ok (.laload, 1) := by decide +kernel
theorem dX0_limitWork_24 : decode cX0_limitWork 24 = .ok (.aload_n 0, 1) := by decide +kernel
theorem dX0_limitWork_25 : decode cX0_limitWork 25 = .ok (.getfield 108, 3) := by decide +kernel
theorem dX0_limitWork_28 : decode cX0_limitWork 28 = .ok (.lmul, 1) := by decide +kernel
theorem dX0_limitWork_29 : decode cX0_limitWork 29 = .ok (.ladd, 1) := by decide +kernel
theorem dX0_limitWork_30 : decode cX0_limitWork 30 = .ok (.lreturn, 1) := by decide +kernel
abbrev rm_X0_limitWork : Room := { frames := 0, cells := 0, slots := 0, locals := 0 }
noncomputable def f_X0_limitWork (N : Nat) (x1 : Int32) (σ : ZS) : Option (Int64 × ZS) := ck (inb (0 : Int32) 3) (ck (tg (62 + (0 : Int32).toNatClampNeg) == 2) (ck (inb x1 (ln (62 + (0 : Int32).toNatClampNeg))) (ck (inb (gI σ 7 9) 3) (ck (tg (62 + (gI σ 7 9).toNatClampNeg) == 2) (ck (inb x1 (ln (62 + (gI σ 7 9).toNatClampNeg))) (some (((gJ σ (62 + (0 : Int32).toNatClampNeg) (x1.toNatClampNeg)) * (gJ σ 7 11)) + ((gJ σ (62 + (gI σ 7 9).toNatClampNeg) (x1.toNatClampNeg)) * (gJ σ 7 10)), σ)))))))
set_option maxHeartbeats 4000000 in
set_option maxRecDepth 100000 in
theorem c_X0_limitWork (l : Launch) (G : ZG) {N : Nat} {x1 : Int32} {σ σ' : ZS} {r : Int64} (hf : f_X0_limitWork N x1 σ = some (r, σ')) : zMet l G yX0_limitWork cX0_limitWork 2 (some .long) rm_X0_limitWork [.ref (G.1 7), .int x1] σ (some (.long r)) σ' := by
  refine z_met (by decide +kernel) rfl (fun Y h hq => ?_)
  have h : zOk (l, rm_X0_limitWork, 2, 0, 0) Y G cX0_limitWork RX0 (some .long) := h
  rw [f_X0_limitWork] at hf
  refine z_sub (lv' := [(0, .ref (G.1 7)), (1, .int x1)]) [0, 1] rfl ?_
  refine z_aload_n h dX0_limitWork_0 rfl 0 rfl ?_
  refine z_gfR h zC0 (d := 19) (c := 7) tg_7 ln_7 3 rfl ft_0_3 rf_7_3 wd_51 dX0_limitWork_1 ?_
  refine z_iconst h (v := (0 : Int32)) dX0_limitWork_4 ic_0 ?_
  obtain ⟨g1, hf⟩ := ck_out hf
  refine z_aald h (c := 19) (d := 62 + (0 : Int32).toNatClampNeg) tg_19 rfl ln_19 rfl g1 dX0_limitWork_5 ?_
  refine z_iload_n h dX0_limitWork_6 rfl 1 rfl ?_
  obtain ⟨g2, hf⟩ := ck_out hf
  obtain ⟨g3, hf⟩ := ck_out hf
  refine z_lald h (eq_of_beq g2) rfl g3 dX0_limitWork_7 ?_
  refine z_aload_n h dX0_limitWork_8 rfl 0 rfl ?_
  refine z_gfJ h zC0 (c := 7) tg_7 ln_7 11 rfl ft_0_11 wd_758 dX0_limitWork_9 ?_
  refine z_lmul h dX0_limitWork_12 ?_
  refine z_aload_n h dX0_limitWork_13 rfl 0 rfl ?_
  refine z_gfR h zC0 (d := 19) (c := 7) tg_7 ln_7 3 rfl ft_0_3 rf_7_3 wd_51 dX0_limitWork_14 ?_
  refine z_aload_n h dX0_limitWork_17 rfl 0 rfl ?_
  refine z_gfI h zC0 (c := 7) tg_7 ln_7 9 rfl ft_0_9 wd_756 dX0_limitWork_18 ?_
  obtain ⟨g4, hf⟩ := ck_out hf
  refine z_aald h (c := 19) (d := 62 + (gI σ 7 9).toNatClampNeg) tg_19 rfl ln_19 rfl g4 dX0_limitWork_21 ?_
  refine z_iload_n h dX0_limitWork_22 rfl 1 rfl ?_
  obtain ⟨g5, hf⟩ := ck_out hf
  obtain ⟨g6, hf⟩ := ck_out hf
  refine z_lald h (eq_of_beq g5) rfl g6 dX0_limitWork_23 ?_
  refine z_aload_n h dX0_limitWork_24 rfl 0 rfl ?_
  refine z_gfJ h zC0 (c := 7) tg_7 ln_7 10 rfl ft_0_10 wd_757 dX0_limitWork_25 ?_
  refine z_lmul h dX0_limitWork_28 ?_
  refine z_ladd h dX0_limitWork_29 ?_
  exact z_lret h (rt_J hf hq) dX0_limitWork_30
theorem dX0_findMoments_0 : decode cX0_findMoments 0 = .ok (.aload_n 0, 1) := by decide +kernel
theorem dX0_findMoments_1 : decode cX0_findMoments 1 = .ok (.getfield 18, 3) := by decide +kernel
theorem dX0_findMoments_4 : decode cX0_findMoments 4 = .ok (.iload_n 1, 1) := by decide +kernel
theorem dX0_findMoments_5 : decode cX0_findMoments 5 = .ok (.iconst 2, 1) := by decide +kernel
theorem dX0_findMoments_6 : decode cX0_findMoments 6 = .ok (.idiv, 1) := by decide +kernel
theorem dX0_findMoments_7 : decode cX0_findMoments 7 = .ok (.iaload, 1) := by decide +kernel
theorem dX0_findMoments_8 : decode cX0_findMoments 8 = .ok (.istore_n 2, 1) := by decide +kernel
theorem dX0_findMoments_9 : decode cX0_findMoments 9 = .ok (.aload_n 0, 1) := by decide +kernel
theorem dX0_findMoments_10 : decode cX0_findMoments 10 = .ok (.getfield 34, 3) := by decide +kernel
theorem dX0_findMoments_13 : decode cX0_findMoments 13 = .ok (.iload_n 2, 1) := by decide +kernel
theorem dX0_findMoments_14 : decode cX0_findMoments 14 = .ok (.i2l, 1) := by decide +kernel
theorem dX0_findMoments_15 : decode cX0_findMoments 15 = .ok (.lconst 1, 1) := by decide +kernel
theorem dX0_findMoments_16 : decode cX0_findMoments 16 = .ok (.invokevirtual 86, 3) := by decide +kernel
theorem dX0_findMoments_19 : decode cX0_findMoments 19 = .ok (.aload_n 0, 1) := by decide +kernel
theorem dX0_findMoments_20 : decode cX0_findMoments 20 = .ok (.getfield 38, 3) := by decide +kernel
theorem dX0_findMoments_23 : decode cX0_findMoments 23 = .ok (.iload_n 2, 1) := by decide +kernel
theorem dX0_findMoments_24 : decode cX0_findMoments 24 = .ok (.ineg, 1) := by decide +kernel
theorem dX0_findMoments_25 : decode cX0_findMoments 25 = .ok (.i2l, 1) := by decide +kernel
theorem dX0_findMoments_26 : decode cX0_findMoments 26 = .ok (.lconst 1, 1) := by decide +kernel
theorem dX0_findMoments_27 : decode cX0_findMoments 27 = .ok (.invokevirtual 86, 3) := by decide +kernel
theorem dX0_findMoments_30 : decode cX0_findMoments 30 = .ok (.iconst 0, 1) := by decide +kernel
theorem dX0_findMoments_31 : decode cX0_findMoments 31 = .ok (.istore_n 3, 1) := by decide +kernel
theorem dX0_findMoments_32 : decode cX0_findMoments 32 = .ok (.iload_n 3, 1) := by decide +kernel
theorem dX0_findMoments_33 : decode cX0_findMoments 33 = .ok (.aload_n 0, 1) := by decide +kernel
theorem dX0_findMoments_34 : decode cX0_findMoments 34 = .ok (.getfield 12, 3) := by decide +kernel
theorem dX0_findMoments_37 : decode cX0_findMoments 37 = .ok (.getfield 61, 3) := by decide +kernel
theorem dX0_findMoments_40 : decode cX0_findMoments 40 = .ok (.if_icmp .ge 110, 3) := by decide +kernel
theorem dX0_findMoments_43 : decode cX0_findMoments 43 = .ok (.aload_n 0, 1) := by decide +kernel
theorem dX0_findMoments_44 : decode cX0_findMoments 44 = .ok (.getfield 12, 3) := by decide +kernel
theorem dX0_findMoments_47 : decode cX0_findMoments 47 = .ok (.iload_n 3, 1) := by decide +kernel
theorem dX0_findMoments_48 : decode cX0_findMoments 48 = .ok (.iload_n 1, 1) := by decide +kernel
theorem dX0_findMoments_49 : decode cX0_findMoments 49 = .ok (.invokevirtual 115, 3) := by decide +kernel
theorem dX0_findMoments_52 : decode cX0_findMoments 52 = .ok (.lstore 4, 2) := by decide +kernel
theorem dX0_findMoments_54 : decode cX0_findMoments 54 = .ok (.lload 4, 2) := by decide +kernel
theorem dX0_findMoments_56 : decode cX0_findMoments 56 = .ok (.lconst 0, 1) := by decide +kernel
theorem dX0_findMoments_57 : decode cX0_findMoments 57 = .ok (.lcmp, 1) := by decide +kernel
theorem dX0_findMoments_58 : decode cX0_findMoments 58 = .ok (.ifCond .eq 86, 3) := by decide +kernel
theorem dX0_findMoments_61 : decode cX0_findMoments 61 = .ok (.lload 4, 2) := by decide +kernel
theorem dX0_findMoments_63 : decode cX0_findMoments 63 = .ok (.invokestatic 80, 3) := by decide +kernel
theorem dX0_findMoments_66 : decode cX0_findMoments 66 = .ok (.lstore 6, 2) := by decide +kernel
theorem dX0_findMoments_68 : decode cX0_findMoments 68 = .ok (.aload_n 0, 1) := by decide +kernel
theorem dX0_findMoments_69 : decode cX0_findMoments 69 = .ok (.getfield 27, 3) := by decide +kernel
theorem dX0_findMoments_72 : decode cX0_findMoments 72 = .ok (.iload_n 3, 1) := by decide +kernel
theorem dX0_findMoments_73 : decode cX0_findMoments 73 = .ok (.laload, 1) := by decide +kernel
theorem dX0_findMoments_74 : decode cX0_findMoments 74 = .ok (.iload_n 2, 1) := by decide +kernel
theorem dX0_findMoments_75 : decode cX0_findMoments 75 = .ok (.i2l, 1) := by decide +kernel
theorem dX0_findMoments_76 : decode cX0_findMoments 76 = .ok (.lload 6, 2) := by decide +kernel
theorem dX0_findMoments_78 : decode cX0_findMoments 78 = .ok (.lmul, 1) := by decide +kernel
theorem dX0_findMoments_79 : decode cX0_findMoments 79 = .ok (.lsub, 1) := by decide +kernel
theorem dX0_findMoments_80 : decode cX0_findMoments 80 = .ok (.aload_n 0, 1) := by decide +kernel
theorem dX0_findMoments_81 : decode cX0_findMoments 81 = .ok (.getfield 112, 3) := by decide +kernel
theorem dX0_findMoments_84 : decode cX0_findMoments 84 = .ok (.lmul, 1) := by decide +kernel
theorem dX0_findMoments_85 : decode cX0_findMoments 85 = .ok (.lstore 8, 2) := by decide +kernel
theorem dX0_findMoments_87 : decode cX0_findMoments 87 = .ok (.lload 4, 2) := by decide +kernel
theorem dX0_findMoments_89 : decode cX0_findMoments 89 = .ok (.lconst 0, 1) := by decide +kernel
theorem dX0_findMoments_90 : decode cX0_findMoments 90 = .ok (.lcmp, 1) := by decide +kernel
theorem dX0_findMoments_91 : decode cX0_findMoments 91 = .ok (.ifCond .ge 12, 3) := by decide +kernel
theorem dX0_findMoments_94 : decode cX0_findMoments 94 = .ok (.aload_n 0, 1) := by decide +kernel
theorem dX0_findMoments_95 : decode cX0_findMoments 95 = .ok (.iload_n 3, 1) := by decide +kernel
theorem dX0_findMoments_96 : decode cX0_findMoments 96 = .ok (.invokevirtual 118, 3) := by decide +kernel
theorem dX0_findMoments_99 : decode cX0_findMoments 99 = .ok (.lneg, 1) := by decide +kernel
theorem dX0_findMoments_100 : decode cX0_findMoments 100 = .ok (.goto 8, 3) := by decide +kernel
theorem dX0_findMoments_103 : decode cX0_findMoments 103 = .ok (.aload_n 0, 1) := by decide +kernel
theorem dX0_findMoments_104 : decode cX0_findMoments 104 = .ok (.iload_n 3, 1) := by decide +kernel
theorem dX0_findMoments_105 : decode cX0_findMoments 105 = .ok (.invokevirtual 118, 3) := by decide +kernel
theorem dX0_findMoments_108 : decode cX0_findMoments 108 = .ok (.lstore 10, 2) := by decide +kernel
theorem dX0_findMoments_110 : decode cX0_findMoments 110 = .ok (.aload_n 0, 1) := by decide +kernel
theorem dX0_findMoments_111 : decode cX0_findMoments 111 = .ok (.iconst 0, 1) := by decide +kernel
theorem dX0_findMoments_112 : decode cX0_findMoments 112 = .ok (.lload 10, 2) := by decide +kernel
theorem dX0_findMoments_114 : decode cX0_findMoments 114 = .ok (.lload 8, 2) := by decide +kernel
theorem dX0_findMoments_116 : decode cX0_findMoments 116 = .ok (.ladd, 1) := by decide +kernel
theorem dX0_findMoments_117 : decode cX0_findMoments 117 = .ok (.lload 6, 2) := by decide +kernel
theorem dX0_findMoments_119 : decode cX0_findMoments 119 = .ok (.aload_n 0, 1) := by decide +kernel
theorem dX0_findMoments_120 : decode cX0_findMoments 120 = .ok (.getfield 112, 3) := by decide +kernel
theorem dX0_findMoments_123 : decode cX0_findMoments 123 = .ok (.lmul, 1) := by decide +kernel
theorem dX0_findMoments_124 : decode cX0_findMoments 124 = .ok (.invokevirtual 90, 3) := by decide +kernel
theorem dX0_findMoments_127 : decode cX0_findMoments 127 = .ok (.aload_n 0, 1) := by decide +kernel
theorem dX0_findMoments_128 : decode cX0_findMoments 128 = .ok (.iconst 0, 1) := by decide +kernel
theorem dX0_findMoments_129 : decode cX0_findMoments 129 = .ok (.lload 10, 2) := by decide +kernel
theorem dX0_findMoments_131 : decode cX0_findMoments 131 = .ok (.lload 8, 2) := by decide +kernel
theorem dX0_findMoments_133 : decode cX0_findMoments 133 = .ok (.lsub, 1) := by decide +kernel
theorem dX0_findMoments_134 : decode cX0_findMoments 134 = .ok (.lload 6, 2) := by decide +kernel
theorem dX0_findMoments_136 : decode cX0_findMoments 136 = .ok (.aload_n 0, 1) := by decide +kernel
theorem dX0_findMoments_137 : decode cX0_findMoments 137 = .ok (.getfield 112, 3) := by decide +kernel
theorem dX0_findMoments_140 : decode cX0_findMoments 140 = .ok (.lmul, 1) := by decide +kernel
theorem dX0_findMoments_141 : decode cX0_findMoments 141 = .ok (.invokevirtual 94, 3) := by decide +kernel
theorem dX0_findMoments_144 : decode cX0_findMoments 144 = .ok (.iinc 3 1, 3) := by decide +kernel
theorem dX0_findMoments_147 : decode cX0_findMoments 147 = .ok (.goto (-115), 3) := by decide +kernel
theorem dX0_findMoments_150 : decode cX0_findMoments 150 = .ok (.return_, 1) := by decide +kernel
abbrev rm_X0_findMoments : Room := { frames := 3, cells := 0, slots := 0, locals := 112 }
noncomputable def f_X0_findMoments_b144 (N : Nat) (kb32 : Int32 → ZS → Option (Unit × ZS)) (x1 : Int32) (x2 : Int32) (x3 : Int32) (σ : ZS) : Option (Unit × ZS) := bd (x3 + (1 : Int32)) fun v11 => kb32 v11 σ
noncomputable def f_X0_findMoments_b108 (N : Nat) (kb32 : Int32 → ZS → Option (Unit × ZS)) (x1 : Int32) (x2 : Int32) (x3 : Int32) (x6 : Int64) (x8 : Int64) (s0 : Int64) (σ : ZS) : Option (Unit × ZS) := obd (f_X0_lower N (0 : Int32) (s0 + x8) (x6 * (gJ σ 7 11)) σ) fun _ σ20 => obd (f_X0_raise N (0 : Int32) (s0 - x8) (x6 * (gJ σ20 7 11)) σ20) fun _ σ22 => f_X0_findMoments_b144 N kb32 x1 x2 x3 σ22
noncomputable def f_X0_findMoments_h32 (N : Nat) (x1 : Int32) (x2 : Int32) : Nat → Int32 → ZS → Option (Unit × ZS)
  | 0, _, _ => none
  | n + 1, x3, σ => (if (gI σ 6 3) ≤ x3 then some ((), σ) else obd (f_X3_twistOf N x3 x1 σ) fun v8 σ9 => (if v8 = (0 : Int64) then f_X0_findMoments_b144 N (fun x3_ σ_ => f_X0_findMoments_h32 N x1 x2 n x3_ σ_) x1 x2 x3 σ9 else obd (f_ABS N v8 σ9) fun v12 σ13 => ck (inb x3 924) (bd (((gJ σ13 61 (x3.toNatClampNeg)) - ((x2.toInt64) * v12)) * (gJ σ13 7 11)) fun v15 => (if v8 < (0 : Int64) then obd (f_X0_limitWork N x3 σ13) fun v23 σ24 => f_X0_findMoments_b108 N (fun x3_ σ_ => f_X0_findMoments_h32 N x1 x2 n x3_ σ_) x1 x2 x3 v12 v15 (-v23) σ24 else obd (f_X0_limitWork N x3 σ13) fun v17 σ18 => f_X0_findMoments_b108 N (fun x3_ σ_ => f_X0_findMoments_h32 N x1 x2 n x3_ σ_) x1 x2 x3 v12 v15 v17 σ18))))
noncomputable def f_X0_findMoments (N : Nat) (x1 : Int32) (σ : ZS) : Option (Unit × ZS) := ck (inb (x1 / (2 : Int32)) 6) (bd (gI σ 60 ((x1 / (2 : Int32)).toNatClampNeg)) fun v2 => obd (f_X1_put N 9 (v2.toInt64) (1 : Int64) σ) fun _ σ4 => obd (f_X1_put N 10 ((-v2).toInt64) (1 : Int64) σ4) fun _ σ6 => f_X0_findMoments_h32 N x1 v2 N (0 : Int32) σ6)
set_option maxHeartbeats 4000000 in
set_option maxRecDepth 100000 in
theorem k_X0_findMoments_b144 {l : Launch} {Y : ZY} {G : ZG} {σ' : ZS} (h : zOk (l, rm_X0_findMoments, 12, 0, 0) Y G cX0_findMoments RX0 none) (hq : zRet (l, rm_X0_findMoments, 12, 0, 0) Y G none σ') (N : Nat) {kb32 : Int32 → ZS → Option (Unit × ZS)} (x1 : Int32) (x2 : Int32) (x3 : Int32) (hb32 : ∀ (x3_ : Int32) (σ_ : ZS), kb32 x3_ σ_ = some ((), σ') → Z (l, rm_X0_findMoments, 12, 0, 0) Y G σ_ [(0, .ref (G.1 7)), (1, .int x1), (2, .int x2), (3, .int x3_)] [] 32) (σ : ZS) (hf : f_X0_findMoments_b144 N kb32 x1 x2 x3 σ = some ((), σ')) : Z (l, rm_X0_findMoments, 12, 0, 0) Y G σ [(0, .ref (G.1 7)), (1, .int x1), (2, .int x2), (3, .int x3)] [] 144 := by
  rw [f_X0_findMoments_b144] at hf
  obtain ⟨v11, ev11, hf⟩ := bd_ex hf
  refine z_iinc h (v := v11) (lv' := [(3, .int v11), (0, .ref (G.1 7)), (1, .int x1), (2, .int x2)]) dX0_findMoments_144 3 rfl (by rw [ev11]; rfl) rfl rfl ?_
  refine z_goto h (tgt := 32) dX0_findMoments_147 (by decide) ?_
  exact z_sub [1, 2, 3, 0] rfl (hb32 _ _ hf)
set_option maxHeartbeats 4000000 in
set_option maxRecDepth 100000 in
theorem k_X0_findMoments_b108 {l : Launch} {Y : ZY} {G : ZG} {σ' : ZS} (h : zOk (l, rm_X0_findMoments, 12, 0, 0) Y G cX0_findMoments RX0 none) (hq : zRet (l, rm_X0_findMoments, 12, 0, 0) Y G none σ') (N : Nat) {kb32 : Int32 → ZS → Option (Unit × ZS)} (x1 : Int32) (x2 : Int32) (x3 : Int32) (x6 : Int64) (x8 : Int64) (s0 : Int64) (hb32 : ∀ (x3_ : Int32) (σ_ : ZS), kb32 x3_ σ_ = some ((), σ') → Z (l, rm_X0_findMoments, 12, 0, 0) Y G σ_ [(0, .ref (G.1 7)), (1, .int x1), (2, .int x2), (3, .int x3_)] [] 32) (σ : ZS) (hf : f_X0_findMoments_b108 N kb32 x1 x2 x3 x6 x8 s0 σ = some ((), σ')) : Z (l, rm_X0_findMoments, 12, 0, 0) Y G σ [(0, .ref (G.1 7)), (1, .int x1), (2, .int x2), (3, .int x3), (6, .long x6), (8, .long x8)] [.long s0] 108 := by
  rw [f_X0_findMoments_b108] at hf
  refine z_lstore h dX0_findMoments_108 (lv' := [(10, .long s0), (0, .ref (G.1 7)), (1, .int x1), (2, .int x2), (3, .int x3), (6, .long x6), (8, .long x8)]) rfl rfl ?_
  refine z_aload_n h dX0_findMoments_110 rfl 1 rfl ?_
  refine z_iconst h (v := (0 : Int32)) dX0_findMoments_111 ic_0 ?_
  refine z_lload h dX0_findMoments_112 0 rfl ?_
  refine z_lload h dX0_findMoments_114 6 rfl ?_
  refine z_ladd h dX0_findMoments_116 ?_
  refine z_lload h dX0_findMoments_117 5 rfl ?_
  refine z_aload_n h dX0_findMoments_119 rfl 1 rfl ?_
  refine z_gfJ h zC0 (c := 7) tg_7 ln_7 11 rfl ft_0_11 wd_758 dX0_findMoments_120 ?_
  refine z_lmul h dX0_findMoments_123 ?_
  obtain ⟨v19, σ20, e20, hf⟩ := obd_out hf
  refine z_cV0 h (n := 3) (c_X0_lower l G e20) zC0 tg_7 ln_7 rfl rfl wd_593 wd_594 wd_595 wd_19 wd_596 (by decide +kernel) ⟨rfl, rfl⟩ rfl rfl rfl dX0_findMoments_124 ⟨Nat.zero_le _, Nat.zero_le _⟩ ?_
  refine z_aload_n h dX0_findMoments_127 rfl 1 rfl ?_
  refine z_iconst h (v := (0 : Int32)) dX0_findMoments_128 ic_0 ?_
  refine z_lload h dX0_findMoments_129 0 rfl ?_
  refine z_lload h dX0_findMoments_131 6 rfl ?_
  refine z_lsub h dX0_findMoments_133 ?_
  refine z_lload h dX0_findMoments_134 5 rfl ?_
  refine z_aload_n h dX0_findMoments_136 rfl 1 rfl ?_
  refine z_gfJ h zC0 (c := 7) tg_7 ln_7 11 rfl ft_0_11 wd_758 dX0_findMoments_137 ?_
  refine z_lmul h dX0_findMoments_140 ?_
  obtain ⟨v21, σ22, e22, hf⟩ := obd_out hf
  refine z_cV0 h (n := 3) (c_X0_raise l G e22) zC0 tg_7 ln_7 rfl rfl wd_609 wd_610 wd_611 wd_19 wd_612 (by decide +kernel) ⟨rfl, rfl⟩ rfl rfl rfl dX0_findMoments_141 ⟨Nat.zero_le _, Nat.zero_le _⟩ ?_
  exact z_sub [1, 2, 3, 4] rfl (k_X0_findMoments_b144 h hq N x1 x2 x3 hb32 _ hf)
set_option maxHeartbeats 4000000 in
set_option maxRecDepth 100000 in
theorem k_X0_findMoments_h32 {l : Launch} {Y : ZY} {G : ZG} {σ' : ZS} (h : zOk (l, rm_X0_findMoments, 12, 0, 0) Y G cX0_findMoments RX0 none) (hq : zRet (l, rm_X0_findMoments, 12, 0, 0) Y G none σ') (N : Nat) (x1 : Int32) (x2 : Int32) : ∀ (n : Nat) (x3 : Int32) (σ : ZS), f_X0_findMoments_h32 N x1 x2 n x3 σ = some ((), σ') → Z (l, rm_X0_findMoments, 12, 0, 0) Y G σ [(0, .ref (G.1 7)), (1, .int x1), (2, .int x2), (3, .int x3)] [] 32 := by
  intro n
  induction n with
  | zero =>
    intro x3 σ hf
    rw [f_X0_findMoments_h32] at hf
    cases hf
  | succ n ih =>
    intro x3 σ hf
    rw [f_X0_findMoments_h32] at hf
    refine z_iload_n h dX0_findMoments_32 rfl 3 rfl ?_
    refine z_aload_n h dX0_findMoments_33 rfl 0 rfl ?_
    refine z_gfR h zC0 (d := 6) (c := 7) tg_7 ln_7 0 rfl ft_0_0 rf_7_0 wd_47 dX0_findMoments_34 ?_
    refine z_gfIN h zC3 (c := 6) tg_6 ln_6 3 rfl ft_3_3 (by decide +kernel) dX0_findMoments_37 ?_
    refine z_icmp_ge h (tgt := 150) dX0_findMoments_40 (by decide) (fun g7 => ?_) (fun g7 => ?_)
    · have hf := it_pos g7 hf
      exact z_vret h (rt_V hf hq) dX0_findMoments_150
    · have hf := it_neg g7 hf
      refine z_aload_n h dX0_findMoments_43 rfl 0 rfl ?_
      refine z_gfR h zC0 (d := 6) (c := 7) tg_7 ln_7 0 rfl ft_0_0 rf_7_0 wd_47 dX0_findMoments_44 ?_
      refine z_iload_n h dX0_findMoments_47 rfl 3 rfl ?_
      refine z_iload_n h dX0_findMoments_48 rfl 1 rfl ?_
      obtain ⟨v8, σ9, e9, hf⟩ := obd_out hf
      refine z_cVv h (n := 2) (c_X3_twistOf l G e9) zC3 tg_6 ln_6 rfl rfl wd_763 wd_510 wd_511 wd_46 wd_512 (by decide +kernel) ⟨rfl, rfl⟩ rfl rfl rfl dX0_findMoments_49 ⟨Nat.zero_le _, Nat.zero_le _⟩ ?_
      refine z_lstore h dX0_findMoments_52 (lv' := [(4, .long v8), (0, .ref (G.1 7)), (1, .int x1), (2, .int x2), (3, .int x3)]) rfl rfl ?_
      refine z_lload h dX0_findMoments_54 0 rfl ?_
      refine z_lconst h (v := (0 : Int64)) dX0_findMoments_56 lc_0 ?_
      refine z_lif_eq h (tgt := 144) dX0_findMoments_57 dX0_findMoments_58 (by decide) (fun g10 => ?_) (fun g10 => ?_)
      · have hf := it_pos g10 hf
        exact z_sub [1, 2, 3, 4] rfl (k_X0_findMoments_b144 h hq N x1 x2 x3 (fun x3_ σ_ hf_ => ih x3_ σ_ hf_) _ hf)
      · have hf := it_neg g10 hf
        refine z_lload h dX0_findMoments_61 0 rfl ?_
        obtain ⟨v12, σ13, e13, hf⟩ := obd_out hf
        refine z_cSv h (n := 1) (c_ABS l G e13) rfl wd_566 wd_338 wd_339 wd_340 (by decide +kernel) ⟨rfl, rfl⟩ rfl rfl rfl dX0_findMoments_63 ⟨Nat.zero_le _, Nat.zero_le _⟩ ?_
        refine z_lstore h dX0_findMoments_66 (lv' := [(6, .long v12), (4, .long v8), (0, .ref (G.1 7)), (1, .int x1), (2, .int x2), (3, .int x3)]) rfl rfl ?_
        refine z_aload_n h dX0_findMoments_68 rfl 2 rfl ?_
        refine z_gfR h zC0 (d := 61) (c := 7) tg_7 ln_7 4 rfl ft_0_4 rf_7_4 wd_52 dX0_findMoments_69 ?_
        refine z_iload_n h dX0_findMoments_72 rfl 5 rfl ?_
        obtain ⟨g14, hf⟩ := ck_out hf
        refine z_lald h (c := 61) tg_61 ln_61 g14 dX0_findMoments_73 ?_
        refine z_iload_n h dX0_findMoments_74 rfl 4 rfl ?_
        refine z_i2l h dX0_findMoments_75 ?_
        refine z_lload h dX0_findMoments_76 0 rfl ?_
        refine z_lmul h dX0_findMoments_78 ?_
        refine z_lsub h dX0_findMoments_79 ?_
        refine z_aload_n h dX0_findMoments_80 rfl 2 rfl ?_
        refine z_gfJ h zC0 (c := 7) tg_7 ln_7 11 rfl ft_0_11 wd_758 dX0_findMoments_81 ?_
        refine z_lmul h dX0_findMoments_84 ?_
        refine z_topJ (fun v15 ev15 => ?_)
        have hf := bd_to ev15 hf
        refine z_lstore h dX0_findMoments_85 (lv' := [(8, .long v15), (6, .long v12), (4, .long v8), (0, .ref (G.1 7)), (1, .int x1), (2, .int x2), (3, .int x3)]) rfl rfl ?_
        refine z_lload h dX0_findMoments_87 2 rfl ?_
        refine z_lconst h (v := (0 : Int64)) dX0_findMoments_89 lc_0 ?_
        refine z_lif_ge h (tgt := 103) dX0_findMoments_90 dX0_findMoments_91 (by decide) (fun g16 => ?_) (fun g16 => ?_)
        · have hf := it_neg g16 hf
          refine z_aload_n h dX0_findMoments_103 rfl 3 rfl ?_
          refine z_iload_n h dX0_findMoments_104 rfl 6 rfl ?_
          obtain ⟨v17, σ18, e18, hf⟩ := obd_out hf
          refine z_cVv h (n := 1) (c_X0_limitWork l G e18) zC0 tg_7 ln_7 rfl rfl wd_764 wd_765 wd_766 wd_19 wd_767 (by decide +kernel) ⟨rfl, rfl⟩ rfl rfl rfl dX0_findMoments_105 ⟨Nat.zero_le _, Nat.zero_le _⟩ ?_
          exact z_sub [3, 4, 5, 6, 1, 0] rfl (k_X0_findMoments_b108 h hq N x1 x2 x3 v12 v15 v17 (fun x3_ σ_ hf_ => ih x3_ σ_ hf_) _ hf)
        · have hf := it_pos g16 hf
          refine z_aload_n h dX0_findMoments_94 rfl 3 rfl ?_
          refine z_iload_n h dX0_findMoments_95 rfl 6 rfl ?_
          obtain ⟨v23, σ24, e24, hf⟩ := obd_out hf
          refine z_cVv h (n := 1) (c_X0_limitWork l G e24) zC0 tg_7 ln_7 rfl rfl wd_764 wd_765 wd_766 wd_19 wd_767 (by decide +kernel) ⟨rfl, rfl⟩ rfl rfl rfl dX0_findMoments_96 ⟨Nat.zero_le _, Nat.zero_le _⟩ ?_
          refine z_lneg h dX0_findMoments_99 ?_
          refine z_goto h (tgt := 108) dX0_findMoments_100 (by decide) ?_
          exact z_sub [3, 4, 5, 6, 1, 0] rfl (k_X0_findMoments_b108 h hq N x1 x2 x3 v12 v15 (-v23) (fun x3_ σ_ hf_ => ih x3_ σ_ hf_) _ hf)
set_option maxHeartbeats 4000000 in
set_option maxRecDepth 100000 in
theorem c_X0_findMoments (l : Launch) (G : ZG) {N : Nat} {x1 : Int32} {σ σ' : ZS} {r : Unit} (hf : f_X0_findMoments N x1 σ = some (r, σ')) : zMet l G yX0_findMoments cX0_findMoments 12 none rm_X0_findMoments [.ref (G.1 7), .int x1] σ none σ' := by
  refine z_met (by decide +kernel) rfl (fun Y h hq => ?_)
  have h : zOk (l, rm_X0_findMoments, 12, 0, 0) Y G cX0_findMoments RX0 none := h
  rw [f_X0_findMoments] at hf
  refine z_sub (lv' := [(0, .ref (G.1 7)), (1, .int x1)]) [0, 1] rfl ?_
  refine z_aload_n h dX0_findMoments_0 rfl 0 rfl ?_
  refine z_gfR h zC0 (d := 60) (c := 7) tg_7 ln_7 1 rfl ft_0_1 rf_7_1 wd_48 dX0_findMoments_1 ?_
  refine z_iload_n h dX0_findMoments_4 rfl 1 rfl ?_
  refine z_iconst h (v := (2 : Int32)) dX0_findMoments_5 ic_2 ?_
  refine z_idiv h dX0_findMoments_6 (by decide) ?_
  obtain ⟨g1, hf⟩ := ck_out hf
  refine z_iald h (c := 60) tg_60 ln_60 g1 dX0_findMoments_7 ?_
  refine z_topI (fun v2 ev2 => ?_)
  have hf := bd_to ev2 hf
  refine z_istore_n h dX0_findMoments_8 rfl (lv' := [(2, .int v2), (0, .ref (G.1 7)), (1, .int x1)]) rfl rfl ?_
  refine z_aload_n h dX0_findMoments_9 rfl 1 rfl ?_
  refine z_gfR h zC0 (d := 9) (c := 7) tg_7 ln_7 5 rfl ft_0_5 rf_7_5 wd_54 dX0_findMoments_10 ?_
  refine z_iload_n h dX0_findMoments_13 rfl 0 rfl ?_
  refine z_i2l h dX0_findMoments_14 ?_
  refine z_lconst h (v := (1 : Int64)) dX0_findMoments_15 lc_1 ?_
  obtain ⟨v3, σ4, e4, hf⟩ := obd_out hf
  refine z_cV0 h (n := 2) (c_X1_put l G e4) zC1 tg_9 ln_9 rfl rfl wd_567 wd_518 wd_519 wd_25 wd_520 (by decide +kernel) ⟨rfl, rfl⟩ rfl rfl rfl dX0_findMoments_16 ⟨Nat.zero_le _, Nat.zero_le _⟩ ?_
  refine z_aload_n h dX0_findMoments_19 rfl 1 rfl ?_
  refine z_gfR h zC0 (d := 10) (c := 7) tg_7 ln_7 6 rfl ft_0_6 rf_7_6 wd_55 dX0_findMoments_20 ?_
  refine z_iload_n h dX0_findMoments_23 rfl 0 rfl ?_
  refine z_ineg h dX0_findMoments_24 ?_
  refine z_i2l h dX0_findMoments_25 ?_
  refine z_lconst h (v := (1 : Int64)) dX0_findMoments_26 lc_1 ?_
  obtain ⟨v5, σ6, e6, hf⟩ := obd_out hf
  refine z_cV0 h (n := 2) (c_X1_put l G e6) zC1 tg_10 ln_10 rfl rfl wd_567 wd_518 wd_519 wd_25 wd_520 (by decide +kernel) ⟨rfl, rfl⟩ rfl rfl rfl dX0_findMoments_27 ⟨Nat.zero_le _, Nat.zero_le _⟩ ?_
  refine z_iconst h (v := (0 : Int32)) dX0_findMoments_30 ic_0 ?_
  refine z_istore_n h dX0_findMoments_31 rfl (lv' := [(3, .int (0 : Int32)), (2, .int v2), (0, .ref (G.1 7)), (1, .int x1)]) rfl rfl ?_
  exact z_sub [2, 3, 1, 0] rfl (k_X0_findMoments_h32 h hq N x1 v2 _ _ _ hf)
theorem dX0_yieldingEnds_0 : decode cX0_yieldingEnds 0 = .ok (.iconst 0, 1) := by decide +kernel
theorem dX0_yieldingEnds_1 : decode cX0_yieldingEnds 1 = .ok (.istore_n 1, 1) := by decide +kernel
theorem dX0_yieldingEnds_2 : decode cX0_yieldingEnds 2 = .ok (.iconst 0, 1) := by decide +kernel
theorem dX0_yieldingEnds_3 : decode cX0_yieldingEnds 3 = .ok (.istore_n 2, 1) := by decide +kernel
theorem dX0_yieldingEnds_4 : decode cX0_yieldingEnds 4 = .ok (.iload_n 2, 1) := by decide +kernel
theorem dX0_yieldingEnds_5 : decode cX0_yieldingEnds 5 = .ok (.iconst 2, 1) := by decide +kernel
theorem dX0_yieldingEnds_6 : decode cX0_yieldingEnds 6 = .ok (.aload_n 0, 1) := by decide +kernel
theorem dX0_yieldingEnds_7 : decode cX0_yieldingEnds 7 = .ok (.getfield 53, 3) := by decide +kernel
theorem dX0_yieldingEnds_10 : decode cX0_yieldingEnds 10 = .ok (.imul, 1) := by decide +kernel
theorem dX0_yieldingEnds_11 : decode cX0_yieldingEnds 11 = .ok (.if_icmp .ge 52, 3) := by decide +kernel
theorem dX0_yieldingEnds_14 : decode cX0_yieldingEnds 14 = .ok (.aload_n 0, 1) := by decide +kernel
theorem dX0_yieldingEnds_15 : decode cX0_yieldingEnds 15 = .ok (.iload_n 2, 1) := by decide +kernel
theorem dX0_yieldingEnds_16 : decode cX0_yieldingEnds 16 = .ok (.invokevirtual 121, 3) := by decide +kernel
theorem dX0_yieldingEnds_19 : decode cX0_yieldingEnds 19 = .ok (.aload_n 0, 1) := by decide +kernel
theorem dX0_yieldingEnds_20 : decode cX0_yieldingEnds 20 = .ok (.getfield 18, 3) := by decide +kernel
theorem dX0_yieldingEnds_23 : decode cX0_yieldingEnds 23 = .ok (.iload_n 2, 1) := by decide +kernel
theorem dX0_yieldingEnds_24 : decode cX0_yieldingEnds 24 = .ok (.iconst 2, 1) := by decide +kernel
theorem dX0_yieldingEnds_25 : decode cX0_yieldingEnds 25 = .ok (.idiv, 1) := by decide +kernel
theorem dX0_yieldingEnds_26 : decode cX0_yieldingEnds 26 = .ok (.iaload, 1) := by decide +kernel
theorem dX0_yieldingEnds_27 : decode cX0_yieldingEnds 27 = .ok (.istore_n 3, 1) := by decide +kernel
theorem dX0_yieldingEnds_28 : decode cX0_yieldingEnds 28 = .ok (.aload_n 0, 1) := by decide +kernel
theorem dX0_yieldingEnds_29 : decode cX0_yieldingEnds 29 = .ok (.getfield 38, 3) := by decide +kernel
theorem dX0_yieldingEnds_32 : decode cX0_yieldingEnds 32 = .ok (.iload_n 3, 1) := by decide +kernel
theorem dX0_yieldingEnds_33 : decode cX0_yieldingEnds 33 = .ok (.invokevirtual 125, 3) := by decide +kernel
theorem dX0_yieldingEnds_36 : decode cX0_yieldingEnds 36 = .ok (.ifCond .ne 15, 3) := by decide +kernel
theorem dX0_yieldingEnds_39 : decode cX0_yieldingEnds 39 = .ok (.aload_n 0, 1) := by decide +kernel
theorem dX0_yieldingEnds_40 : decode cX0_yieldingEnds 40 = .ok (.getfield 34, 3) := by decide +kernel
theorem dX0_yieldingEnds_43 : decode cX0_yieldingEnds 43 = .ok (.iload_n 3, 1) := by decide +kernel
theorem dX0_yieldingEnds_44 : decode cX0_yieldingEnds 44 = .ok (.ineg, 1) := by decide +kernel
theorem dX0_yieldingEnds_45 : decode cX0_yieldingEnds 45 = .ok (.invokevirtual 125, 3) := by decide +kernel
theorem dX0_yieldingEnds_48 : decode cX0_yieldingEnds 48 = .ok (.ifCond .eq 9, 3) := by decide +kernel
theorem dX0_yieldingEnds_51 : decode cX0_yieldingEnds 51 = .ok (.iload_n 1, 1) := by decide +kernel
theorem dX0_yieldingEnds_52 : decode cX0_yieldingEnds 52 = .ok (.iconst 1, 1) := by decide +kernel
theorem dX0_yieldingEnds_53 : decode cX0_yieldingEnds 53 = .ok (.iload_n 2, 1) := by decide +kernel
theorem dX0_yieldingEnds_54 : decode cX0_yieldingEnds 54 = .ok (.ishl, 1) := by decide +kernel
theorem dX0_yieldingEnds_55 : decode cX0_yieldingEnds 55 = .ok (.ior, 1) := by decide +kernel
theorem dX0_yieldingEnds_56 : decode cX0_yieldingEnds 56 = .ok (.istore_n 1, 1) := by decide +kernel
theorem dX0_yieldingEnds_57 : decode cX0_yieldingEnds 57 = .ok (.iinc 2 1, 3) := by decide +kernel
theorem dX0_yieldingEnds_60 : decode cX0_yieldingEnds 60 = .ok (.goto (-56), 3) := by decide +kernel
theorem dX0_yieldingEnds_63 : decode cX0_yieldingEnds 63 = .ok (.iload_n 1, 1) := by decide +kernel
theorem dX0_yieldingEnds_64 : decode cX0_yieldingEnds 64 = .ok (.ireturn, 1) := by decide +kernel
abbrev rm_X0_yieldingEnds : Room := { frames := 4, cells := 0, slots := 0, locals := 151 }
noncomputable def f_X0_yieldingEnds_b57 (N : Nat) (kb4 : Int32 → Int32 → ZS → Option (Int32 × ZS)) (x1 : Int32) (x2 : Int32) (σ : ZS) : Option (Int32 × ZS) := bd (x2 + (1 : Int32)) fun v10 => kb4 x1 v10 σ
noncomputable def f_X0_yieldingEnds_b51 (N : Nat) (kb4 : Int32 → Int32 → ZS → Option (Int32 × ZS)) (x1 : Int32) (x2 : Int32) (σ : ZS) : Option (Int32 × ZS) := bd (x1 ||| ((1 : Int32) <<< (x2 &&& 31))) fun v9 => f_X0_yieldingEnds_b57 N kb4 v9 x2 σ
noncomputable def f_X0_yieldingEnds_h4 (N : Nat) : Nat → Int32 → Int32 → ZS → Option (Int32 × ZS)
  | 0, _, _, _ => none
  | n + 1, x1, x2, σ => (if ((2 : Int32) * (gI σ 7 2)) ≤ x2 then some (x1, σ) else obd (f_X0_findMoments N x2 σ) fun _ σ3 => ck (inb (x2 / (2 : Int32)) 6) (bd (gI σ3 60 ((x2 / (2 : Int32)).toNatClampNeg)) fun v5 => obd (f_X1_isWhole N 10 v5 σ3) fun v6 σ7 => (if v6 = 0 then obd (f_X1_isWhole N 9 (-v5) σ7) fun v11 σ12 => (if v11 = 0 then f_X0_yieldingEnds_b57 N (fun x1_ x2_ σ_ => f_X0_yieldingEnds_h4 N n x1_ x2_ σ_) x1 x2 σ12 else f_X0_yieldingEnds_b51 N (fun x1_ x2_ σ_ => f_X0_yieldingEnds_h4 N n x1_ x2_ σ_) x1 x2 σ12) else f_X0_yieldingEnds_b51 N (fun x1_ x2_ σ_ => f_X0_yieldingEnds_h4 N n x1_ x2_ σ_) x1 x2 σ7)))
noncomputable def f_X0_yieldingEnds (N : Nat) (σ : ZS) : Option (Int32 × ZS) := f_X0_yieldingEnds_h4 N N (0 : Int32) (0 : Int32) σ
set_option maxHeartbeats 4000000 in
set_option maxRecDepth 100000 in
theorem k_X0_yieldingEnds_b57 {l : Launch} {Y : ZY} {G : ZG} {r : Int32} {σ' : ZS} (h : zOk (l, rm_X0_yieldingEnds, 4, 0, 0) Y G cX0_yieldingEnds RX0 (some .int)) (hq : zRet (l, rm_X0_yieldingEnds, 4, 0, 0) Y G (some (.int r)) σ') (N : Nat) {kb4 : Int32 → Int32 → ZS → Option (Int32 × ZS)} (x1 : Int32) (x2 : Int32) (hb4 : ∀ (x1_ : Int32) (x2_ : Int32) (σ_ : ZS), kb4 x1_ x2_ σ_ = some (r, σ') → Z (l, rm_X0_yieldingEnds, 4, 0, 0) Y G σ_ [(0, .ref (G.1 7)), (1, .int x1_), (2, .int x2_)] [] 4) (σ : ZS) (hf : f_X0_yieldingEnds_b57 N kb4 x1 x2 σ = some (r, σ')) : Z (l, rm_X0_yieldingEnds, 4, 0, 0) Y G σ [(0, .ref (G.1 7)), (1, .int x1), (2, .int x2)] [] 57 := by
  rw [f_X0_yieldingEnds_b57] at hf
  obtain ⟨v10, ev10, hf⟩ := bd_ex hf
  refine z_iinc h (v := v10) (lv' := [(2, .int v10), (0, .ref (G.1 7)), (1, .int x1)]) dX0_yieldingEnds_57 2 rfl (by rw [ev10]; rfl) rfl rfl ?_
  refine z_goto h (tgt := 4) dX0_yieldingEnds_60 (by decide) ?_
  exact z_sub [1, 2, 0] rfl (hb4 _ _ _ hf)
set_option maxHeartbeats 4000000 in
set_option maxRecDepth 100000 in
theorem k_X0_yieldingEnds_b51 {l : Launch} {Y : ZY} {G : ZG} {r : Int32} {σ' : ZS} (h : zOk (l, rm_X0_yieldingEnds, 4, 0, 0) Y G cX0_yieldingEnds RX0 (some .int)) (hq : zRet (l, rm_X0_yieldingEnds, 4, 0, 0) Y G (some (.int r)) σ') (N : Nat) {kb4 : Int32 → Int32 → ZS → Option (Int32 × ZS)} (x1 : Int32) (x2 : Int32) (hb4 : ∀ (x1_ : Int32) (x2_ : Int32) (σ_ : ZS), kb4 x1_ x2_ σ_ = some (r, σ') → Z (l, rm_X0_yieldingEnds, 4, 0, 0) Y G σ_ [(0, .ref (G.1 7)), (1, .int x1_), (2, .int x2_)] [] 4) (σ : ZS) (hf : f_X0_yieldingEnds_b51 N kb4 x1 x2 σ = some (r, σ')) : Z (l, rm_X0_yieldingEnds, 4, 0, 0) Y G σ [(0, .ref (G.1 7)), (1, .int x1), (2, .int x2)] [] 51 := by
  rw [f_X0_yieldingEnds_b51] at hf
  refine z_iload_n h dX0_yieldingEnds_51 rfl 1 rfl ?_
  refine z_iconst h (v := (1 : Int32)) dX0_yieldingEnds_52 ic_1 ?_
  refine z_iload_n h dX0_yieldingEnds_53 rfl 2 rfl ?_
  refine z_ishl h dX0_yieldingEnds_54 ?_
  refine z_ior h dX0_yieldingEnds_55 ?_
  refine z_topI (fun v9 ev9 => ?_)
  have hf := bd_to ev9 hf
  refine z_istore_n h dX0_yieldingEnds_56 rfl (lv' := [(1, .int v9), (0, .ref (G.1 7)), (2, .int x2)]) rfl rfl ?_
  exact z_sub [1, 0, 2] rfl (k_X0_yieldingEnds_b57 h hq N v9 x2 hb4 _ hf)
set_option maxHeartbeats 4000000 in
set_option maxRecDepth 100000 in
theorem k_X0_yieldingEnds_h4 {l : Launch} {Y : ZY} {G : ZG} {r : Int32} {σ' : ZS} (h : zOk (l, rm_X0_yieldingEnds, 4, 0, 0) Y G cX0_yieldingEnds RX0 (some .int)) (hq : zRet (l, rm_X0_yieldingEnds, 4, 0, 0) Y G (some (.int r)) σ') (N : Nat) : ∀ (n : Nat) (x1 : Int32) (x2 : Int32) (σ : ZS), f_X0_yieldingEnds_h4 N n x1 x2 σ = some (r, σ') → Z (l, rm_X0_yieldingEnds, 4, 0, 0) Y G σ [(0, .ref (G.1 7)), (1, .int x1), (2, .int x2)] [] 4 := by
  intro n
  induction n with
  | zero =>
    intro x1 x2 σ hf
    rw [f_X0_yieldingEnds_h4] at hf
    cases hf
  | succ n ih =>
    intro x1 x2 σ hf
    rw [f_X0_yieldingEnds_h4] at hf
    refine z_iload_n h dX0_yieldingEnds_4 rfl 2 rfl ?_
    refine z_iconst h (v := (2 : Int32)) dX0_yieldingEnds_5 ic_2 ?_
    refine z_aload_n h dX0_yieldingEnds_6 rfl 0 rfl ?_
    refine z_gfI h zC0 (c := 7) tg_7 ln_7 2 rfl ft_0_2 wd_391 dX0_yieldingEnds_7 ?_
    refine z_imul h dX0_yieldingEnds_10 ?_
    refine z_icmp_ge h (tgt := 63) dX0_yieldingEnds_11 (by decide) (fun g1 => ?_) (fun g1 => ?_)
    · have hf := it_pos g1 hf
      refine z_iload_n h dX0_yieldingEnds_63 rfl 1 rfl ?_
      exact z_iret h (rt_I hf hq) dX0_yieldingEnds_64
    · have hf := it_neg g1 hf
      refine z_aload_n h dX0_yieldingEnds_14 rfl 0 rfl ?_
      refine z_iload_n h dX0_yieldingEnds_15 rfl 2 rfl ?_
      obtain ⟨v2, σ3, e3, hf⟩ := obd_out hf
      refine z_cV0 h (n := 1) (c_X0_findMoments l G e3) zC0 tg_7 ln_7 rfl rfl wd_792 wd_760 wd_761 wd_19 wd_762 (by decide +kernel) ⟨rfl, rfl⟩ rfl rfl rfl dX0_yieldingEnds_16 ⟨Nat.zero_le _, Nat.zero_le _⟩ ?_
      refine z_aload_n h dX0_yieldingEnds_19 rfl 0 rfl ?_
      refine z_gfR h zC0 (d := 60) (c := 7) tg_7 ln_7 1 rfl ft_0_1 rf_7_1 wd_48 dX0_yieldingEnds_20 ?_
      refine z_iload_n h dX0_yieldingEnds_23 rfl 2 rfl ?_
      refine z_iconst h (v := (2 : Int32)) dX0_yieldingEnds_24 ic_2 ?_
      refine z_idiv h dX0_yieldingEnds_25 (by decide) ?_
      obtain ⟨g4, hf⟩ := ck_out hf
      refine z_iald h (c := 60) tg_60 ln_60 g4 dX0_yieldingEnds_26 ?_
      refine z_topI (fun v5 ev5 => ?_)
      have hf := bd_to ev5 hf
      refine z_istore_n h dX0_yieldingEnds_27 rfl (lv' := [(3, .int v5), (0, .ref (G.1 7)), (1, .int x1), (2, .int x2)]) rfl rfl ?_
      refine z_aload_n h dX0_yieldingEnds_28 rfl 1 rfl ?_
      refine z_gfR h zC0 (d := 10) (c := 7) tg_7 ln_7 6 rfl ft_0_6 rf_7_6 wd_55 dX0_yieldingEnds_29 ?_
      refine z_iload_n h dX0_yieldingEnds_32 rfl 0 rfl ?_
      obtain ⟨v6, σ7, e7, hf⟩ := obd_out hf
      refine z_cVv h (n := 1) (c_X1_isWhole l G e7) zC1 tg_10 ln_10 rfl rfl wd_793 wd_794 wd_795 wd_25 wd_796 (by decide +kernel) ⟨rfl, rfl⟩ rfl rfl rfl dX0_yieldingEnds_33 ⟨Nat.zero_le _, Nat.zero_le _⟩ ?_
      refine z_if_ne h (tgt := 51) dX0_yieldingEnds_36 (by decide) (fun g8 => ?_) (fun g8 => ?_)
      · have hf := it_neg g8 hf
        exact z_sub [1, 2, 3] rfl (k_X0_yieldingEnds_b51 h hq N x1 x2 (fun x1_ x2_ σ_ hf_ => ih x1_ x2_ σ_ hf_) _ hf)
      · have hf := it_pos g8 hf
        refine z_aload_n h dX0_yieldingEnds_39 rfl 1 rfl ?_
        refine z_gfR h zC0 (d := 9) (c := 7) tg_7 ln_7 5 rfl ft_0_5 rf_7_5 wd_54 dX0_yieldingEnds_40 ?_
        refine z_iload_n h dX0_yieldingEnds_43 rfl 0 rfl ?_
        refine z_ineg h dX0_yieldingEnds_44 ?_
        obtain ⟨v11, σ12, e12, hf⟩ := obd_out hf
        refine z_cVv h (n := 1) (c_X1_isWhole l G e12) zC1 tg_9 ln_9 rfl rfl wd_793 wd_794 wd_795 wd_25 wd_796 (by decide +kernel) ⟨rfl, rfl⟩ rfl rfl rfl dX0_yieldingEnds_45 ⟨Nat.zero_le _, Nat.zero_le _⟩ ?_
        refine z_if_eq h (tgt := 57) dX0_yieldingEnds_48 (by decide) (fun g13 => ?_) (fun g13 => ?_)
        · have hf := it_pos g13 hf
          exact z_sub [1, 2, 3] rfl (k_X0_yieldingEnds_b57 h hq N x1 x2 (fun x1_ x2_ σ_ hf_ => ih x1_ x2_ σ_ hf_) _ hf)
        · have hf := it_neg g13 hf
          exact z_sub [1, 2, 3] rfl (k_X0_yieldingEnds_b51 h hq N x1 x2 (fun x1_ x2_ σ_ hf_ => ih x1_ x2_ σ_ hf_) _ hf)
set_option maxHeartbeats 4000000 in
set_option maxRecDepth 100000 in
theorem c_X0_yieldingEnds (l : Launch) (G : ZG) {N : Nat} {σ σ' : ZS} {r : Int32} (hf : f_X0_yieldingEnds N σ = some (r, σ')) : zMet l G yX0_yieldingEnds cX0_yieldingEnds 4 (some .int) rm_X0_yieldingEnds [.ref (G.1 7)] σ (some (.int r)) σ' := by
  refine z_met (by decide +kernel) rfl (fun Y h hq => ?_)
  have h : zOk (l, rm_X0_yieldingEnds, 4, 0, 0) Y G cX0_yieldingEnds RX0 (some .int) := h
  rw [f_X0_yieldingEnds] at hf
  refine z_sub (lv' := [(0, .ref (G.1 7))]) [0] rfl ?_
  refine z_iconst h (v := (0 : Int32)) dX0_yieldingEnds_0 ic_0 ?_
  refine z_istore_n h dX0_yieldingEnds_1 rfl (lv' := [(1, .int (0 : Int32)), (0, .ref (G.1 7))]) rfl rfl ?_
  refine z_iconst h (v := (0 : Int32)) dX0_yieldingEnds_2 ic_0 ?_
  refine z_istore_n h dX0_yieldingEnds_3 rfl (lv' := [(2, .int (0 : Int32)), (1, .int (0 : Int32)), (0, .ref (G.1 7))]) rfl rfl ?_
  exact z_sub [2, 1, 0] rfl (k_X0_yieldingEnds_h4 h hq N _ _ _ _ hf)
theorem dX0_isCritical_0 : decode cX0_isCritical 0 = .ok (.aload_n 0, 1) := by decide +kernel
theorem dX0_isCritical_1 : decode cX0_isCritical 1 = .ok (.iload_n 1, 1) := by decide +kernel
theorem dX0_isCritical_2 : decode cX0_isCritical 2 = .ok (.invokevirtual 118, 3) := by decide +kernel
theorem dX0_isCritical_5 : decode cX0_isCritical 5 = .ok (.invokestatic 80, 3) := by decide +kernel
theorem dX0_isCritical_8 : decode cX0_isCritical 8 = .ok (.aload_n 0, 1) := by decide +kernel
theorem dX0_isCritical_9 : decode cX0_isCritical 9 = .ok (.getfield 27, 3) := by decide +kernel
theorem dX0_isCritical_12 : decode cX0_isCritical 12 = .ok (.iload_n 1, 1) := by decide +kernel
theorem dX0_isCritical_13 : decode cX0_isCritical 13 = .ok (.laload, 1) := by decide +kernel
theorem dX0_isCritical_14 : decode cX0_isCritical 14 = .ok (.aload_n 0, 1) := by decide +kernel
theorem dX0_isCritical_15 : decode cX0_isCritical 15 = .ok (.getfield 112, 3) := by decide +kernel
theorem dX0_isCritical_18 : decode cX0_isCritical 18 = .ok (.lmul, 1) := by decide +kernel
theorem dX0_isCritical_19 : decode cX0_isCritical 19 = .ok (.lcmp, 1) := by decide +kernel
theorem dX0_isCritical_20 : decode cX0_isCritical 20 = .ok (.ifCond .ne 7, 3) := by decide +kernel
theorem dX0_isCritical_23 : decode cX0_isCritical 23 = .ok (.iconst 1, 1) := by decide +kernel
theorem dX0_isCritical_24 : decode cX0_isCritical 24 = .ok (.goto 4, 3) := by decide +kernel
theorem dX0_isCritical_27 : decode cX0_isCritical 27 = .ok (.iconst 0, 1) := by decide +kernel
theorem dX0_isCritical_28 : decode cX0_isCritical 28 = .ok (.ireturn, 1) := by decide +kernel
abbrev rm_X0_isCritical : Room := { frames := 1, cells := 0, slots := 0, locals := 29 }
noncomputable def f_X0_isCritical (N : Nat) (x1 : Int32) (σ : ZS) : Option (Int32 × ZS) := obd (f_X0_limitWork N x1 σ) fun v1 σ2 => obd (f_ABS N v1 σ2) fun v3 σ4 => ck (inb x1 924) ((if v3 = ((gJ σ4 61 (x1.toNatClampNeg)) * (gJ σ4 7 11)) then some ((1 : Int32), σ4) else some ((0 : Int32), σ4)))
set_option maxHeartbeats 4000000 in
set_option maxRecDepth 100000 in
theorem c_X0_isCritical (l : Launch) (G : ZG) {N : Nat} {x1 : Int32} {σ σ' : ZS} {r : Int32} (hf : f_X0_isCritical N x1 σ = some (r, σ')) : zMet l G yX0_isCritical cX0_isCritical 2 (some .boolean) rm_X0_isCritical [.ref (G.1 7), .int x1] σ (some (.int r)) σ' := by
  refine z_met (by decide +kernel) rfl (fun Y h hq => ?_)
  have h : zOk (l, rm_X0_isCritical, 2, 0, 0) Y G cX0_isCritical RX0 (some .boolean) := h
  rw [f_X0_isCritical] at hf
  refine z_sub (lv' := [(0, .ref (G.1 7)), (1, .int x1)]) [0, 1] rfl ?_
  refine z_aload_n h dX0_isCritical_0 rfl 0 rfl ?_
  refine z_iload_n h dX0_isCritical_1 rfl 1 rfl ?_
  obtain ⟨v1, σ2, e2, hf⟩ := obd_out hf
  refine z_cVv h (n := 1) (c_X0_limitWork l G e2) zC0 tg_7 ln_7 rfl rfl wd_764 wd_765 wd_766 wd_19 wd_767 (by decide +kernel) ⟨rfl, rfl⟩ rfl rfl rfl dX0_isCritical_2 ⟨Nat.zero_le _, Nat.zero_le _⟩ ?_
  obtain ⟨v3, σ4, e4, hf⟩ := obd_out hf
  refine z_cSv h (n := 1) (c_ABS l G e4) rfl wd_566 wd_338 wd_339 wd_340 (by decide +kernel) ⟨rfl, rfl⟩ rfl rfl rfl dX0_isCritical_5 ⟨Nat.zero_le _, Nat.zero_le _⟩ ?_
  refine z_aload_n h dX0_isCritical_8 rfl 0 rfl ?_
  refine z_gfR h zC0 (d := 61) (c := 7) tg_7 ln_7 4 rfl ft_0_4 rf_7_4 wd_52 dX0_isCritical_9 ?_
  refine z_iload_n h dX0_isCritical_12 rfl 1 rfl ?_
  obtain ⟨g5, hf⟩ := ck_out hf
  refine z_lald h (c := 61) tg_61 ln_61 g5 dX0_isCritical_13 ?_
  refine z_aload_n h dX0_isCritical_14 rfl 0 rfl ?_
  refine z_gfJ h zC0 (c := 7) tg_7 ln_7 11 rfl ft_0_11 wd_758 dX0_isCritical_15 ?_
  refine z_lmul h dX0_isCritical_18 ?_
  refine z_lif_ne h (tgt := 27) dX0_isCritical_19 dX0_isCritical_20 (by decide) (fun g6 => ?_) (fun g6 => ?_)
  · have hf := it_neg g6 hf
    refine z_iconst h (v := (0 : Int32)) dX0_isCritical_27 ic_0 ?_
    exact z_zret h rfl (rt_I hf hq) dX0_isCritical_28
  · have hf := it_pos g6 hf
    refine z_iconst h (v := (1 : Int32)) dX0_isCritical_23 ic_1 ?_
    refine z_goto h (tgt := 28) dX0_isCritical_24 (by decide) ?_
    exact z_zret h rfl (rt_I hf hq) dX0_isCritical_28
theorem dX0_criticalCount_0 : decode cX0_criticalCount 0 = .ok (.iconst 0, 1) := by decide +kernel
theorem dX0_criticalCount_1 : decode cX0_criticalCount 1 = .ok (.istore_n 1, 1) := by decide +kernel
theorem dX0_criticalCount_2 : decode cX0_criticalCount 2 = .ok (.iconst 0, 1) := by decide +kernel
theorem dX0_criticalCount_3 : decode cX0_criticalCount 3 = .ok (.istore_n 2, 1) := by decide +kernel
theorem dX0_criticalCount_4 : decode cX0_criticalCount 4 = .ok (.iload_n 2, 1) := by decide +kernel
theorem dX0_criticalCount_5 : decode cX0_criticalCount 5 = .ok (.aload_n 0, 1) := by decide +kernel
theorem dX0_criticalCount_6 : decode cX0_criticalCount 6 = .ok (.getfield 12, 3) := by decide +kernel
theorem dX0_criticalCount_9 : decode cX0_criticalCount 9 = .ok (.getfield 61, 3) := by decide +kernel
theorem dX0_criticalCount_12 : decode cX0_criticalCount 12 = .ok (.if_icmp .ge 25, 3) := by decide +kernel
theorem dX0_criticalCount_15 : decode cX0_criticalCount 15 = .ok (.iload_n 1, 1) := by decide +kernel
theorem dX0_criticalCount_16 : decode cX0_criticalCount 16 = .ok (.aload_n 0, 1) := by decide +kernel
theorem dX0_criticalCount_17 : decode cX0_criticalCount 17 = .ok (.iload_n 2, 1) := by decide +kernel
theorem dX0_criticalCount_18 : decode cX0_criticalCount 18 = .ok (.invokevirtual 129, 3) := by decide +kernel
theorem dX0_criticalCount_21 : decode cX0_criticalCount 21 = .ok (.ifCond .eq 7, 3) := by decide +kernel
theorem dX0_criticalCount_24 : decode cX0_criticalCount 24 = .ok (.iconst 1, 1) := by decide +kernel
theorem dX0_criticalCount_25 : decode cX0_criticalCount 25 = .ok (.goto 4, 3) := by decide +kernel
theorem dX0_criticalCount_28 : decode cX0_criticalCount 28 = .ok (.iconst 0, 1) := by decide +kernel
theorem dX0_criticalCount_29 : decode cX0_criticalCount 29 = .ok (.iadd, 1) := by decide +kernel
theorem dX0_criticalCount_30 : decode cX0_criticalCount 30 = .ok (.istore_n 1, 1) := by decide +kernel
theorem dX0_criticalCount_31 : decode cX0_criticalCount 31 = .ok (.iinc 2 1, 3) := by decide +kernel
theorem dX0_criticalCount_34 : decode cX0_criticalCount 34 = .ok (.goto (-30), 3) := by decide +kernel
theorem dX0_criticalCount_37 : decode cX0_criticalCount 37 = .ok (.iload_n 1, 1) := by decide +kernel
theorem dX0_criticalCount_38 : decode cX0_criticalCount 38 = .ok (.ireturn, 1) := by decide +kernel
abbrev rm_X0_criticalCount : Room := { frames := 2, cells := 0, slots := 0, locals := 58 }
noncomputable def f_X0_criticalCount_b29 (N : Nat) (kb4 : Int32 → Int32 → ZS → Option (Int32 × ZS)) (x2 : Int32) (s0 : Int32) (s1 : Int32) (σ : ZS) : Option (Int32 × ZS) := bd (s0 + s1) fun v5 => bd (x2 + (1 : Int32)) fun v6 => kb4 v5 v6 σ
noncomputable def f_X0_criticalCount_h4 (N : Nat) : Nat → Int32 → Int32 → ZS → Option (Int32 × ZS)
  | 0, _, _, _ => none
  | n + 1, x1, x2, σ => (if (gI σ 6 3) ≤ x2 then some (x1, σ) else obd (f_X0_isCritical N x2 σ) fun v2 σ3 => (if v2 = 0 then f_X0_criticalCount_b29 N (fun x1_ x2_ σ_ => f_X0_criticalCount_h4 N n x1_ x2_ σ_) x2 x1 (0 : Int32) σ3 else f_X0_criticalCount_b29 N (fun x1_ x2_ σ_ => f_X0_criticalCount_h4 N n x1_ x2_ σ_) x2 x1 (1 : Int32) σ3))
noncomputable def f_X0_criticalCount (N : Nat) (σ : ZS) : Option (Int32 × ZS) := f_X0_criticalCount_h4 N N (0 : Int32) (0 : Int32) σ
set_option maxHeartbeats 4000000 in
set_option maxRecDepth 100000 in
theorem k_X0_criticalCount_b29 {l : Launch} {Y : ZY} {G : ZG} {r : Int32} {σ' : ZS} (h : zOk (l, rm_X0_criticalCount, 3, 0, 0) Y G cX0_criticalCount RX0 (some .int)) (hq : zRet (l, rm_X0_criticalCount, 3, 0, 0) Y G (some (.int r)) σ') (N : Nat) {kb4 : Int32 → Int32 → ZS → Option (Int32 × ZS)} (x2 : Int32) (s0 : Int32) (s1 : Int32) (hb4 : ∀ (x1_ : Int32) (x2_ : Int32) (σ_ : ZS), kb4 x1_ x2_ σ_ = some (r, σ') → Z (l, rm_X0_criticalCount, 3, 0, 0) Y G σ_ [(0, .ref (G.1 7)), (1, .int x1_), (2, .int x2_)] [] 4) (σ : ZS) (hf : f_X0_criticalCount_b29 N kb4 x2 s0 s1 σ = some (r, σ')) : Z (l, rm_X0_criticalCount, 3, 0, 0) Y G σ [(0, .ref (G.1 7)), (2, .int x2)] [.int s1, .int s0] 29 := by
  rw [f_X0_criticalCount_b29] at hf
  refine z_iadd h dX0_criticalCount_29 ?_
  refine z_topI (fun v5 ev5 => ?_)
  have hf := bd_to ev5 hf
  refine z_istore_n h dX0_criticalCount_30 rfl (lv' := [(1, .int v5), (0, .ref (G.1 7)), (2, .int x2)]) rfl rfl ?_
  obtain ⟨v6, ev6, hf⟩ := bd_ex hf
  refine z_iinc h (v := v6) (lv' := [(2, .int v6), (1, .int v5), (0, .ref (G.1 7))]) dX0_criticalCount_31 2 rfl (by rw [ev6]; rfl) rfl rfl ?_
  refine z_goto h (tgt := 4) dX0_criticalCount_34 (by decide) ?_
  exact z_sub [2, 1, 0] rfl (hb4 _ _ _ hf)
set_option maxHeartbeats 4000000 in
set_option maxRecDepth 100000 in
theorem k_X0_criticalCount_h4 {l : Launch} {Y : ZY} {G : ZG} {r : Int32} {σ' : ZS} (h : zOk (l, rm_X0_criticalCount, 3, 0, 0) Y G cX0_criticalCount RX0 (some .int)) (hq : zRet (l, rm_X0_criticalCount, 3, 0, 0) Y G (some (.int r)) σ') (N : Nat) : ∀ (n : Nat) (x1 : Int32) (x2 : Int32) (σ : ZS), f_X0_criticalCount_h4 N n x1 x2 σ = some (r, σ') → Z (l, rm_X0_criticalCount, 3, 0, 0) Y G σ [(0, .ref (G.1 7)), (1, .int x1), (2, .int x2)] [] 4 := by
  intro n
  induction n with
  | zero =>
    intro x1 x2 σ hf
    rw [f_X0_criticalCount_h4] at hf
    cases hf
  | succ n ih =>
    intro x1 x2 σ hf
    rw [f_X0_criticalCount_h4] at hf
    refine z_iload_n h dX0_criticalCount_4 rfl 2 rfl ?_
    refine z_aload_n h dX0_criticalCount_5 rfl 0 rfl ?_
    refine z_gfR h zC0 (d := 6) (c := 7) tg_7 ln_7 0 rfl ft_0_0 rf_7_0 wd_47 dX0_criticalCount_6 ?_
    refine z_gfIN h zC3 (c := 6) tg_6 ln_6 3 rfl ft_3_3 (by decide +kernel) dX0_criticalCount_9 ?_
    refine z_icmp_ge h (tgt := 37) dX0_criticalCount_12 (by decide) (fun g1 => ?_) (fun g1 => ?_)
    · have hf := it_pos g1 hf
      refine z_iload_n h dX0_criticalCount_37 rfl 1 rfl ?_
      exact z_iret h (rt_I hf hq) dX0_criticalCount_38
    · have hf := it_neg g1 hf
      refine z_iload_n h dX0_criticalCount_15 rfl 1 rfl ?_
      refine z_aload_n h dX0_criticalCount_16 rfl 0 rfl ?_
      refine z_iload_n h dX0_criticalCount_17 rfl 2 rfl ?_
      obtain ⟨v2, σ3, e3, hf⟩ := obd_out hf
      refine z_cVv h (n := 1) (c_X0_isCritical l G e3) zC0 tg_7 ln_7 rfl rfl wd_809 wd_810 wd_811 wd_19 wd_812 (by decide +kernel) ⟨rfl, rfl⟩ rfl rfl rfl dX0_criticalCount_18 ⟨Nat.zero_le _, Nat.zero_le _⟩ ?_
      refine z_if_eq h (tgt := 28) dX0_criticalCount_21 (by decide) (fun g4 => ?_) (fun g4 => ?_)
      · have hf := it_pos g4 hf
        refine z_iconst h (v := (0 : Int32)) dX0_criticalCount_28 ic_0 ?_
        exact z_sub [0, 2] rfl (k_X0_criticalCount_b29 h hq N x2 x1 (0 : Int32) (fun x1_ x2_ σ_ hf_ => ih x1_ x2_ σ_ hf_) _ hf)
      · have hf := it_neg g4 hf
        refine z_iconst h (v := (1 : Int32)) dX0_criticalCount_24 ic_1 ?_
        refine z_goto h (tgt := 29) dX0_criticalCount_25 (by decide) ?_
        exact z_sub [0, 2] rfl (k_X0_criticalCount_b29 h hq N x2 x1 (1 : Int32) (fun x1_ x2_ σ_ hf_ => ih x1_ x2_ σ_ hf_) _ hf)
set_option maxHeartbeats 4000000 in
set_option maxRecDepth 100000 in
theorem c_X0_criticalCount (l : Launch) (G : ZG) {N : Nat} {σ σ' : ZS} {r : Int32} (hf : f_X0_criticalCount N σ = some (r, σ')) : zMet l G yX0_criticalCount cX0_criticalCount 3 (some .int) rm_X0_criticalCount [.ref (G.1 7)] σ (some (.int r)) σ' := by
  refine z_met (by decide +kernel) rfl (fun Y h hq => ?_)
  have h : zOk (l, rm_X0_criticalCount, 3, 0, 0) Y G cX0_criticalCount RX0 (some .int) := h
  rw [f_X0_criticalCount] at hf
  refine z_sub (lv' := [(0, .ref (G.1 7))]) [0] rfl ?_
  refine z_iconst h (v := (0 : Int32)) dX0_criticalCount_0 ic_0 ?_
  refine z_istore_n h dX0_criticalCount_1 rfl (lv' := [(1, .int (0 : Int32)), (0, .ref (G.1 7))]) rfl rfl ?_
  refine z_iconst h (v := (0 : Int32)) dX0_criticalCount_2 ic_0 ?_
  refine z_istore_n h dX0_criticalCount_3 rfl (lv' := [(2, .int (0 : Int32)), (1, .int (0 : Int32)), (0, .ref (G.1 7))]) rfl rfl ?_
  exact z_sub [2, 1, 0] rfl (k_X0_criticalCount_h4 h hq N _ _ _ _ hf)
theorem dX0_lowestCritical_0 : decode cX0_lowestCritical 0 = .ok (.iconst 0, 1) := by decide +kernel
theorem dX0_lowestCritical_1 : decode cX0_lowestCritical 1 = .ok (.istore_n 1, 1) := by decide +kernel
theorem dX0_lowestCritical_2 : decode cX0_lowestCritical 2 = .ok (.iload_n 1, 1) := by decide +kernel
theorem dX0_lowestCritical_3 : decode cX0_lowestCritical 3 = .ok (.aload_n 0, 1) := by decide +kernel
theorem dX0_lowestCritical_4 : decode cX0_lowestCritical 4 = .ok (.getfield 12, 3) := by decide +kernel
theorem dX0_lowestCritical_7 : decode cX0_lowestCritical 7 = .ok (.getfield 61, 3) := by decide +kernel
theorem dX0_lowestCritical_10 : decode cX0_lowestCritical 10 = .ok (.if_icmp .ge 19, 3) := by decide +kernel
theorem dX0_lowestCritical_13 : decode cX0_lowestCritical 13 = .ok (.aload_n 0, 1) := by decide +kernel
theorem dX0_lowestCritical_14 : decode cX0_lowestCritical 14 = .ok (.iload_n 1, 1) := by decide +kernel
theorem dX0_lowestCritical_15 : decode cX0_lowestCritical 15 = .ok (.invokevirtual 129, 3) := by decide +kernel
theorem dX0_lowestCritical_18 : decode cX0_lowestCritical 18 = .ok (.ifCond .eq 5, 3) := by decide +kernel
theorem dX0_lowestCritical_21 : decode cX0_lowestCritical 21 = .ok (.iload_n 1, 1) := by decide +kernel
theorem dX0_lowestCritical_22 : decode cX0_lowestCritical 22 = .ok (.ireturn, 1) := by decide +kernel
theorem dX0_lowestCritical_23 : decode cX0_lowestCritical 23 = .ok (.iinc 1 1, 3) := by decide +kernel
theorem dX0_lowestCritical_26 : decode cX0_lowestCritical 26 = .ok (.goto (-24), 3) := by decide +kernel
theorem dX0_lowestCritical_29 : decode cX0_lowestCritical 29 = .ok (.bipush (-6), 2) := by decide +kernel
theorem dX0_lowestCritical_31 : decode cX0_lowestCritical 31 = .ok (.ireturn, 1) := by decide +kernel
abbrev rm_X0_lowestCritical : Room := { frames := 2, cells := 0, slots := 0, locals := 58 }
noncomputable def f_X0_lowestCritical_h2 (N : Nat) : Nat → Int32 → ZS → Option (Int32 × ZS)
  | 0, _, _ => none
  | n + 1, x1, σ => (if (gI σ 6 3) ≤ x1 then some ((-6 : Int32), σ) else obd (f_X0_isCritical N x1 σ) fun v2 σ3 => (if v2 = 0 then bd (x1 + (1 : Int32)) fun v5 => f_X0_lowestCritical_h2 N n v5 σ3 else some (x1, σ3)))
noncomputable def f_X0_lowestCritical (N : Nat) (σ : ZS) : Option (Int32 × ZS) := f_X0_lowestCritical_h2 N N (0 : Int32) σ
set_option maxHeartbeats 4000000 in
set_option maxRecDepth 100000 in
theorem k_X0_lowestCritical_h2 {l : Launch} {Y : ZY} {G : ZG} {r : Int32} {σ' : ZS} (h : zOk (l, rm_X0_lowestCritical, 2, 0, 0) Y G cX0_lowestCritical RX0 (some .int)) (hq : zRet (l, rm_X0_lowestCritical, 2, 0, 0) Y G (some (.int r)) σ') (N : Nat) : ∀ (n : Nat) (x1 : Int32) (σ : ZS), f_X0_lowestCritical_h2 N n x1 σ = some (r, σ') → Z (l, rm_X0_lowestCritical, 2, 0, 0) Y G σ [(0, .ref (G.1 7)), (1, .int x1)] [] 2 := by
  intro n
  induction n with
  | zero =>
    intro x1 σ hf
    rw [f_X0_lowestCritical_h2] at hf
    cases hf
  | succ n ih =>
    intro x1 σ hf
    rw [f_X0_lowestCritical_h2] at hf
    refine z_iload_n h dX0_lowestCritical_2 rfl 1 rfl ?_
    refine z_aload_n h dX0_lowestCritical_3 rfl 0 rfl ?_
    refine z_gfR h zC0 (d := 6) (c := 7) tg_7 ln_7 0 rfl ft_0_0 rf_7_0 wd_47 dX0_lowestCritical_4 ?_
    refine z_gfIN h zC3 (c := 6) tg_6 ln_6 3 rfl ft_3_3 (by decide +kernel) dX0_lowestCritical_7 ?_
    refine z_icmp_ge h (tgt := 29) dX0_lowestCritical_10 (by decide) (fun g1 => ?_) (fun g1 => ?_)
    · have hf := it_pos g1 hf
      refine z_bipush h (v := (-6 : Int32)) dX0_lowestCritical_29 bp_m6 ?_
      exact z_iret h (rt_I hf hq) dX0_lowestCritical_31
    · have hf := it_neg g1 hf
      refine z_aload_n h dX0_lowestCritical_13 rfl 0 rfl ?_
      refine z_iload_n h dX0_lowestCritical_14 rfl 1 rfl ?_
      obtain ⟨v2, σ3, e3, hf⟩ := obd_out hf
      refine z_cVv h (n := 1) (c_X0_isCritical l G e3) zC0 tg_7 ln_7 rfl rfl wd_809 wd_810 wd_811 wd_19 wd_812 (by decide +kernel) ⟨rfl, rfl⟩ rfl rfl rfl dX0_lowestCritical_15 ⟨Nat.zero_le _, Nat.zero_le _⟩ ?_
      refine z_if_eq h (tgt := 23) dX0_lowestCritical_18 (by decide) (fun g4 => ?_) (fun g4 => ?_)
      · have hf := it_pos g4 hf
        obtain ⟨v5, ev5, hf⟩ := bd_ex hf
        refine z_iinc h (v := v5) (lv' := [(1, .int v5), (0, .ref (G.1 7))]) dX0_lowestCritical_23 1 rfl (by rw [ev5]; rfl) rfl rfl ?_
        refine z_goto h (tgt := 2) dX0_lowestCritical_26 (by decide) ?_
        exact z_sub [1, 0] rfl (ih _ _ hf)
      · have hf := it_neg g4 hf
        refine z_iload_n h dX0_lowestCritical_21 rfl 1 rfl ?_
        exact z_iret h (rt_I hf hq) dX0_lowestCritical_22
set_option maxHeartbeats 4000000 in
set_option maxRecDepth 100000 in
theorem c_X0_lowestCritical (l : Launch) (G : ZG) {N : Nat} {σ σ' : ZS} {r : Int32} (hf : f_X0_lowestCritical N σ = some (r, σ')) : zMet l G yX0_lowestCritical cX0_lowestCritical 2 (some .int) rm_X0_lowestCritical [.ref (G.1 7)] σ (some (.int r)) σ' := by
  refine z_met (by decide +kernel) rfl (fun Y h hq => ?_)
  have h : zOk (l, rm_X0_lowestCritical, 2, 0, 0) Y G cX0_lowestCritical RX0 (some .int) := h
  rw [f_X0_lowestCritical] at hf
  refine z_sub (lv' := [(0, .ref (G.1 7))]) [0] rfl ?_
  refine z_iconst h (v := (0 : Int32)) dX0_lowestCritical_0 ic_0 ?_
  refine z_istore_n h dX0_lowestCritical_1 rfl (lv' := [(1, .int (0 : Int32)), (0, .ref (G.1 7))]) rfl rfl ?_
  exact z_sub [1, 0] rfl (k_X0_lowestCritical_h2 h hq N _ _ _ hf)
theorem dX0_spareStrength_0 : decode cX0_spareStrength 0 = .ok (.aload_n 0, 1) := by decide +kernel
theorem dX0_spareStrength_1 : decode cX0_spareStrength 1 = .ok (.getfield 44, 3) := by decide +kernel
theorem dX0_spareStrength_4 : decode cX0_spareStrength 4 = .ok (.aload_n 0, 1) := by decide +kernel
theorem dX0_spareStrength_5 : decode cX0_spareStrength 5 = .ok (.getfield 34, 3) := by decide +kernel
theorem dX0_spareStrength_8 : decode cX0_spareStrength 8 = .ok (.invokevirtual 101, 3) := by decide +kernel
theorem dX0_spareStrength_11 : decode cX0_spareStrength 11 = .ok (.aload_n 0, 1) := by decide +kernel
theorem dX0_spareStrength_12 : decode cX0_spareStrength 12 = .ok (.getfield 18, 3) := by decide +kernel
theorem dX0_spareStrength_15 : decode cX0_spareStrength 15 = .ok (.iload_n 2, 1) := by decide +kernel
theorem dX0_spareStrength_16 : decode cX0_spareStrength 16 = .ok (.iaload, 1) := by decide +kernel
theorem dX0_spareStrength_17 : decode cX0_spareStrength 17 = .ok (.iconst 1, 1) := by decide +kernel
theorem dX0_spareStrength_18 : decode cX0_spareStrength 18 = .ok (.isub, 1) := by decide +kernel
theorem dX0_spareStrength_19 : decode cX0_spareStrength 19 = .ok (.istore_n 3, 1) := by decide +kernel
theorem dX0_spareStrength_20 : decode cX0_spareStrength 20 = .ok (.iload_n 3, 1) := by decide +kernel
theorem dX0_spareStrength_21 : decode cX0_spareStrength 21 = .ok (.ifCond .le 36, 3) := by decide +kernel
theorem dX0_spareStrength_24 : decode cX0_spareStrength 24 = .ok (.aload_n 0, 1) := by decide +kernel
theorem dX0_spareStrength_25 : decode cX0_spareStrength 25 = .ok (.iload_n 1, 1) := by decide +kernel
theorem dX0_spareStrength_26 : decode cX0_spareStrength 26 = .ok (.iload_n 2, 1) := by decide +kernel
theorem dX0_spareStrength_27 : decode cX0_spareStrength 27 = .ok (.iload_n 3, 1) := by decide +kernel
theorem dX0_spareStrength_28 : decode cX0_spareStrength 28 = .ok (.ineg, 1) := by decide +kernel
theorem dX0_spareStrength_29 : decode cX0_spareStrength 29 = .ok (.invokevirtual 132, 3) := by decide +kernel
theorem dX0_spareStrength_32 : decode cX0_spareStrength 32 = .ok (.ifCond .ne 19, 3) := by decide +kernel
theorem dX0_spareStrength_35 : decode cX0_spareStrength 35 = .ok (.aload_n 0, 1) := by decide +kernel
theorem dX0_spareStrength_36 : decode cX0_spareStrength 36 = .ok (.getfield 34, 3) := by decide +kernel
theorem dX0_spareStrength_39 : decode cX0_spareStrength 39 = .ok (.aload_n 0, 1) := by decide +kernel
theorem dX0_spareStrength_40 : decode cX0_spareStrength 40 = .ok (.getfield 44, 3) := by decide +kernel
theorem dX0_spareStrength_43 : decode cX0_spareStrength 43 = .ok (.invokevirtual 136, 3) := by decide +kernel
theorem dX0_spareStrength_46 : decode cX0_spareStrength 46 = .ok (.ifCond .eq 5, 3) := by decide +kernel
theorem dX0_spareStrength_49 : decode cX0_spareStrength 49 = .ok (.iload_n 3, 1) := by decide +kernel
theorem dX0_spareStrength_50 : decode cX0_spareStrength 50 = .ok (.ireturn, 1) := by decide +kernel
theorem dX0_spareStrength_51 : decode cX0_spareStrength 51 = .ok (.iinc 3 (-1), 3) := by decide +kernel
theorem dX0_spareStrength_54 : decode cX0_spareStrength 54 = .ok (.goto (-34), 3) := by decide +kernel
theorem dX0_spareStrength_57 : decode cX0_spareStrength 57 = .ok (.iconst 0, 1) := by decide +kernel
theorem dX0_spareStrength_58 : decode cX0_spareStrength 58 = .ok (.ireturn, 1) := by decide +kernel
abbrev rm_X0_spareStrength : Room := { frames := 4, cells := 0, slots := 0, locals := 151 }
noncomputable def f_X0_spareStrength_b51 (N : Nat) (kb20 : Int32 → ZS → Option (Int32 × ZS)) (x1 : Int32) (x2 : Int32) (x3 : Int32) (σ : ZS) : Option (Int32 × ZS) := bd (x3 + (-1 : Int32)) fun v9 => kb20 v9 σ
noncomputable def f_X0_spareStrength_h20 (N : Nat) (x1 : Int32) (x2 : Int32) : Nat → Int32 → ZS → Option (Int32 × ZS)
  | 0, _, _ => none
  | n + 1, x3, σ => (if x3 ≤ 0 then some ((0 : Int32), σ) else obd (f_X0_range N x1 x2 (-x3) σ) fun v6 σ7 => (if v6 = 0 then obd (f_X1_isSame N 9 12 σ7) fun v10 σ11 => (if v10 = 0 then f_X0_spareStrength_b51 N (fun x3_ σ_ => f_X0_spareStrength_h20 N x1 x2 n x3_ σ_) x1 x2 x3 σ11 else some (x3, σ11)) else f_X0_spareStrength_b51 N (fun x3_ σ_ => f_X0_spareStrength_h20 N x1 x2 n x3_ σ_) x1 x2 x3 σ7))
noncomputable def f_X0_spareStrength (N : Nat) (x1 : Int32) (x2 : Int32) (σ : ZS) : Option (Int32 × ZS) := obd (f_X1_copyFrom N 12 9 σ) fun _ σ2 => ck (inb x2 6) (bd ((gI σ2 60 (x2.toNatClampNeg)) - (1 : Int32)) fun v4 => f_X0_spareStrength_h20 N x1 x2 N v4 σ2)
set_option maxHeartbeats 4000000 in
set_option maxRecDepth 100000 in
theorem k_X0_spareStrength_b51 {l : Launch} {Y : ZY} {G : ZG} {r : Int32} {σ' : ZS} (h : zOk (l, rm_X0_spareStrength, 4, 0, 0) Y G cX0_spareStrength RX0 (some .int)) (hq : zRet (l, rm_X0_spareStrength, 4, 0, 0) Y G (some (.int r)) σ') (N : Nat) {kb20 : Int32 → ZS → Option (Int32 × ZS)} (x1 : Int32) (x2 : Int32) (x3 : Int32) (hb20 : ∀ (x3_ : Int32) (σ_ : ZS), kb20 x3_ σ_ = some (r, σ') → Z (l, rm_X0_spareStrength, 4, 0, 0) Y G σ_ [(0, .ref (G.1 7)), (1, .int x1), (2, .int x2), (3, .int x3_)] [] 20) (σ : ZS) (hf : f_X0_spareStrength_b51 N kb20 x1 x2 x3 σ = some (r, σ')) : Z (l, rm_X0_spareStrength, 4, 0, 0) Y G σ [(0, .ref (G.1 7)), (1, .int x1), (2, .int x2), (3, .int x3)] [] 51 := by
  rw [f_X0_spareStrength_b51] at hf
  obtain ⟨v9, ev9, hf⟩ := bd_ex hf
  refine z_iinc h (v := v9) (lv' := [(3, .int v9), (0, .ref (G.1 7)), (1, .int x1), (2, .int x2)]) dX0_spareStrength_51 3 rfl (by rw [ev9]; rfl) rfl rfl ?_
  refine z_goto h (tgt := 20) dX0_spareStrength_54 (by decide) ?_
  exact z_sub [1, 2, 3, 0] rfl (hb20 _ _ hf)
set_option maxHeartbeats 4000000 in
set_option maxRecDepth 100000 in
theorem k_X0_spareStrength_h20 {l : Launch} {Y : ZY} {G : ZG} {r : Int32} {σ' : ZS} (h : zOk (l, rm_X0_spareStrength, 4, 0, 0) Y G cX0_spareStrength RX0 (some .int)) (hq : zRet (l, rm_X0_spareStrength, 4, 0, 0) Y G (some (.int r)) σ') (N : Nat) (x1 : Int32) (x2 : Int32) : ∀ (n : Nat) (x3 : Int32) (σ : ZS), f_X0_spareStrength_h20 N x1 x2 n x3 σ = some (r, σ') → Z (l, rm_X0_spareStrength, 4, 0, 0) Y G σ [(0, .ref (G.1 7)), (1, .int x1), (2, .int x2), (3, .int x3)] [] 20 := by
  intro n
  induction n with
  | zero =>
    intro x3 σ hf
    rw [f_X0_spareStrength_h20] at hf
    cases hf
  | succ n ih =>
    intro x3 σ hf
    rw [f_X0_spareStrength_h20] at hf
    refine z_iload_n h dX0_spareStrength_20 rfl 3 rfl ?_
    refine z_if_le h (tgt := 57) dX0_spareStrength_21 (by decide) (fun g5 => ?_) (fun g5 => ?_)
    · have hf := it_pos g5 hf
      refine z_iconst h (v := (0 : Int32)) dX0_spareStrength_57 ic_0 ?_
      exact z_iret h (rt_I hf hq) dX0_spareStrength_58
    · have hf := it_neg g5 hf
      refine z_aload_n h dX0_spareStrength_24 rfl 0 rfl ?_
      refine z_iload_n h dX0_spareStrength_25 rfl 1 rfl ?_
      refine z_iload_n h dX0_spareStrength_26 rfl 2 rfl ?_
      refine z_iload_n h dX0_spareStrength_27 rfl 3 rfl ?_
      refine z_ineg h dX0_spareStrength_28 ?_
      obtain ⟨v6, σ7, e7, hf⟩ := obd_out hf
      refine z_cVv h (n := 3) (c_X0_range l G e7) zC0 tg_7 ln_7 rfl rfl wd_829 wd_590 wd_591 wd_19 wd_592 (by decide +kernel) ⟨rfl, rfl⟩ rfl rfl rfl dX0_spareStrength_29 ⟨Nat.zero_le _, Nat.zero_le _⟩ ?_
      refine z_if_ne h (tgt := 51) dX0_spareStrength_32 (by decide) (fun g8 => ?_) (fun g8 => ?_)
      · have hf := it_neg g8 hf
        exact z_sub [0, 1, 2, 3] rfl (k_X0_spareStrength_b51 h hq N x1 x2 x3 (fun x3_ σ_ hf_ => ih x3_ σ_ hf_) _ hf)
      · have hf := it_pos g8 hf
        refine z_aload_n h dX0_spareStrength_35 rfl 0 rfl ?_
        refine z_gfR h zC0 (d := 9) (c := 7) tg_7 ln_7 5 rfl ft_0_5 rf_7_5 wd_54 dX0_spareStrength_36 ?_
        refine z_aload_n h dX0_spareStrength_39 rfl 0 rfl ?_
        refine z_gfR h zC0 (d := 12) (c := 7) tg_7 ln_7 8 rfl ft_0_8 rf_7_8 wd_57 dX0_spareStrength_40 ?_
        obtain ⟨v10, σ11, e11, hf⟩ := obd_out hf
        refine z_cVv h (n := 1) (c_X1_isSame l G e11) zC1 tg_9 ln_9 rfl rfl wd_830 wd_831 wd_832 wd_25 wd_833 (by decide +kernel) ⟨rfl, rfl⟩ rfl rfl rfl dX0_spareStrength_43 ⟨Nat.zero_le _, Nat.zero_le _⟩ ?_
        refine z_if_eq h (tgt := 51) dX0_spareStrength_46 (by decide) (fun g12 => ?_) (fun g12 => ?_)
        · have hf := it_pos g12 hf
          exact z_sub [0, 1, 2, 3] rfl (k_X0_spareStrength_b51 h hq N x1 x2 x3 (fun x3_ σ_ hf_ => ih x3_ σ_ hf_) _ hf)
        · have hf := it_neg g12 hf
          refine z_iload_n h dX0_spareStrength_49 rfl 3 rfl ?_
          exact z_iret h (rt_I hf hq) dX0_spareStrength_50
set_option maxHeartbeats 4000000 in
set_option maxRecDepth 100000 in
theorem c_X0_spareStrength (l : Launch) (G : ZG) {N : Nat} {x1 : Int32} {x2 : Int32} {σ σ' : ZS} {r : Int32} (hf : f_X0_spareStrength N x1 x2 σ = some (r, σ')) : zMet l G yX0_spareStrength cX0_spareStrength 4 (some .int) rm_X0_spareStrength [.ref (G.1 7), .int x1, .int x2] σ (some (.int r)) σ' := by
  refine z_met (by decide +kernel) rfl (fun Y h hq => ?_)
  have h : zOk (l, rm_X0_spareStrength, 4, 0, 0) Y G cX0_spareStrength RX0 (some .int) := h
  rw [f_X0_spareStrength] at hf
  refine z_sub (lv' := [(0, .ref (G.1 7)), (1, .int x1), (2, .int x2)]) [0, 1, 2] rfl ?_
  refine z_aload_n h dX0_spareStrength_0 rfl 0 rfl ?_
  refine z_gfR h zC0 (d := 12) (c := 7) tg_7 ln_7 8 rfl ft_0_8 rf_7_8 wd_57 dX0_spareStrength_1 ?_
  refine z_aload_n h dX0_spareStrength_4 rfl 0 rfl ?_
  refine z_gfR h zC0 (d := 9) (c := 7) tg_7 ln_7 5 rfl ft_0_5 rf_7_5 wd_54 dX0_spareStrength_5 ?_
  obtain ⟨v1, σ2, e2, hf⟩ := obd_out hf
  refine z_cV0 h (n := 1) (c_X1_copyFrom l G e2) zC1 tg_12 ln_12 rfl rfl wd_605 wd_606 wd_607 wd_25 wd_608 (by decide +kernel) ⟨rfl, rfl⟩ rfl rfl rfl dX0_spareStrength_8 ⟨Nat.zero_le _, Nat.zero_le _⟩ ?_
  refine z_aload_n h dX0_spareStrength_11 rfl 0 rfl ?_
  refine z_gfR h zC0 (d := 60) (c := 7) tg_7 ln_7 1 rfl ft_0_1 rf_7_1 wd_48 dX0_spareStrength_12 ?_
  refine z_iload_n h dX0_spareStrength_15 rfl 2 rfl ?_
  obtain ⟨g3, hf⟩ := ck_out hf
  refine z_iald h (c := 60) tg_60 ln_60 g3 dX0_spareStrength_16 ?_
  refine z_iconst h (v := (1 : Int32)) dX0_spareStrength_17 ic_1 ?_
  refine z_isub h dX0_spareStrength_18 ?_
  refine z_topI (fun v4 ev4 => ?_)
  have hf := bd_to ev4 hf
  refine z_istore_n h dX0_spareStrength_19 rfl (lv' := [(3, .int v4), (0, .ref (G.1 7)), (1, .int x1), (2, .int x2)]) rfl rfl ?_
  exact z_sub [1, 2, 3, 0] rfl (k_X0_spareStrength_h20 h hq N x1 x2 _ _ _ hf)
theorem dX0_weakestBar_0 : decode cX0_weakestBar 0 = .ok (.bipush (-6), 2) := by decide +kernel
theorem dX0_weakestBar_2 : decode cX0_weakestBar 2 = .ok (.istore_n 2, 1) := by decide +kernel
theorem dX0_weakestBar_3 : decode cX0_weakestBar 3 = .ok (.aload_n 0, 1) := by decide +kernel
theorem dX0_weakestBar_4 : decode cX0_weakestBar 4 = .ok (.getfield 44, 3) := by decide +kernel
theorem dX0_weakestBar_7 : decode cX0_weakestBar 7 = .ok (.aload_n 0, 1) := by decide +kernel
theorem dX0_weakestBar_8 : decode cX0_weakestBar 8 = .ok (.getfield 34, 3) := by decide +kernel
theorem dX0_weakestBar_11 : decode cX0_weakestBar 11 = .ok (.invokevirtual 101, 3) := by decide +kernel
theorem dX0_weakestBar_14 : decode cX0_weakestBar 14 = .ok (.iconst 0, 1) := by decide +kernel
theorem dX0_weakestBar_15 : decode cX0_weakestBar 15 = .ok (.istore_n 3, 1) := by decide +kernel
theorem dX0_weakestBar_16 : decode cX0_weakestBar 16 = .ok (.iload_n 3, 1) := by decide +kernel
theorem dX0_weakestBar_17 : decode cX0_weakestBar 17 = .ok (.aload_n 0, 1) := by decide +kernel
theorem dX0_weakestBar_18 : decode cX0_weakestBar 18 = .ok (.getfield 53, 3) := by decide +kernel
theorem dX0_weakestBar_21 : decode cX0_weakestBar 21 = .ok (.if_icmp .ge 46, 3) := by decide +kernel
theorem dX0_weakestBar_24 : decode cX0_weakestBar 24 = .ok (.aload_n 0, 1) := by decide +kernel
theorem dX0_weakestBar_25 : decode cX0_weakestBar 25 = .ok (.iload_n 1, 1) := by decide +kernel
theorem dX0_weakestBar_26 : decode cX0_weakestBar 26 = .ok (.iload_n 3, 1) := by decide +kernel
theorem dX0_weakestBar_27 : decode cX0_weakestBar 27 = .ok (.iconst 1, 1) := by decide +kernel
theorem dX0_weakestBar_28 : decode cX0_weakestBar 28 = .ok (.invokevirtual 132, 3) := by decide +kernel
theorem dX0_weakestBar_31 : decode cX0_weakestBar 31 = .ok (.ifCond .ne 30, 3) := by decide +kernel
theorem dX0_weakestBar_34 : decode cX0_weakestBar 34 = .ok (.aload_n 0, 1) := by decide +kernel
theorem dX0_weakestBar_35 : decode cX0_weakestBar 35 = .ok (.getfield 44, 3) := by decide +kernel
theorem dX0_weakestBar_38 : decode cX0_weakestBar 38 = .ok (.aload_n 0, 1) := by decide +kernel
theorem dX0_weakestBar_39 : decode cX0_weakestBar 39 = .ok (.getfield 34, 3) := by decide +kernel
theorem dX0_weakestBar_42 : decode cX0_weakestBar 42 = .ok (.invokevirtual 97, 3) := by decide +kernel
theorem dX0_weakestBar_45 : decode cX0_weakestBar 45 = .ok (.ifCond .eq 16, 3) := by decide +kernel
theorem dX0_weakestBar_48 : decode cX0_weakestBar 48 = .ok (.aload_n 0, 1) := by decide +kernel
theorem dX0_weakestBar_49 : decode cX0_weakestBar 49 = .ok (.getfield 44, 3) := by decide +kernel
theorem dX0_weakestBar_52 : decode cX0_weakestBar 52 = .ok (.aload_n 0, 1) := by decide +kernel
theorem dX0_weakestBar_53 : decode cX0_weakestBar 53 = .ok (.getfield 34, 3) := by decide +kernel
theorem dX0_weakestBar_56 : decode cX0_weakestBar 56 = .ok (.invokevirtual 101, 3) := by decide +kernel
theorem dX0_weakestBar_59 : decode cX0_weakestBar 59 = .ok (.iload_n 3, 1) := by decide +kernel
theorem dX0_weakestBar_60 : decode cX0_weakestBar 60 = .ok (.istore_n 2, 1) := by decide +kernel
theorem dX0_weakestBar_61 : decode cX0_weakestBar 61 = .ok (.iinc 3 1, 3) := by decide +kernel
theorem dX0_weakestBar_64 : decode cX0_weakestBar 64 = .ok (.goto (-48), 3) := by decide +kernel
theorem dX0_weakestBar_67 : decode cX0_weakestBar 67 = .ok (.iload_n 2, 1) := by decide +kernel
theorem dX0_weakestBar_68 : decode cX0_weakestBar 68 = .ok (.ireturn, 1) := by decide +kernel
abbrev rm_X0_weakestBar : Room := { frames := 4, cells := 0, slots := 0, locals := 151 }
noncomputable def f_X0_weakestBar_b61 (N : Nat) (kb16 : Int32 → Int32 → ZS → Option (Int32 × ZS)) (x1 : Int32) (x2 : Int32) (x3 : Int32) (σ : ZS) : Option (Int32 × ZS) := bd (x3 + (1 : Int32)) fun v7 => kb16 x2 v7 σ
noncomputable def f_X0_weakestBar_h16 (N : Nat) (x1 : Int32) : Nat → Int32 → Int32 → ZS → Option (Int32 × ZS)
  | 0, _, _, _ => none
  | n + 1, x2, x3, σ => (if (gI σ 7 2) ≤ x3 then some (x2, σ) else obd (f_X0_range N x1 x3 (1 : Int32) σ) fun v4 σ5 => (if v4 = 0 then obd (f_X1_isBelow N 12 9 σ5) fun v8 σ9 => (if v8 = 0 then f_X0_weakestBar_b61 N (fun x2_ x3_ σ_ => f_X0_weakestBar_h16 N x1 n x2_ x3_ σ_) x1 x2 x3 σ9 else obd (f_X1_copyFrom N 12 9 σ9) fun _ σ12 => f_X0_weakestBar_b61 N (fun x2_ x3_ σ_ => f_X0_weakestBar_h16 N x1 n x2_ x3_ σ_) x1 x3 x3 σ12) else f_X0_weakestBar_b61 N (fun x2_ x3_ σ_ => f_X0_weakestBar_h16 N x1 n x2_ x3_ σ_) x1 x2 x3 σ5))
noncomputable def f_X0_weakestBar (N : Nat) (x1 : Int32) (σ : ZS) : Option (Int32 × ZS) := obd (f_X1_copyFrom N 12 9 σ) fun _ σ2 => f_X0_weakestBar_h16 N x1 N (-6 : Int32) (0 : Int32) σ2
set_option maxHeartbeats 4000000 in
set_option maxRecDepth 100000 in
theorem k_X0_weakestBar_b61 {l : Launch} {Y : ZY} {G : ZG} {r : Int32} {σ' : ZS} (h : zOk (l, rm_X0_weakestBar, 4, 0, 0) Y G cX0_weakestBar RX0 (some .int)) (hq : zRet (l, rm_X0_weakestBar, 4, 0, 0) Y G (some (.int r)) σ') (N : Nat) {kb16 : Int32 → Int32 → ZS → Option (Int32 × ZS)} (x1 : Int32) (x2 : Int32) (x3 : Int32) (hb16 : ∀ (x2_ : Int32) (x3_ : Int32) (σ_ : ZS), kb16 x2_ x3_ σ_ = some (r, σ') → Z (l, rm_X0_weakestBar, 4, 0, 0) Y G σ_ [(0, .ref (G.1 7)), (1, .int x1), (2, .int x2_), (3, .int x3_)] [] 16) (σ : ZS) (hf : f_X0_weakestBar_b61 N kb16 x1 x2 x3 σ = some (r, σ')) : Z (l, rm_X0_weakestBar, 4, 0, 0) Y G σ [(0, .ref (G.1 7)), (1, .int x1), (2, .int x2), (3, .int x3)] [] 61 := by
  rw [f_X0_weakestBar_b61] at hf
  obtain ⟨v7, ev7, hf⟩ := bd_ex hf
  refine z_iinc h (v := v7) (lv' := [(3, .int v7), (0, .ref (G.1 7)), (1, .int x1), (2, .int x2)]) dX0_weakestBar_61 3 rfl (by rw [ev7]; rfl) rfl rfl ?_
  refine z_goto h (tgt := 16) dX0_weakestBar_64 (by decide) ?_
  exact z_sub [1, 2, 3, 0] rfl (hb16 _ _ _ hf)
set_option maxHeartbeats 4000000 in
set_option maxRecDepth 100000 in
theorem k_X0_weakestBar_h16 {l : Launch} {Y : ZY} {G : ZG} {r : Int32} {σ' : ZS} (h : zOk (l, rm_X0_weakestBar, 4, 0, 0) Y G cX0_weakestBar RX0 (some .int)) (hq : zRet (l, rm_X0_weakestBar, 4, 0, 0) Y G (some (.int r)) σ') (N : Nat) (x1 : Int32) : ∀ (n : Nat) (x2 : Int32) (x3 : Int32) (σ : ZS), f_X0_weakestBar_h16 N x1 n x2 x3 σ = some (r, σ') → Z (l, rm_X0_weakestBar, 4, 0, 0) Y G σ [(0, .ref (G.1 7)), (1, .int x1), (2, .int x2), (3, .int x3)] [] 16 := by
  intro n
  induction n with
  | zero =>
    intro x2 x3 σ hf
    rw [f_X0_weakestBar_h16] at hf
    cases hf
  | succ n ih =>
    intro x2 x3 σ hf
    rw [f_X0_weakestBar_h16] at hf
    refine z_iload_n h dX0_weakestBar_16 rfl 3 rfl ?_
    refine z_aload_n h dX0_weakestBar_17 rfl 0 rfl ?_
    refine z_gfI h zC0 (c := 7) tg_7 ln_7 2 rfl ft_0_2 wd_391 dX0_weakestBar_18 ?_
    refine z_icmp_ge h (tgt := 67) dX0_weakestBar_21 (by decide) (fun g3 => ?_) (fun g3 => ?_)
    · have hf := it_pos g3 hf
      refine z_iload_n h dX0_weakestBar_67 rfl 2 rfl ?_
      exact z_iret h (rt_I hf hq) dX0_weakestBar_68
    · have hf := it_neg g3 hf
      refine z_aload_n h dX0_weakestBar_24 rfl 0 rfl ?_
      refine z_iload_n h dX0_weakestBar_25 rfl 1 rfl ?_
      refine z_iload_n h dX0_weakestBar_26 rfl 3 rfl ?_
      refine z_iconst h (v := (1 : Int32)) dX0_weakestBar_27 ic_1 ?_
      obtain ⟨v4, σ5, e5, hf⟩ := obd_out hf
      refine z_cVv h (n := 3) (c_X0_range l G e5) zC0 tg_7 ln_7 rfl rfl wd_829 wd_590 wd_591 wd_19 wd_592 (by decide +kernel) ⟨rfl, rfl⟩ rfl rfl rfl dX0_weakestBar_28 ⟨Nat.zero_le _, Nat.zero_le _⟩ ?_
      refine z_if_ne h (tgt := 61) dX0_weakestBar_31 (by decide) (fun g6 => ?_) (fun g6 => ?_)
      · have hf := it_neg g6 hf
        exact z_sub [0, 1, 2, 3] rfl (k_X0_weakestBar_b61 h hq N x1 x2 x3 (fun x2_ x3_ σ_ hf_ => ih x2_ x3_ σ_ hf_) _ hf)
      · have hf := it_pos g6 hf
        refine z_aload_n h dX0_weakestBar_34 rfl 0 rfl ?_
        refine z_gfR h zC0 (d := 12) (c := 7) tg_7 ln_7 8 rfl ft_0_8 rf_7_8 wd_57 dX0_weakestBar_35 ?_
        refine z_aload_n h dX0_weakestBar_38 rfl 0 rfl ?_
        refine z_gfR h zC0 (d := 9) (c := 7) tg_7 ln_7 5 rfl ft_0_5 rf_7_5 wd_54 dX0_weakestBar_39 ?_
        obtain ⟨v8, σ9, e9, hf⟩ := obd_out hf
        refine z_cVv h (n := 1) (c_X1_isBelow l G e9) zC1 tg_12 ln_12 rfl rfl wd_597 wd_598 wd_599 wd_25 wd_600 (by decide +kernel) ⟨rfl, rfl⟩ rfl rfl rfl dX0_weakestBar_42 ⟨Nat.zero_le _, Nat.zero_le _⟩ ?_
        refine z_if_eq h (tgt := 61) dX0_weakestBar_45 (by decide) (fun g10 => ?_) (fun g10 => ?_)
        · have hf := it_pos g10 hf
          exact z_sub [0, 1, 2, 3] rfl (k_X0_weakestBar_b61 h hq N x1 x2 x3 (fun x2_ x3_ σ_ hf_ => ih x2_ x3_ σ_ hf_) _ hf)
        · have hf := it_neg g10 hf
          refine z_aload_n h dX0_weakestBar_48 rfl 0 rfl ?_
          refine z_gfR h zC0 (d := 12) (c := 7) tg_7 ln_7 8 rfl ft_0_8 rf_7_8 wd_57 dX0_weakestBar_49 ?_
          refine z_aload_n h dX0_weakestBar_52 rfl 0 rfl ?_
          refine z_gfR h zC0 (d := 9) (c := 7) tg_7 ln_7 5 rfl ft_0_5 rf_7_5 wd_54 dX0_weakestBar_53 ?_
          obtain ⟨v11, σ12, e12, hf⟩ := obd_out hf
          refine z_cV0 h (n := 1) (c_X1_copyFrom l G e12) zC1 tg_12 ln_12 rfl rfl wd_605 wd_606 wd_607 wd_25 wd_608 (by decide +kernel) ⟨rfl, rfl⟩ rfl rfl rfl dX0_weakestBar_56 ⟨Nat.zero_le _, Nat.zero_le _⟩ ?_
          refine z_iload_n h dX0_weakestBar_59 rfl 3 rfl ?_
          refine z_istore_n h dX0_weakestBar_60 rfl (lv' := [(2, .int x3), (0, .ref (G.1 7)), (1, .int x1), (3, .int x3)]) rfl rfl ?_
          exact z_sub [1, 2, 0, 3] rfl (k_X0_weakestBar_b61 h hq N x1 x3 x3 (fun x2_ x3_ σ_ hf_ => ih x2_ x3_ σ_ hf_) _ hf)
set_option maxHeartbeats 4000000 in
set_option maxRecDepth 100000 in
theorem c_X0_weakestBar (l : Launch) (G : ZG) {N : Nat} {x1 : Int32} {σ σ' : ZS} {r : Int32} (hf : f_X0_weakestBar N x1 σ = some (r, σ')) : zMet l G yX0_weakestBar cX0_weakestBar 4 (some .int) rm_X0_weakestBar [.ref (G.1 7), .int x1] σ (some (.int r)) σ' := by
  refine z_met (by decide +kernel) rfl (fun Y h hq => ?_)
  have h : zOk (l, rm_X0_weakestBar, 4, 0, 0) Y G cX0_weakestBar RX0 (some .int) := h
  rw [f_X0_weakestBar] at hf
  refine z_sub (lv' := [(0, .ref (G.1 7)), (1, .int x1)]) [0, 1] rfl ?_
  refine z_bipush h (v := (-6 : Int32)) dX0_weakestBar_0 bp_m6 ?_
  refine z_istore_n h dX0_weakestBar_2 rfl (lv' := [(2, .int (-6 : Int32)), (0, .ref (G.1 7)), (1, .int x1)]) rfl rfl ?_
  refine z_aload_n h dX0_weakestBar_3 rfl 1 rfl ?_
  refine z_gfR h zC0 (d := 12) (c := 7) tg_7 ln_7 8 rfl ft_0_8 rf_7_8 wd_57 dX0_weakestBar_4 ?_
  refine z_aload_n h dX0_weakestBar_7 rfl 1 rfl ?_
  refine z_gfR h zC0 (d := 9) (c := 7) tg_7 ln_7 5 rfl ft_0_5 rf_7_5 wd_54 dX0_weakestBar_8 ?_
  obtain ⟨v1, σ2, e2, hf⟩ := obd_out hf
  refine z_cV0 h (n := 1) (c_X1_copyFrom l G e2) zC1 tg_12 ln_12 rfl rfl wd_605 wd_606 wd_607 wd_25 wd_608 (by decide +kernel) ⟨rfl, rfl⟩ rfl rfl rfl dX0_weakestBar_11 ⟨Nat.zero_le _, Nat.zero_le _⟩ ?_
  refine z_iconst h (v := (0 : Int32)) dX0_weakestBar_14 ic_0 ?_
  refine z_istore_n h dX0_weakestBar_15 rfl (lv' := [(3, .int (0 : Int32)), (2, .int (-6 : Int32)), (0, .ref (G.1 7)), (1, .int x1)]) rfl rfl ?_
  exact z_sub [2, 3, 1, 0] rfl (k_X0_weakestBar_h16 h hq N x1 _ _ _ _ hf)
