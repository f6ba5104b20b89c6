theorem dX6_isWithin_0 : decode cX6_isWithin 0 = .ok (.iconst 0, 1) := by decide +kernel
theorem dX6_isWithin_1 : decode cX6_isWithin 1 = .ok (.istore_n 1, 1) := by decide +kernel
theorem dX6_isWithin_2 : decode cX6_isWithin 2 = .ok (.iload_n 1, 1) := by decide +kernel
theorem dX6_isWithin_3 : decode cX6_isWithin 3 = .ok (.iconst 2, 1) := by decide +kernel
theorem dX6_isWithin_4 : decode cX6_isWithin 4 = .ok (.aload_n 0, 1) := by decide +kernel
theorem dX6_isWithin_5 : decode cX6_isWithin 5 = .ok (.getfield 141, 3) := by decide +kernel
theorem dX6_isWithin_8 : decode cX6_isWithin 8 = .ok (.imul, 1) := by decide +kernel
theorem dX6_isWithin_9 : decode cX6_isWithin 9 = .ok (.if_icmp .ge 88, 3) := by decide +kernel
theorem dX6_isWithin_12 : decode cX6_isWithin 12 = .ok (.bipush 12, 2) := by decide +kernel
theorem dX6_isWithin_14 : decode cX6_isWithin 14 = .ok (.aload_n 0, 1) := by decide +kernel
theorem dX6_isWithin_15 : decode cX6_isWithin 15 = .ok (.iload_n 1, 1) := by decide +kernel
theorem dX6_isWithin_16 : decode cX6_isWithin 16 = .ok (.iconst 2, 1) := by decide +kernel
theorem dX6_isWithin_17 : decode cX6_isWithin 17 = .ok (.idiv, 1) := by decide +kernel
theorem dX6_isWithin_18 : decode cX6_isWithin 18 = .ok (.invokevirtual 154, 3) := by decide +kernel
theorem dX6_isWithin_21 : decode cX6_isWithin 21 = .ok (.idiv, 1) := by decide +kernel
theorem dX6_isWithin_22 : decode cX6_isWithin 22 = .ok (.i2l, 1) := by decide +kernel
theorem dX6_isWithin_23 : decode cX6_isWithin 23 = .ok (.aload_n 0, 1) := by decide +kernel
theorem dX6_isWithin_24 : decode cX6_isWithin 24 = .ok (.getfield 240, 3) := by decide +kernel
theorem dX6_isWithin_27 : decode cX6_isWithin 27 = .ok (.lmul, 1) := by decide +kernel
theorem dX6_isWithin_28 : decode cX6_isWithin 28 = .ok (.aload_n 0, 1) := by decide +kernel
theorem dX6_isWithin_29 : decode cX6_isWithin 29 = .ok (.getfield 230, 3) := by decide +kernel
theorem dX6_isWithin_32 : decode cX6_isWithin 32 = .ok (.lconst 0, 1) := by decide +kernel
theorem dX6_isWithin_33 : decode cX6_isWithin 33 = .ok (.lcmp, 1) := by decide +kernel
theorem dX6_isWithin_34 : decode cX6_isWithin 34 = .ok (.ifCond .ge 11, 3) := by decide +kernel
theorem dX6_isWithin_37 : decode cX6_isWithin 37 = .ok (.aload_n 0, 1) := by decide +kernel
theorem dX6_isWithin_38 : decode cX6_isWithin 38 = .ok (.getfield 230, 3) := by decide +kernel
theorem dX6_isWithin_41 : decode cX6_isWithin 41 = .ok (.lneg, 1) := by decide +kernel
theorem dX6_isWithin_42 : decode cX6_isWithin 42 = .ok (.goto 7, 3) := by decide +kernel
theorem dX6_isWithin_45 : decode cX6_isWithin 45 = .ok (.aload_n 0, 1) := by decide +kernel
theorem dX6_isWithin_46 : decode cX6_isWithin 46 = .ok (.getfield 230, 3) := by decide +kernel
theorem dX6_isWithin_49 : decode cX6_isWithin 49 = .ok (.lmul, 1) := by decide +kernel
theorem dX6_isWithin_50 : decode cX6_isWithin 50 = .ok (.aload_n 0, 1) := by decide +kernel
theorem dX6_isWithin_51 : decode cX6_isWithin 51 = .ok (.iload_n 1, 1) := by decide +kernel
theorem dX6_isWithin_52 : decode cX6_isWithin 52 = .ok (.invokevirtual 255, 3) := by decide +kernel
theorem dX6_isWithin_55 : decode cX6_isWithin 55 = .ok (.lmul, 1) := by decide +kernel
theorem dX6_isWithin_56 : decode cX6_isWithin 56 = .ok (.lstore_n 2, 1) := by decide +kernel
theorem dX6_isWithin_57 : decode cX6_isWithin 57 = .ok (.aload_n 0, 1) := by decide +kernel
theorem dX6_isWithin_58 : decode cX6_isWithin 58 = .ok (.getfield 79, 3) := by decide +kernel
theorem dX6_isWithin_61 : decode cX6_isWithin 61 = .ok (.iload_n 1, 1) := by decide +kernel
theorem dX6_isWithin_62 : decode cX6_isWithin 62 = .ok (.iaload, 1) := by decide +kernel
theorem dX6_isWithin_63 : decode cX6_isWithin 63 = .ok (.ifCond .lt 28, 3) := by decide +kernel
theorem dX6_isWithin_66 : decode cX6_isWithin 66 = .ok (.aload_n 0, 1) := by decide +kernel
theorem dX6_isWithin_67 : decode cX6_isWithin 67 = .ok (.getfield 95, 3) := by decide +kernel
theorem dX6_isWithin_70 : decode cX6_isWithin 70 = .ok (.iload_n 1, 1) := by decide +kernel
theorem dX6_isWithin_71 : decode cX6_isWithin 71 = .ok (.laload, 1) := by decide +kernel
theorem dX6_isWithin_72 : decode cX6_isWithin 72 = .ok (.lload_n 2, 1) := by decide +kernel
theorem dX6_isWithin_73 : decode cX6_isWithin 73 = .ok (.lcmp, 1) := by decide +kernel
theorem dX6_isWithin_74 : decode cX6_isWithin 74 = .ok (.ifCond .gt 15, 3) := by decide +kernel
theorem dX6_isWithin_77 : decode cX6_isWithin 77 = .ok (.aload_n 0, 1) := by decide +kernel
theorem dX6_isWithin_78 : decode cX6_isWithin 78 = .ok (.getfield 95, 3) := by decide +kernel
theorem dX6_isWithin_81 : decode cX6_isWithin 81 = .ok (.iload_n 1, 1) := by decide +kernel
theorem dX6_isWithin_82 : decode cX6_isWithin 82 = .ok (.laload, 1) := by decide +kernel
theorem dX6_isWithin_83 : decode cX6_isWithin 83 = .ok (.lneg, 1) := by decide +kernel
theorem dX6_isWithin_84 : decode cX6_isWithin 84 = .ok (.lload_n 2, 1) := by decide +kernel
theorem dX6_isWithin_85 : decode cX6_isWithin 85 = .ok (.lcmp, 1) := by decide +kernel
theorem dX6_isWithin_86 : decode cX6_isWithin 86 = .ok (.ifCond .le 5, 3) := by decide +kernel
theorem dX6_isWithin_89 : decode cX6_isWithin 89 = .ok (.iconst 0, 1) := by decide +kernel
theorem dX6_isWithin_90 : decode cX6_isWithin 90 = .ok (.ireturn, 1) := by decide +kernel
theorem dX6_isWithin_91 : decode cX6_isWithin 91 = .ok (.iinc 1 1, 3) := by decide +kernel
theorem dX6_isWithin_94 : decode cX6_isWithin 94 = .ok (.goto (-92), 3) := by decide +kernel
theorem dX6_isWithin_97 : decode cX6_isWithin 97 = .ok (.iconst 1, 1) := by decide +kernel
theorem dX6_isWithin_98 : decode cX6_isWithin 98 = .ok (.ireturn, 1) := by decide +kernel
abbrev rm_X6_isWithin : Room := { frames := 1, cells := 0, slots := 0, locals := 29 }
noncomputable def f_X6_isWithin_b91 (N : Nat) (kb2 : Int32 → ZS → Option (Int32 × ZS)) (x1 : Int32) (σ : ZS) : Option (Int32 × ZS) := bd (x1 + (1 : Int32)) fun v11 => kb2 v11 σ
noncomputable def f_X6_isWithin_b49 (N : Nat) (kb2 : Int32 → ZS → Option (Int32 × ZS)) (x1 : Int32) (s0 : Int64) (s1 : Int64) (σ : ZS) : Option (Int32 × ZS) := obd (f_X6_strengthOf N x1 σ) fun v6 σ7 => bd ((s0 * s1) * v6) fun v8 => ck (inb x1 15) ((if (gI σ7 1089 (x1.toNatClampNeg)) < 0 then f_X6_isWithin_b91 N kb2 x1 σ7 else ck (inb x1 15) ((if v8 < (gJ σ7 1093 (x1.toNatClampNeg)) then some ((0 : Int32), σ7) else ck (inb x1 15) ((if v8 < (-(gJ σ7 1093 (x1.toNatClampNeg))) then some ((0 : Int32), σ7) else f_X6_isWithin_b91 N kb2 x1 σ7))))))
noncomputable def f_X6_isWithin_h2 (N : Nat) : Nat → Int32 → ZS → Option (Int32 × ZS)
  | 0, _, _ => none
  | n + 1, x1, σ => (if ((2 : Int32) * (gI σ 1067 4)) ≤ x1 then some ((1 : Int32), σ) else obd (f_X6_length N (x1 / (2 : Int32)) σ) fun v2 σ3 => ck (!(v2 == 0)) ((if (gJ σ3 1067 29) < (0 : Int64) then f_X6_isWithin_b49 N (fun x1_ σ_ => f_X6_isWithin_h2 N n x1_ σ_) x1 ((((12 : Int32) / v2).toInt64) * (gJ σ3 1067 33)) (-(gJ σ3 1067 29)) σ3 else f_X6_isWithin_b49 N (fun x1_ σ_ => f_X6_isWithin_h2 N n x1_ σ_) x1 ((((12 : Int32) / v2).toInt64) * (gJ σ3 1067 33)) (gJ σ3 1067 29) σ3)))
noncomputable def f_X6_isWithin (N : Nat) (σ : ZS) : Option (Int32 × ZS) := f_X6_isWithin_h2 N N (0 : Int32) σ
set_option maxHeartbeats 4000000 in
set_option maxRecDepth 100000 in
theorem k_X6_isWithin_b91 {l : Launch} {Y : ZY} {G : ZG} {r : Int32} {σ' : ZS} (h : zOk (l, rm_X6_isWithin, 4, 0, 0) Y G cX6_isWithin RX6 (some .boolean)) (hq : zRet (l, rm_X6_isWithin, 4, 0, 0) Y G (some (.int r)) σ') (N : Nat) {kb2 : Int32 → ZS → Option (Int32 × ZS)} (x1 : Int32) (hb2 : ∀ (x1_ : Int32) (σ_ : ZS), kb2 x1_ σ_ = some (r, σ') → Z (l, rm_X6_isWithin, 4, 0, 0) Y G σ_ [(0, .ref (G.1 1067)), (1, .int x1_)] [] 2) (σ : ZS) (hf : f_X6_isWithin_b91 N kb2 x1 σ = some (r, σ')) : Z (l, rm_X6_isWithin, 4, 0, 0) Y G σ [(0, .ref (G.1 1067)), (1, .int x1)] [] 91 := by
  rw [f_X6_isWithin_b91] at hf
  obtain ⟨v11, ev11, hf⟩ := bd_ex hf
  refine z_iinc h (v := v11) (lv' := [(1, .int v11), (0, .ref (G.1 1067))]) dX6_isWithin_91 1 rfl (by rw [ev11]; rfl) rfl rfl ?_
  refine z_goto h (tgt := 2) dX6_isWithin_94 (by decide) ?_
  exact z_sub [1, 0] rfl (hb2 _ _ hf)
set_option maxHeartbeats 4000000 in
set_option maxRecDepth 100000 in
theorem k_X6_isWithin_b49 {l : Launch} {Y : ZY} {G : ZG} {r : Int32} {σ' : ZS} (h : zOk (l, rm_X6_isWithin, 4, 0, 0) Y G cX6_isWithin RX6 (some .boolean)) (hq : zRet (l, rm_X6_isWithin, 4, 0, 0) Y G (some (.int r)) σ') (N : Nat) {kb2 : Int32 → ZS → Option (Int32 × ZS)} (x1 : Int32) (s0 : Int64) (s1 : Int64) (hb2 : ∀ (x1_ : Int32) (σ_ : ZS), kb2 x1_ σ_ = some (r, σ') → Z (l, rm_X6_isWithin, 4, 0, 0) Y G σ_ [(0, .ref (G.1 1067)), (1, .int x1_)] [] 2) (σ : ZS) (hf : f_X6_isWithin_b49 N kb2 x1 s0 s1 σ = some (r, σ')) : Z (l, rm_X6_isWithin, 4, 0, 0) Y G σ [(0, .ref (G.1 1067)), (1, .int x1)] [.long s1, .long s0] 49 := by
  rw [f_X6_isWithin_b49] at hf
  refine z_lmul h dX6_isWithin_49 ?_
  refine z_aload_n h dX6_isWithin_50 rfl 0 rfl ?_
  refine z_iload_n h dX6_isWithin_51 rfl 1 rfl ?_
  obtain ⟨v6, σ7, e7, hf⟩ := obd_out hf
  refine z_cVv h (n := 1) (c_X6_strengthOf l G e7) zC6 tg_1067 ln_1067 rfl rfl wd_663 wd_664 wd_665 wd_5 wd_666 (by decide +kernel) ⟨rfl, rfl⟩ rfl rfl rfl dX6_isWithin_52 ⟨Nat.zero_le _, Nat.zero_le _⟩ ?_
  refine z_lmul h dX6_isWithin_55 ?_
  refine z_topJ (fun v8 ev8 => ?_)
  have hf := bd_to ev8 hf
  refine z_lstore_n h dX6_isWithin_56 rfl (lv' := [(2, .long v8), (0, .ref (G.1 1067)), (1, .int x1)]) rfl rfl ?_
  refine z_aload_n h dX6_isWithin_57 rfl 1 rfl ?_
  refine z_gfR h zC6 (d := 1089) (c := 1067) tg_1067 ln_1067 28 rfl ft_6_28 rf_1067_28 wd_111 dX6_isWithin_58 ?_
  refine z_iload_n h dX6_isWithin_61 rfl 2 rfl ?_
  obtain ⟨g9, hf⟩ := ck_out hf
  refine z_iald h (c := 1089) tg_1089 ln_1089 g9 dX6_isWithin_62 ?_
  refine z_if_lt h (tgt := 91) dX6_isWithin_63 (by decide) (fun g10 => ?_) (fun g10 => ?_)
  · have hf := it_pos g10 hf
    exact z_sub [1, 2] rfl (k_X6_isWithin_b91 h hq N x1 hb2 _ hf)
  · have hf := it_neg g10 hf
    refine z_aload_n h dX6_isWithin_66 rfl 1 rfl ?_
    refine z_gfR h zC6 (d := 1093) (c := 1067) tg_1067 ln_1067 38 rfl ft_6_38 rf_1067_38 wd_116 dX6_isWithin_67 ?_
    refine z_iload_n h dX6_isWithin_70 rfl 2 rfl ?_
    obtain ⟨g12, hf⟩ := ck_out hf
    refine z_lald h (c := 1093) tg_1093 ln_1093 g12 dX6_isWithin_71 ?_
    refine z_lload_n h dX6_isWithin_72 rfl 0 rfl ?_
    refine z_lif_gt h (tgt := 89) dX6_isWithin_73 dX6_isWithin_74 (by decide) (fun g13 => ?_) (fun g13 => ?_)
    · have hf := it_pos g13 hf
      refine z_iconst h (v := (0 : Int32)) dX6_isWithin_89 ic_0 ?_
      exact z_zret h rfl (rt_I hf hq) dX6_isWithin_90
    · have hf := it_neg g13 hf
      refine z_aload_n h dX6_isWithin_77 rfl 1 rfl ?_
      refine z_gfR h zC6 (d := 1093) (c := 1067) tg_1067 ln_1067 38 rfl ft_6_38 rf_1067_38 wd_116 dX6_isWithin_78 ?_
      refine z_iload_n h dX6_isWithin_81 rfl 2 rfl ?_
      obtain ⟨g14, hf⟩ := ck_out hf
      refine z_lald h (c := 1093) tg_1093 ln_1093 g14 dX6_isWithin_82 ?_
      refine z_lneg h dX6_isWithin_83 ?_
      refine z_lload_n h dX6_isWithin_84 rfl 0 rfl ?_
      refine z_lif_le h (tgt := 91) dX6_isWithin_85 dX6_isWithin_86 (by decide) (fun g15 => ?_) (fun g15 => ?_)
      · have hf := it_neg g15 hf
        exact z_sub [1, 2] rfl (k_X6_isWithin_b91 h hq N x1 hb2 _ hf)
      · have hf := it_pos g15 hf
        refine z_iconst h (v := (0 : Int32)) dX6_isWithin_89 ic_0 ?_
        exact z_zret h rfl (rt_I hf hq) dX6_isWithin_90
set_option maxHeartbeats 4000000 in
set_option maxRecDepth 100000 in
theorem k_X6_isWithin_h2 {l : Launch} {Y : ZY} {G : ZG} {r : Int32} {σ' : ZS} (h : zOk (l, rm_X6_isWithin, 4, 0, 0) Y G cX6_isWithin RX6 (some .boolean)) (hq : zRet (l, rm_X6_isWithin, 4, 0, 0) Y G (some (.int r)) σ') (N : Nat) : ∀ (n : Nat) (x1 : Int32) (σ : ZS), f_X6_isWithin_h2 N n x1 σ = some (r, σ') → Z (l, rm_X6_isWithin, 4, 0, 0) Y G σ [(0, .ref (G.1 1067)), (1, .int x1)] [] 2 := by
  intro n
  induction n with
  | zero =>
    intro x1 σ hf
    rw [f_X6_isWithin_h2] at hf
    cases hf
  | succ n ih =>
    intro x1 σ hf
    rw [f_X6_isWithin_h2] at hf
    refine z_iload_n h dX6_isWithin_2 rfl 1 rfl ?_
    refine z_iconst h (v := (2 : Int32)) dX6_isWithin_3 ic_2 ?_
    refine z_aload_n h dX6_isWithin_4 rfl 0 rfl ?_
    refine z_gfI h zC6 (c := 1067) tg_1067 ln_1067 4 rfl ft_6_4 wd_200 dX6_isWithin_5 ?_
    refine z_imul h dX6_isWithin_8 ?_
    refine z_icmp_ge h (tgt := 97) dX6_isWithin_9 (by decide) (fun g1 => ?_) (fun g1 => ?_)
    · have hf := it_pos g1 hf
      refine z_iconst h (v := (1 : Int32)) dX6_isWithin_97 ic_1 ?_
      exact z_zret h rfl (rt_I hf hq) dX6_isWithin_98
    · have hf := it_neg g1 hf
      refine z_bipush h (v := (12 : Int32)) dX6_isWithin_12 bp_12 ?_
      refine z_aload_n h dX6_isWithin_14 rfl 0 rfl ?_
      refine z_iload_n h dX6_isWithin_15 rfl 1 rfl ?_
      refine z_iconst h (v := (2 : Int32)) dX6_isWithin_16 ic_2 ?_
      refine z_idiv h dX6_isWithin_17 (by decide) ?_
      obtain ⟨v2, σ3, e3, hf⟩ := obd_out hf
      refine z_cVv h (n := 1) (c_X6_length l G e3) zC6 tg_1067 ln_1067 rfl rfl wd_265 wd_266 wd_267 wd_5 wd_268 (by decide +kernel) ⟨rfl, rfl⟩ rfl rfl rfl dX6_isWithin_18 ⟨Nat.zero_le _, Nat.zero_le _⟩ ?_
      obtain ⟨g4, hf⟩ := ck_out hf
      refine z_idiv h dX6_isWithin_21 (nz_of g4) ?_
      refine z_i2l h dX6_isWithin_22 ?_
      refine z_aload_n h dX6_isWithin_23 rfl 0 rfl ?_
      refine z_gfJ h zC6 (c := 1067) tg_1067 ln_1067 33 rfl ft_6_33 wd_639 dX6_isWithin_24 ?_
      refine z_lmul h dX6_isWithin_27 ?_
      refine z_aload_n h dX6_isWithin_28 rfl 0 rfl ?_
      refine z_gfJ h zC6 (c := 1067) tg_1067 ln_1067 29 rfl ft_6_29 wd_625 dX6_isWithin_29 ?_
      refine z_lconst h (v := (0 : Int64)) dX6_isWithin_32 lc_0 ?_
      refine z_lif_ge h (tgt := 45) dX6_isWithin_33 dX6_isWithin_34 (by decide) (fun g5 => ?_) (fun g5 => ?_)
      · have hf := it_neg g5 hf
        refine z_aload_n h dX6_isWithin_45 rfl 0 rfl ?_
        refine z_gfJ h zC6 (c := 1067) tg_1067 ln_1067 29 rfl ft_6_29 wd_625 dX6_isWithin_46 ?_
        exact z_sub [0, 1] rfl (k_X6_isWithin_b49 h hq N x1 ((((12 : Int32) / v2).toInt64) * (gJ σ3 1067 33)) (gJ σ3 1067 29) (fun x1_ σ_ hf_ => ih x1_ σ_ hf_) _ hf)
      · have hf := it_pos g5 hf
        refine z_aload_n h dX6_isWithin_37 rfl 0 rfl ?_
        refine z_gfJ h zC6 (c := 1067) tg_1067 ln_1067 29 rfl ft_6_29 wd_625 dX6_isWithin_38 ?_
        refine z_lneg h dX6_isWithin_41 ?_
        refine z_goto h (tgt := 49) dX6_isWithin_42 (by decide) ?_
        exact z_sub [0, 1] rfl (k_X6_isWithin_b49 h hq N x1 ((((12 : Int32) / v2).toInt64) * (gJ σ3 1067 33)) (-(gJ σ3 1067 29)) (fun x1_ σ_ hf_ => ih x1_ σ_ hf_) _ hf)
set_option maxHeartbeats 4000000 in
set_option maxRecDepth 100000 in
theorem c_X6_isWithin (l : Launch) (G : ZG) {N : Nat} {σ σ' : ZS} {r : Int32} (hf : f_X6_isWithin N σ = some (r, σ')) : zMet l G yX6_isWithin cX6_isWithin 4 (some .boolean) rm_X6_isWithin [.ref (G.1 1067)] σ (some (.int r)) σ' := by
  refine z_met (by decide +kernel) rfl (fun Y h hq => ?_)
  have h : zOk (l, rm_X6_isWithin, 4, 0, 0) Y G cX6_isWithin RX6 (some .boolean) := h
  rw [f_X6_isWithin] at hf
  refine z_sub (lv' := [(0, .ref (G.1 1067))]) [0] rfl ?_
  refine z_iconst h (v := (0 : Int32)) dX6_isWithin_0 ic_0 ?_
  refine z_istore_n h dX6_isWithin_1 rfl (lv' := [(1, .int (0 : Int32)), (0, .ref (G.1 1067))]) rfl rfl ?_
  exact z_sub [1, 0] rfl (k_X6_isWithin_h2 h hq N _ _ _ hf)
theorem dX6_isBorne_0 : decode cX6_isBorne 0 = .ok (.aload_n 0, 1) := by decide +kernel
theorem dX6_isBorne_1 : decode cX6_isBorne 1 = .ok (.lload_n 1, 1) := by decide +kernel
theorem dX6_isBorne_2 : decode cX6_isBorne 2 = .ok (.lload_n 3, 1) := by decide +kernel
theorem dX6_isBorne_3 : decode cX6_isBorne 3 = .ok (.lload 5, 2) := by decide +kernel
theorem dX6_isBorne_5 : decode cX6_isBorne 5 = .ok (.lload 7, 2) := by decide +kernel
theorem dX6_isBorne_7 : decode cX6_isBorne 7 = .ok (.invokevirtual 263, 3) := by decide +kernel
theorem dX6_isBorne_10 : decode cX6_isBorne 10 = .ok (.iconst 0, 1) := by decide +kernel
theorem dX6_isBorne_11 : decode cX6_isBorne 11 = .ok (.istore 9, 2) := by decide +kernel
theorem dX6_isBorne_13 : decode cX6_isBorne 13 = .ok (.iload 9, 2) := by decide +kernel
theorem dX6_isBorne_15 : decode cX6_isBorne 15 = .ok (.iconst 1, 1) := by decide +kernel
theorem dX6_isBorne_16 : decode cX6_isBorne 16 = .ok (.iconst 2, 1) := by decide +kernel
theorem dX6_isBorne_17 : decode cX6_isBorne 17 = .ok (.aload_n 0, 1) := by decide +kernel
theorem dX6_isBorne_18 : decode cX6_isBorne 18 = .ok (.getfield 141, 3) := by decide +kernel
theorem dX6_isBorne_21 : decode cX6_isBorne 21 = .ok (.imul, 1) := by decide +kernel
theorem dX6_isBorne_22 : decode cX6_isBorne 22 = .ok (.ishl, 1) := by decide +kernel
theorem dX6_isBorne_23 : decode cX6_isBorne 23 = .ok (.if_icmp .ge 62, 3) := by decide +kernel
theorem dX6_isBorne_26 : decode cX6_isBorne 26 = .ok (.iload 9, 2) := by decide +kernel
theorem dX6_isBorne_28 : decode cX6_isBorne 28 = .ok (.invokestatic 267, 3) := by decide +kernel
theorem dX6_isBorne_31 : decode cX6_isBorne 31 = .ok (.aload_n 0, 1) := by decide +kernel
theorem dX6_isBorne_32 : decode cX6_isBorne 32 = .ok (.getfield 165, 3) := by decide +kernel
theorem dX6_isBorne_35 : decode cX6_isBorne 35 = .ok (.if_icmp .ne 44, 3) := by decide +kernel
theorem dX6_isBorne_38 : decode cX6_isBorne 38 = .ok (.aload_n 0, 1) := by decide +kernel
theorem dX6_isBorne_39 : decode cX6_isBorne 39 = .ok (.iload 9, 2) := by decide +kernel
theorem dX6_isBorne_41 : decode cX6_isBorne 41 = .ok (.invokevirtual 270, 3) := by decide +kernel
theorem dX6_isBorne_44 : decode cX6_isBorne 44 = .ok (.ifCond .eq 35, 3) := by decide +kernel
theorem dX6_isBorne_47 : decode cX6_isBorne 47 = .ok (.aload_n 0, 1) := by decide +kernel
theorem dX6_isBorne_48 : decode cX6_isBorne 48 = .ok (.iload 9, 2) := by decide +kernel
theorem dX6_isBorne_50 : decode cX6_isBorne 50 = .ok (.invokevirtual 273, 3) := by decide +kernel
theorem dX6_isBorne_53 : decode cX6_isBorne 53 = .ok (.iconst 1, 1) := by decide +kernel
theorem dX6_isBorne_54 : decode cX6_isBorne 54 = .ok (.istore 10, 2) := by decide +kernel
theorem dX6_isBorne_56 : decode cX6_isBorne 56 = .ok (.iload 10, 2) := by decide +kernel
theorem dX6_isBorne_58 : decode cX6_isBorne 58 = .ok (.ifCond .eq 21, 3) := by decide +kernel
theorem dX6_isBorne_61 : decode cX6_isBorne 61 = .ok (.aload_n 0, 1) := by decide +kernel
theorem dX6_isBorne_62 : decode cX6_isBorne 62 = .ok (.invokevirtual 276, 3) := by decide +kernel
theorem dX6_isBorne_65 : decode cX6_isBorne 65 = .ok (.ifCond .eq 5, 3) := by decide +kernel
theorem dX6_isBorne_68 : decode cX6_isBorne 68 = .ok (.iconst 1, 1) := by decide +kernel
theorem dX6_isBorne_69 : decode cX6_isBorne 69 = .ok (.ireturn, 1) := by decide +kernel
theorem dX6_isBorne_70 : decode cX6_isBorne 70 = .ok (.aload_n 0, 1) := by decide +kernel
theorem dX6_isBorne_71 : decode cX6_isBorne 71 = .ok (.invokevirtual 280, 3) := by decide +kernel
theorem dX6_isBorne_74 : decode cX6_isBorne 74 = .ok (.istore 10, 2) := by decide +kernel
theorem dX6_isBorne_76 : decode cX6_isBorne 76 = .ok (.goto (-20), 3) := by decide +kernel
theorem dX6_isBorne_79 : decode cX6_isBorne 79 = .ok (.iinc 9 1, 3) := by decide +kernel
theorem dX6_isBorne_82 : decode cX6_isBorne 82 = .ok (.goto (-69), 3) := by decide +kernel
theorem dX6_isBorne_85 : decode cX6_isBorne 85 = .ok (.iconst 0, 1) := by decide +kernel
theorem dX6_isBorne_86 : decode cX6_isBorne 86 = .ok (.ireturn, 1) := by decide +kernel
abbrev rm_X6_isBorne : Room := { frames := 2, cells := 0, slots := 0, locals := 68 }
noncomputable def f_X6_isBorne_b79 (N : Nat) (kb13 : Int32 → ZS → Option (Int32 × ZS)) (x9 : Int32) (σ : ZS) : Option (Int32 × ZS) := bd (x9 + (1 : Int32)) fun v7 => kb13 v7 σ
noncomputable def f_X6_isBorne_h56 (N : Nat) (kb13 : Int32 → ZS → Option (Int32 × ZS)) (x9 : Int32) : Nat → Int32 → ZS → Option (Int32 × ZS)
  | 0, _, _ => none
  | n + 1, x10, σ => (if x10 = 0 then f_X6_isBorne_b79 N kb13 x9 σ else obd (f_X6_isWithin N σ) fun v14 σ15 => (if v14 = 0 then obd (f_X6_isNext N σ15) fun v17 σ18 => f_X6_isBorne_h56 N kb13 x9 n v17 σ18 else some ((1 : Int32), σ15)))
noncomputable def f_X6_isBorne_h13 (N : Nat) : Nat → Int32 → ZS → Option (Int32 × ZS)
  | 0, _, _ => none
  | n + 1, x9, σ => (if ((1 : Int32) <<< (((2 : Int32) * (gI σ 1067 4)) &&& 31)) ≤ x9 then some ((0 : Int32), σ) else obd (f_X6_bits N x9 σ) fun v4 σ5 => (if v4 = (gI σ5 1067 10) then obd (f_X6_isSolved N x9 σ5) fun v8 σ9 => (if v8 = 0 then f_X6_isBorne_b79 N (fun x9_ σ_ => f_X6_isBorne_h13 N n x9_ σ_) x9 σ9 else obd (f_X6_begin N x9 σ9) fun _ σ12 => f_X6_isBorne_h56 N (fun x9_ σ_ => f_X6_isBorne_h13 N n x9_ σ_) x9 N (1 : Int32) σ12) else f_X6_isBorne_b79 N (fun x9_ σ_ => f_X6_isBorne_h13 N n x9_ σ_) x9 σ5))
noncomputable def f_X6_isBorne (N : Nat) (x1 : Int64) (x3 : Int64) (x5 : Int64) (x7 : Int64) (σ : ZS) : Option (Int32 × ZS) := obd (f_X6_take N x1 x3 x5 x7 σ) fun _ σ2 => f_X6_isBorne_h13 N N (0 : Int32) σ2
set_option maxHeartbeats 4000000 in
set_option maxRecDepth 100000 in
theorem k_X6_isBorne_b79 {l : Launch} {Y : ZY} {G : ZG} {r : Int32} {σ' : ZS} (h : zOk (l, rm_X6_isBorne, 11, 0, 0) Y G cX6_isBorne RX6 (some .boolean)) (hq : zRet (l, rm_X6_isBorne, 11, 0, 0) Y G (some (.int r)) σ') (N : Nat) {kb13 : Int32 → ZS → Option (Int32 × ZS)} (x9 : Int32) (hb13 : ∀ (x9_ : Int32) (σ_ : ZS), kb13 x9_ σ_ = some (r, σ') → Z (l, rm_X6_isBorne, 11, 0, 0) Y G σ_ [(0, .ref (G.1 1067)), (9, .int x9_)] [] 13) (σ : ZS) (hf : f_X6_isBorne_b79 N kb13 x9 σ = some (r, σ')) : Z (l, rm_X6_isBorne, 11, 0, 0) Y G σ [(0, .ref (G.1 1067)), (9, .int x9)] [] 79 := by
  rw [f_X6_isBorne_b79] at hf
  obtain ⟨v7, ev7, hf⟩ := bd_ex hf
  refine z_iinc h (v := v7) (lv' := [(9, .int v7), (0, .ref (G.1 1067))]) dX6_isBorne_79 1 rfl (by rw [ev7]; rfl) rfl rfl ?_
  refine z_goto h (tgt := 13) dX6_isBorne_82 (by decide) ?_
  exact z_sub [1, 0] rfl (hb13 _ _ hf)
set_option maxHeartbeats 4000000 in
set_option maxRecDepth 100000 in
theorem k_X6_isBorne_h56 {l : Launch} {Y : ZY} {G : ZG} {r : Int32} {σ' : ZS} (h : zOk (l, rm_X6_isBorne, 11, 0, 0) Y G cX6_isBorne RX6 (some .boolean)) (hq : zRet (l, rm_X6_isBorne, 11, 0, 0) Y G (some (.int r)) σ') (N : Nat) {kb13 : Int32 → ZS → Option (Int32 × ZS)} (x9 : Int32) (hb13 : ∀ (x9_ : Int32) (σ_ : ZS), kb13 x9_ σ_ = some (r, σ') → Z (l, rm_X6_isBorne, 11, 0, 0) Y G σ_ [(0, .ref (G.1 1067)), (9, .int x9_)] [] 13) : ∀ (n : Nat) (x10 : Int32) (σ : ZS), f_X6_isBorne_h56 N kb13 x9 n x10 σ = some (r, σ') → Z (l, rm_X6_isBorne, 11, 0, 0) Y G σ [(0, .ref (G.1 1067)), (9, .int x9), (10, .int x10)] [] 56 := by
  intro n
  induction n with
  | zero =>
    intro x10 σ hf
    rw [f_X6_isBorne_h56] at hf
    cases hf
  | succ n ih =>
    intro x10 σ hf
    rw [f_X6_isBorne_h56] at hf
    refine z_iload h dX6_isBorne_56 2 rfl ?_
    refine z_if_eq h (tgt := 79) dX6_isBorne_58 (by decide) (fun g13 => ?_) (fun g13 => ?_)
    · have hf := it_pos g13 hf
      exact z_sub [0, 1] rfl (k_X6_isBorne_b79 h hq N x9 hb13 _ hf)
    · have hf := it_neg g13 hf
      refine z_aload_n h dX6_isBorne_61 rfl 0 rfl ?_
      obtain ⟨v14, σ15, e15, hf⟩ := obd_out hf
      refine z_cVv h (n := 0) (c_X6_isWithin l G e15) zC6 tg_1067 ln_1067 rfl rfl wd_668 wd_669 wd_670 wd_5 wd_671 (by decide +kernel) ⟨rfl, rfl⟩ rfl rfl rfl dX6_isBorne_62 ⟨Nat.zero_le _, Nat.zero_le _⟩ ?_
      refine z_if_eq h (tgt := 70) dX6_isBorne_65 (by decide) (fun g16 => ?_) (fun g16 => ?_)
      · have hf := it_pos g16 hf
        refine z_aload_n h dX6_isBorne_70 rfl 0 rfl ?_
        obtain ⟨v17, σ18, e18, hf⟩ := obd_out hf
        refine z_cVv h (n := 0) (c_X6_isNext l G e18) zC6 tg_1067 ln_1067 rfl rfl wd_672 wd_673 wd_674 wd_5 wd_675 (by decide +kernel) ⟨rfl, rfl⟩ rfl rfl rfl dX6_isBorne_71 ⟨Nat.zero_le _, Nat.zero_le _⟩ ?_
        refine z_istore h dX6_isBorne_74 (lv' := [(10, .int v17), (0, .ref (G.1 1067)), (9, .int x9)]) rfl rfl ?_
        refine z_goto h (tgt := 56) dX6_isBorne_76 (by decide) ?_
        exact z_sub [1, 2, 0] rfl (ih _ _ hf)
      · have hf := it_neg g16 hf
        refine z_iconst h (v := (1 : Int32)) dX6_isBorne_68 ic_1 ?_
        exact z_zret h rfl (rt_I hf hq) dX6_isBorne_69
set_option maxHeartbeats 4000000 in
set_option maxRecDepth 100000 in
theorem k_X6_isBorne_h13 {l : Launch} {Y : ZY} {G : ZG} {r : Int32} {σ' : ZS} (h : zOk (l, rm_X6_isBorne, 11, 0, 0) Y G cX6_isBorne RX6 (some .boolean)) (hq : zRet (l, rm_X6_isBorne, 11, 0, 0) Y G (some (.int r)) σ') (N : Nat) : ∀ (n : Nat) (x9 : Int32) (σ : ZS), f_X6_isBorne_h13 N n x9 σ = some (r, σ') → Z (l, rm_X6_isBorne, 11, 0, 0) Y G σ [(0, .ref (G.1 1067)), (9, .int x9)] [] 13 := by
  intro n
  induction n with
  | zero =>
    intro x9 σ hf
    rw [f_X6_isBorne_h13] at hf
    cases hf
  | succ n ih =>
    intro x9 σ hf
    rw [f_X6_isBorne_h13] at hf
    refine z_iload h dX6_isBorne_13 1 rfl ?_
    refine z_iconst h (v := (1 : Int32)) dX6_isBorne_15 ic_1 ?_
    refine z_iconst h (v := (2 : Int32)) dX6_isBorne_16 ic_2 ?_
    refine z_aload_n h dX6_isBorne_17 rfl 0 rfl ?_
    refine z_gfI h zC6 (c := 1067) tg_1067 ln_1067 4 rfl ft_6_4 wd_200 dX6_isBorne_18 ?_
    refine z_imul h dX6_isBorne_21 ?_
    refine z_ishl h dX6_isBorne_22 ?_
    refine z_icmp_ge h (tgt := 85) dX6_isBorne_23 (by decide) (fun g3 => ?_) (fun g3 => ?_)
    · have hf := it_pos g3 hf
      refine z_iconst h (v := (0 : Int32)) dX6_isBorne_85 ic_0 ?_
      exact z_zret h rfl (rt_I hf hq) dX6_isBorne_86
    · have hf := it_neg g3 hf
      refine z_iload h dX6_isBorne_26 1 rfl ?_
      obtain ⟨v4, σ5, e5, hf⟩ := obd_out hf
      refine z_cSv h (n := 1) (c_X6_bits l G e5) rfl wd_640 wd_641 wd_5 wd_642 (by decide +kernel) ⟨rfl, rfl⟩ rfl rfl rfl dX6_isBorne_28 ⟨Nat.zero_le _, Nat.zero_le _⟩ ?_
      refine z_aload_n h dX6_isBorne_31 rfl 0 rfl ?_
      refine z_gfI h zC6 (c := 1067) tg_1067 ln_1067 10 rfl ft_6_10 wd_424 dX6_isBorne_32 ?_
      refine z_icmp_ne h (tgt := 79) dX6_isBorne_35 (by decide) (fun g6 => ?_) (fun g6 => ?_)
      · have hf := it_neg g6 hf
        exact z_sub [0, 1] rfl (k_X6_isBorne_b79 h hq N x9 (fun x9_ σ_ hf_ => ih x9_ σ_ hf_) _ hf)
      · have hf := it_pos g6 hf
        refine z_aload_n h dX6_isBorne_38 rfl 0 rfl ?_
        refine z_iload h dX6_isBorne_39 1 rfl ?_
        obtain ⟨v8, σ9, e9, hf⟩ := obd_out hf
        refine z_cVv h (n := 1) (c_X6_isSolved l G e9) zC6 tg_1067 ln_1067 rfl rfl wd_643 wd_644 wd_645 wd_5 wd_646 (by decide +kernel) ⟨rfl, rfl⟩ rfl rfl rfl dX6_isBorne_41 ⟨Nat.zero_le _, Nat.zero_le _⟩ ?_
        refine z_if_eq h (tgt := 79) dX6_isBorne_44 (by decide) (fun g10 => ?_) (fun g10 => ?_)
        · have hf := it_pos g10 hf
          exact z_sub [0, 1] rfl (k_X6_isBorne_b79 h hq N x9 (fun x9_ σ_ hf_ => ih x9_ σ_ hf_) _ hf)
        · have hf := it_neg g10 hf
          refine z_aload_n h dX6_isBorne_47 rfl 0 rfl ?_
          refine z_iload h dX6_isBorne_48 1 rfl ?_
          obtain ⟨v11, σ12, e12, hf⟩ := obd_out hf
          refine z_cV0 h (n := 1) (c_X6_begin l G e12) zC6 tg_1067 ln_1067 rfl rfl wd_655 wd_656 wd_657 wd_5 wd_658 (by decide +kernel) ⟨rfl, rfl⟩ rfl rfl rfl dX6_isBorne_50 ⟨Nat.zero_le _, Nat.zero_le _⟩ ?_
          refine z_iconst h (v := (1 : Int32)) dX6_isBorne_53 ic_1 ?_
          refine z_istore h dX6_isBorne_54 (lv' := [(10, .int (1 : Int32)), (0, .ref (G.1 1067)), (9, .int x9)]) rfl rfl ?_
          exact z_sub [1, 2, 0] rfl (k_X6_isBorne_h56 h hq N x9 (fun x9_ σ_ hf_ => ih x9_ σ_ hf_) _ _ _ hf)
set_option maxHeartbeats 4000000 in
set_option maxRecDepth 100000 in
theorem c_X6_isBorne (l : Launch) (G : ZG) {N : Nat} {x1 : Int64} {x3 : Int64} {x5 : Int64} {x7 : Int64} {σ σ' : ZS} {r : Int32} (hf : f_X6_isBorne N x1 x3 x5 x7 σ = some (r, σ')) : zMet l G yX6_isBorne cX6_isBorne 11 (some .boolean) rm_X6_isBorne [.ref (G.1 1067), .long x1, .long x3, .long x5, .long x7] σ (some (.int r)) σ' := by
  refine z_met (by decide +kernel) rfl (fun Y h hq => ?_)
  have h : zOk (l, rm_X6_isBorne, 11, 0, 0) Y G cX6_isBorne RX6 (some .boolean) := h
  rw [f_X6_isBorne] at hf
  refine z_sub (lv' := [(0, .ref (G.1 1067)), (1, .long x1), (3, .long x3), (5, .long x5), (7, .long x7)]) [0, 1, 2, 3, 4] rfl ?_
  refine z_aload_n h dX6_isBorne_0 rfl 0 rfl ?_
  refine z_lload_n h dX6_isBorne_1 rfl 1 rfl ?_
  refine z_lload_n h dX6_isBorne_2 rfl 2 rfl ?_
  refine z_lload h dX6_isBorne_3 3 rfl ?_
  refine z_lload h dX6_isBorne_5 4 rfl ?_
  obtain ⟨v1, σ2, e2, hf⟩ := obd_out hf
  refine z_cV0 h (n := 4) (c_X6_take l G e2) zC6 tg_1067 ln_1067 rfl rfl wd_635 wd_636 wd_637 wd_5 wd_638 (by decide +kernel) ⟨rfl, rfl⟩ rfl rfl rfl dX6_isBorne_7 ⟨Nat.zero_le _, Nat.zero_le _⟩ ?_
  refine z_iconst h (v := (0 : Int32)) dX6_isBorne_10 ic_0 ?_
  refine z_istore h dX6_isBorne_11 (lv' := [(9, .int (0 : Int32)), (0, .ref (G.1 1067)), (1, .long x1), (3, .long x3), (5, .long x5), (7, .long x7)]) rfl rfl ?_
  exact z_sub [1, 0] rfl (k_X6_isBorne_h13 h hq N _ _ _ hf)
theorem dX6_takeSide_0 : decode cX6_takeSide 0 = .ok (.iload_n 2, 1) := by decide +kernel
theorem dX6_takeSide_1 : decode cX6_takeSide 1 = .ok (.ifCond .eq 7, 3) := by decide +kernel
theorem dX6_takeSide_4 : decode cX6_takeSide 4 = .ok (.iconst 0, 1) := by decide +kernel
theorem dX6_takeSide_5 : decode cX6_takeSide 5 = .ok (.goto 21, 3) := by decide +kernel
theorem dX6_takeSide_8 : decode cX6_takeSide 8 = .ok (.lload_n 3, 1) := by decide +kernel
theorem dX6_takeSide_9 : decode cX6_takeSide 9 = .ok (.lload 5, 2) := by decide +kernel
theorem dX6_takeSide_11 : decode cX6_takeSide 11 = .ok (.aload_n 0, 1) := by decide +kernel
theorem dX6_takeSide_12 : decode cX6_takeSide 12 = .ok (.getfield 98, 3) := by decide +kernel
theorem dX6_takeSide_15 : decode cX6_takeSide 15 = .ok (.iload_n 1, 1) := by decide +kernel
theorem dX6_takeSide_16 : decode cX6_takeSide 16 = .ok (.laload, 1) := by decide +kernel
theorem dX6_takeSide_17 : decode cX6_takeSide 17 = .ok (.aload_n 0, 1) := by decide +kernel
theorem dX6_takeSide_18 : decode cX6_takeSide 18 = .ok (.getfield 101, 3) := by decide +kernel
theorem dX6_takeSide_21 : decode cX6_takeSide 21 = .ok (.iload_n 1, 1) := by decide +kernel
theorem dX6_takeSide_22 : decode cX6_takeSide 22 = .ok (.laload, 1) := by decide +kernel
theorem dX6_takeSide_23 : decode cX6_takeSide 23 = .ok (.invokestatic 296, 3) := by decide +kernel
theorem dX6_takeSide_26 : decode cX6_takeSide 26 = .ok (.istore 7, 2) := by decide +kernel
theorem dX6_takeSide_28 : decode cX6_takeSide 28 = .ok (.iload_n 2, 1) := by decide +kernel
theorem dX6_takeSide_29 : decode cX6_takeSide 29 = .ok (.ifCond .ne 20, 3) := by decide +kernel
theorem dX6_takeSide_32 : decode cX6_takeSide 32 = .ok (.iload_n 1, 1) := by decide +kernel
theorem dX6_takeSide_33 : decode cX6_takeSide 33 = .ok (.ifCond .ne 11, 3) := by decide +kernel
theorem dX6_takeSide_36 : decode cX6_takeSide 36 = .ok (.iload 7, 2) := by decide +kernel
theorem dX6_takeSide_38 : decode cX6_takeSide 38 = .ok (.ifCond .le 37, 3) := by decide +kernel
theorem dX6_takeSide_41 : decode cX6_takeSide 41 = .ok (.goto 8, 3) := by decide +kernel
theorem dX6_takeSide_44 : decode cX6_takeSide 44 = .ok (.iload 7, 2) := by decide +kernel
theorem dX6_takeSide_46 : decode cX6_takeSide 46 = .ok (.ifCond .ge 29, 3) := by decide +kernel
theorem dX6_takeSide_49 : decode cX6_takeSide 49 = .ok (.aload_n 0, 1) := by decide +kernel
theorem dX6_takeSide_50 : decode cX6_takeSide 50 = .ok (.getfield 98, 3) := by decide +kernel
theorem dX6_takeSide_53 : decode cX6_takeSide 53 = .ok (.iload_n 1, 1) := by decide +kernel
theorem dX6_takeSide_54 : decode cX6_takeSide 54 = .ok (.lload_n 3, 1) := by decide +kernel
theorem dX6_takeSide_55 : decode cX6_takeSide 55 = .ok (.lload 5, 2) := by decide +kernel
theorem dX6_takeSide_57 : decode cX6_takeSide 57 = .ok (.iconst 0, 1) := by decide +kernel
theorem dX6_takeSide_58 : decode cX6_takeSide 58 = .ok (.invokestatic 300, 3) := by decide +kernel
theorem dX6_takeSide_61 : decode cX6_takeSide 61 = .ok (.lastore, 1) := by decide +kernel
theorem dX6_takeSide_62 : decode cX6_takeSide 62 = .ok (.aload_n 0, 1) := by decide +kernel
theorem dX6_takeSide_63 : decode cX6_takeSide 63 = .ok (.getfield 101, 3) := by decide +kernel
theorem dX6_takeSide_66 : decode cX6_takeSide 66 = .ok (.iload_n 1, 1) := by decide +kernel
theorem dX6_takeSide_67 : decode cX6_takeSide 67 = .ok (.lload_n 3, 1) := by decide +kernel
theorem dX6_takeSide_68 : decode cX6_takeSide 68 = .ok (.lload 5, 2) := by decide +kernel
theorem dX6_takeSide_70 : decode cX6_takeSide 70 = .ok (.iconst 1, 1) := by decide +kernel
theorem dX6_takeSide_71 : decode cX6_takeSide 71 = .ok (.invokestatic 300, 3) := by decide +kernel
theorem dX6_takeSide_74 : decode cX6_takeSide 74 = .ok (.lastore, 1) := by decide +kernel
theorem dX6_takeSide_75 : decode cX6_takeSide 75 = .ok (.return_, 1) := by decide +kernel
abbrev rm_X6_takeSide : Room := { frames := 2, cells := 0, slots := 0, locals := 86 }
noncomputable def f_X6_takeSide_b49 (N : Nat) (x1 : Int32) (x3 : Int64) (x5 : Int64) (σ : ZS) : Option (Unit × ZS) := obd (f_X6_part N x3 x5 (0 : Int32) σ) fun v7 σ8 => ck (inb x1 2) (bd (sJ σ8 1094 (x1.toNatClampNeg) v7) fun σ10 => obd (f_X6_part N x3 x5 (1 : Int32) σ10) fun v11 σ12 => ck (inb x1 2) (bd (sJ σ12 1095 (x1.toNatClampNeg) v11) fun σ14 => some ((), σ14)))
noncomputable def f_X6_takeSide_b26 (N : Nat) (x1 : Int32) (x2 : Int32) (x3 : Int64) (x5 : Int64) (s0 : Int32) (σ : ZS) : Option (Unit × ZS) := (if x2 = 0 then (if x1 = 0 then (if s0 ≤ 0 then some ((), σ) else f_X6_takeSide_b49 N x1 x3 x5 σ) else (if 0 ≤ s0 then some ((), σ) else f_X6_takeSide_b49 N x1 x3 x5 σ)) else f_X6_takeSide_b49 N x1 x3 x5 σ)
noncomputable def f_X6_takeSide (N : Nat) (x1 : Int32) (x2 : Int32) (x3 : Int64) (x5 : Int64) (σ : ZS) : Option (Unit × ZS) := (if x2 = 0 then ck (inb x1 2) (ck (inb x1 2) (obd (f_X6_compare N x3 x5 (gJ σ 1094 (x1.toNatClampNeg)) (gJ σ 1095 (x1.toNatClampNeg)) σ) fun v4 σ5 => f_X6_takeSide_b26 N x1 x2 x3 x5 v4 σ5)) else f_X6_takeSide_b26 N x1 x2 x3 x5 (0 : Int32) σ)
set_option maxHeartbeats 4000000 in
set_option maxRecDepth 100000 in
theorem k_X6_takeSide_b49 {l : Launch} {Y : ZY} {G : ZG} {σ' : ZS} (h : zOk (l, rm_X6_takeSide, 8, 0, 0) Y G cX6_takeSide RX6 none) (hq : zRet (l, rm_X6_takeSide, 8, 0, 0) Y G none σ') (N : Nat) (x1 : Int32) (x3 : Int64) (x5 : Int64) (σ : ZS) (hf : f_X6_takeSide_b49 N x1 x3 x5 σ = some ((), σ')) : Z (l, rm_X6_takeSide, 8, 0, 0) Y G σ [(0, .ref (G.1 1067)), (1, .int x1), (3, .long x3), (5, .long x5)] [] 49 := by
  rw [f_X6_takeSide_b49] at hf
  refine z_aload_n h dX6_takeSide_49 rfl 0 rfl ?_
  refine z_gfR h zC6 (d := 1094) (c := 1067) tg_1067 ln_1067 41 rfl ft_6_41 rf_1067_41 wd_117 dX6_takeSide_50 ?_
  refine z_iload_n h dX6_takeSide_53 rfl 1 rfl ?_
  refine z_lload_n h dX6_takeSide_54 rfl 2 rfl ?_
  refine z_lload h dX6_takeSide_55 3 rfl ?_
  refine z_iconst h (v := (0 : Int32)) dX6_takeSide_57 ic_0 ?_
  obtain ⟨v7, σ8, e8, hf⟩ := obd_out hf
  refine z_cSv h (n := 3) (c_X6_part l G e8) rfl wd_551 wd_552 wd_5 wd_553 (by decide +kernel) ⟨rfl, rfl⟩ rfl rfl rfl dX6_takeSide_58 ⟨Nat.zero_le _, Nat.zero_le _⟩ ?_
  obtain ⟨g9, hf⟩ := ck_out hf
  refine z_last h (c := 1094) tg_1094 ln_1094 g9 dX6_takeSide_61 ?_
  refine z_gen (fun σ10 eσ10 => ?_)
  have hf := bd_to eσ10 hf
  refine z_aload_n h dX6_takeSide_62 rfl 0 rfl ?_
  refine z_gfR h zC6 (d := 1095) (c := 1067) tg_1067 ln_1067 42 rfl ft_6_42 rf_1067_42 wd_118 dX6_takeSide_63 ?_
  refine z_iload_n h dX6_takeSide_66 rfl 1 rfl ?_
  refine z_lload_n h dX6_takeSide_67 rfl 2 rfl ?_
  refine z_lload h dX6_takeSide_68 3 rfl ?_
  refine z_iconst h (v := (1 : Int32)) dX6_takeSide_70 ic_1 ?_
  obtain ⟨v11, σ12, e12, hf⟩ := obd_out hf
  refine z_cSv h (n := 3) (c_X6_part l G e12) rfl wd_551 wd_552 wd_5 wd_553 (by decide +kernel) ⟨rfl, rfl⟩ rfl rfl rfl dX6_takeSide_71 ⟨Nat.zero_le _, Nat.zero_le _⟩ ?_
  obtain ⟨g13, hf⟩ := ck_out hf
  refine z_last h (c := 1095) tg_1095 ln_1095 g13 dX6_takeSide_74 ?_
  refine z_gen (fun σ14 eσ14 => ?_)
  have hf := bd_to eσ14 hf
  exact z_vret h (rt_V hf hq) dX6_takeSide_75
set_option maxHeartbeats 4000000 in
set_option maxRecDepth 100000 in
theorem k_X6_takeSide_b26 {l : Launch} {Y : ZY} {G : ZG} {σ' : ZS} (h : zOk (l, rm_X6_takeSide, 8, 0, 0) Y G cX6_takeSide RX6 none) (hq : zRet (l, rm_X6_takeSide, 8, 0, 0) Y G none σ') (N : Nat) (x1 : Int32) (x2 : Int32) (x3 : Int64) (x5 : Int64) (s0 : Int32) (σ : ZS) (hf : f_X6_takeSide_b26 N x1 x2 x3 x5 s0 σ = some ((), σ')) : Z (l, rm_X6_takeSide, 8, 0, 0) Y G σ [(0, .ref (G.1 1067)), (1, .int x1), (2, .int x2), (3, .long x3), (5, .long x5)] [.int s0] 26 := by
  rw [f_X6_takeSide_b26] at hf
  refine z_istore h dX6_takeSide_26 (lv' := [(7, .int s0), (0, .ref (G.1 1067)), (1, .int x1), (2, .int x2), (3, .long x3), (5, .long x5)]) rfl rfl ?_
  refine z_iload_n h dX6_takeSide_28 rfl 3 rfl ?_
  refine z_if_ne h (tgt := 49) dX6_takeSide_29 (by decide) (fun g6 => ?_) (fun g6 => ?_)
  · have hf := it_neg g6 hf
    exact z_sub [1, 2, 4, 5] rfl (k_X6_takeSide_b49 h hq N x1 x3 x5 _ hf)
  · have hf := it_pos g6 hf
    refine z_iload_n h dX6_takeSide_32 rfl 2 rfl ?_
    refine z_if_ne h (tgt := 44) dX6_takeSide_33 (by decide) (fun g15 => ?_) (fun g15 => ?_)
    · have hf := it_neg g15 hf
      refine z_iload h dX6_takeSide_44 0 rfl ?_
      refine z_if_ge h (tgt := 75) dX6_takeSide_46 (by decide) (fun g16 => ?_) (fun g16 => ?_)
      · have hf := it_pos g16 hf
        exact z_vret h (rt_V hf hq) dX6_takeSide_75
      · have hf := it_neg g16 hf
        exact z_sub [1, 2, 4, 5] rfl (k_X6_takeSide_b49 h hq N x1 x3 x5 _ hf)
    · have hf := it_pos g15 hf
      refine z_iload h dX6_takeSide_36 0 rfl ?_
      refine z_if_le h (tgt := 75) dX6_takeSide_38 (by decide) (fun g17 => ?_) (fun g17 => ?_)
      · have hf := it_pos g17 hf
        exact z_vret h (rt_V hf hq) dX6_takeSide_75
      · have hf := it_neg g17 hf
        refine z_goto h (tgt := 49) dX6_takeSide_41 (by decide) ?_
        exact z_sub [1, 2, 4, 5] rfl (k_X6_takeSide_b49 h hq N x1 x3 x5 _ hf)
set_option maxHeartbeats 4000000 in
set_option maxRecDepth 100000 in
theorem c_X6_takeSide (l : Launch) (G : ZG) {N : Nat} {x1 : Int32} {x2 : Int32} {x3 : Int64} {x5 : Int64} {σ σ' : ZS} {r : Unit} (hf : f_X6_takeSide N x1 x2 x3 x5 σ = some (r, σ')) : zMet l G yX6_takeSide cX6_takeSide 8 none rm_X6_takeSide [.ref (G.1 1067), .int x1, .int x2, .long x3, .long x5] σ none σ' := by
  refine z_met (by decide +kernel) rfl (fun Y h hq => ?_)
  have h : zOk (l, rm_X6_takeSide, 8, 0, 0) Y G cX6_takeSide RX6 none := h
  rw [f_X6_takeSide] at hf
  refine z_sub (lv' := [(0, .ref (G.1 1067)), (1, .int x1), (2, .int x2), (3, .long x3), (5, .long x5)]) [0, 1, 2, 3, 4] rfl ?_
  refine z_iload_n h dX6_takeSide_0 rfl 2 rfl ?_
  refine z_if_eq h (tgt := 8) dX6_takeSide_1 (by decide) (fun g1 => ?_) (fun g1 => ?_)
  · have hf := it_pos g1 hf
    refine z_lload_n h dX6_takeSide_8 rfl 3 rfl ?_
    refine z_lload h dX6_takeSide_9 4 rfl ?_
    refine z_aload_n h dX6_takeSide_11 rfl 0 rfl ?_
    refine z_gfR h zC6 (d := 1094) (c := 1067) tg_1067 ln_1067 41 rfl ft_6_41 rf_1067_41 wd_117 dX6_takeSide_12 ?_
    refine z_iload_n h dX6_takeSide_15 rfl 1 rfl ?_
    obtain ⟨g2, hf⟩ := ck_out hf
    refine z_lald h (c := 1094) tg_1094 ln_1094 g2 dX6_takeSide_16 ?_
    refine z_aload_n h dX6_takeSide_17 rfl 0 rfl ?_
    refine z_gfR h zC6 (d := 1095) (c := 1067) tg_1067 ln_1067 42 rfl ft_6_42 rf_1067_42 wd_118 dX6_takeSide_18 ?_
    refine z_iload_n h dX6_takeSide_21 rfl 1 rfl ?_
    obtain ⟨g3, hf⟩ := ck_out hf
    refine z_lald h (c := 1095) tg_1095 ln_1095 g3 dX6_takeSide_22 ?_
    obtain ⟨v4, σ5, e5, hf⟩ := obd_out hf
    refine z_cSv h (n := 4) (c_X6_compare l G e5) rfl wd_682 wd_683 wd_5 wd_684 (by decide +kernel) ⟨rfl, rfl⟩ rfl rfl rfl dX6_takeSide_23 ⟨Nat.zero_le _, Nat.zero_le _⟩ ?_
    exact z_sub [0, 1, 2, 3, 4] rfl (k_X6_takeSide_b26 h hq N x1 x2 x3 x5 v4 _ hf)
  · have hf := it_neg g1 hf
    refine z_iconst h (v := (0 : Int32)) dX6_takeSide_4 ic_0 ?_
    refine z_goto h (tgt := 26) dX6_takeSide_5 (by decide) ?_
    exact z_sub [0, 1, 2, 3, 4] rfl (k_X6_takeSide_b26 h hq N x1 x2 x3 x5 (0 : Int32) _ hf)
theorem dX6_lookFor_0 : decode cX6_lookFor 0 = .ok (.aload_n 0, 1) := by decide +kernel
theorem dX6_lookFor_1 : decode cX6_lookFor 1 = .ok (.invokevirtual 283, 3) := by decide +kernel
theorem dX6_lookFor_4 : decode cX6_lookFor 4 = .ok (.iconst 0, 1) := by decide +kernel
theorem dX6_lookFor_5 : decode cX6_lookFor 5 = .ok (.istore_n 2, 1) := by decide +kernel
theorem dX6_lookFor_6 : decode cX6_lookFor 6 = .ok (.iconst 0, 1) := by decide +kernel
theorem dX6_lookFor_7 : decode cX6_lookFor 7 = .ok (.istore_n 3, 1) := by decide +kernel
theorem dX6_lookFor_8 : decode cX6_lookFor 8 = .ok (.iload_n 3, 1) := by decide +kernel
theorem dX6_lookFor_9 : decode cX6_lookFor 9 = .ok (.aload_n 0, 1) := by decide +kernel
theorem dX6_lookFor_10 : decode cX6_lookFor 10 = .ok (.getfield 165, 3) := by decide +kernel
theorem dX6_lookFor_13 : decode cX6_lookFor 13 = .ok (.if_icmp .ge 38, 3) := by decide +kernel
theorem dX6_lookFor_16 : decode cX6_lookFor 16 = .ok (.iload_n 2, 1) := by decide +kernel
theorem dX6_lookFor_17 : decode cX6_lookFor 17 = .ok (.ifCond .ne 22, 3) := by decide +kernel
theorem dX6_lookFor_20 : decode cX6_lookFor 20 = .ok (.aload_n 0, 1) := by decide +kernel
theorem dX6_lookFor_21 : decode cX6_lookFor 21 = .ok (.getfield 73, 3) := by decide +kernel
theorem dX6_lookFor_24 : decode cX6_lookFor 24 = .ok (.bipush 15, 2) := by decide +kernel
theorem dX6_lookFor_26 : decode cX6_lookFor 26 = .ok (.iload_n 3, 1) := by decide +kernel
theorem dX6_lookFor_27 : decode cX6_lookFor 27 = .ok (.imul, 1) := by decide +kernel
theorem dX6_lookFor_28 : decode cX6_lookFor 28 = .ok (.bipush 12, 2) := by decide +kernel
theorem dX6_lookFor_30 : decode cX6_lookFor 30 = .ok (.iadd, 1) := by decide +kernel
theorem dX6_lookFor_31 : decode cX6_lookFor 31 = .ok (.iload_n 1, 1) := by decide +kernel
theorem dX6_lookFor_32 : decode cX6_lookFor 32 = .ok (.iadd, 1) := by decide +kernel
theorem dX6_lookFor_33 : decode cX6_lookFor 33 = .ok (.laload, 1) := by decide +kernel
theorem dX6_lookFor_34 : decode cX6_lookFor 34 = .ok (.lconst 0, 1) := by decide +kernel
theorem dX6_lookFor_35 : decode cX6_lookFor 35 = .ok (.lcmp, 1) := by decide +kernel
theorem dX6_lookFor_36 : decode cX6_lookFor 36 = .ok (.ifCond .eq 7, 3) := by decide +kernel
theorem dX6_lookFor_39 : decode cX6_lookFor 39 = .ok (.iconst 1, 1) := by decide +kernel
theorem dX6_lookFor_40 : decode cX6_lookFor 40 = .ok (.goto 4, 3) := by decide +kernel
theorem dX6_lookFor_43 : decode cX6_lookFor 43 = .ok (.iconst 0, 1) := by decide +kernel
theorem dX6_lookFor_44 : decode cX6_lookFor 44 = .ok (.istore_n 2, 1) := by decide +kernel
theorem dX6_lookFor_45 : decode cX6_lookFor 45 = .ok (.iinc 3 1, 3) := by decide +kernel
theorem dX6_lookFor_48 : decode cX6_lookFor 48 = .ok (.goto (-40), 3) := by decide +kernel
theorem dX6_lookFor_51 : decode cX6_lookFor 51 = .ok (.iload_n 2, 1) := by decide +kernel
theorem dX6_lookFor_52 : decode cX6_lookFor 52 = .ok (.ifCond .ne 20, 3) := by decide +kernel
theorem dX6_lookFor_55 : decode cX6_lookFor 55 = .ok (.aload_n 0, 1) := by decide +kernel
theorem dX6_lookFor_56 : decode cX6_lookFor 56 = .ok (.lconst 1, 1) := by decide +kernel
theorem dX6_lookFor_57 : decode cX6_lookFor 57 = .ok (.lconst 0, 1) := by decide +kernel
theorem dX6_lookFor_58 : decode cX6_lookFor 58 = .ok (.lconst 0, 1) := by decide +kernel
theorem dX6_lookFor_59 : decode cX6_lookFor 59 = .ok (.lconst 1, 1) := by decide +kernel
theorem dX6_lookFor_60 : decode cX6_lookFor 60 = .ok (.invokevirtual 286, 3) := by decide +kernel
theorem dX6_lookFor_63 : decode cX6_lookFor 63 = .ok (.ifCond .eq 7, 3) := by decide +kernel
theorem dX6_lookFor_66 : decode cX6_lookFor 66 = .ok (.iconst 1, 1) := by decide +kernel
theorem dX6_lookFor_67 : decode cX6_lookFor 67 = .ok (.goto 4, 3) := by decide +kernel
theorem dX6_lookFor_70 : decode cX6_lookFor 70 = .ok (.iconst 2, 1) := by decide +kernel
theorem dX6_lookFor_71 : decode cX6_lookFor 71 = .ok (.ireturn, 1) := by decide +kernel
theorem dX6_lookFor_72 : decode cX6_lookFor 72 = .ok (.aload_n 0, 1) := by decide +kernel
theorem dX6_lookFor_73 : decode cX6_lookFor 73 = .ok (.lconst 1, 1) := by decide +kernel
theorem dX6_lookFor_74 : decode cX6_lookFor 74 = .ok (.lconst 0, 1) := by decide +kernel
theorem dX6_lookFor_75 : decode cX6_lookFor 75 = .ok (.lconst 0, 1) := by decide +kernel
theorem dX6_lookFor_76 : decode cX6_lookFor 76 = .ok (.lconst 1, 1) := by decide +kernel
theorem dX6_lookFor_77 : decode cX6_lookFor 77 = .ok (.invokevirtual 263, 3) := by decide +kernel
theorem dX6_lookFor_80 : decode cX6_lookFor 80 = .ok (.iconst 0, 1) := by decide +kernel
theorem dX6_lookFor_81 : decode cX6_lookFor 81 = .ok (.istore_n 3, 1) := by decide +kernel
theorem dX6_lookFor_82 : decode cX6_lookFor 82 = .ok (.iconst 0, 1) := by decide +kernel
theorem dX6_lookFor_83 : decode cX6_lookFor 83 = .ok (.istore 4, 2) := by decide +kernel
theorem dX6_lookFor_85 : decode cX6_lookFor 85 = .ok (.iload 4, 2) := by decide +kernel
theorem dX6_lookFor_87 : decode cX6_lookFor 87 = .ok (.iconst 1, 1) := by decide +kernel
theorem dX6_lookFor_88 : decode cX6_lookFor 88 = .ok (.iconst 2, 1) := by decide +kernel
theorem dX6_lookFor_89 : decode cX6_lookFor 89 = .ok (.aload_n 0, 1) := by decide +kernel
theorem dX6_lookFor_90 : decode cX6_lookFor 90 = .ok (.getfield 141, 3) := by decide +kernel
theorem dX6_lookFor_93 : decode cX6_lookFor 93 = .ok (.imul, 1) := by decide +kernel
theorem dX6_lookFor_94 : decode cX6_lookFor 94 = .ok (.ishl, 1) := by decide +kernel
theorem dX6_lookFor_95 : decode cX6_lookFor 95 = .ok (.if_icmp .ge 199, 3) := by decide +kernel
theorem dX6_lookFor_98 : decode cX6_lookFor 98 = .ok (.iload 4, 2) := by decide +kernel
theorem dX6_lookFor_100 : decode cX6_lookFor 100 = .ok (.invokestatic 267, 3) := by decide +kernel
theorem dX6_lookFor_103 : decode cX6_lookFor 103 = .ok (.aload_n 0, 1) := by decide +kernel
theorem dX6_lookFor_104 : decode cX6_lookFor 104 = .ok (.getfield 165, 3) := by decide +kernel
theorem dX6_lookFor_107 : decode cX6_lookFor 107 = .ok (.iconst 1, 1) := by decide +kernel
theorem dX6_lookFor_108 : decode cX6_lookFor 108 = .ok (.isub, 1) := by decide +kernel
theorem dX6_lookFor_109 : decode cX6_lookFor 109 = .ok (.if_icmp .ne 179, 3) := by decide +kernel
theorem dX6_lookFor_112 : decode cX6_lookFor 112 = .ok (.aload_n 0, 1) := by decide +kernel
theorem dX6_lookFor_113 : decode cX6_lookFor 113 = .ok (.iload 4, 2) := by decide +kernel
theorem dX6_lookFor_115 : decode cX6_lookFor 115 = .ok (.iconst 1, 1) := by decide +kernel
theorem dX6_lookFor_116 : decode cX6_lookFor 116 = .ok (.bipush 12, 2) := by decide +kernel
theorem dX6_lookFor_118 : decode cX6_lookFor 118 = .ok (.iload_n 1, 1) := by decide +kernel
theorem dX6_lookFor_119 : decode cX6_lookFor 119 = .ok (.iadd, 1) := by decide +kernel
theorem dX6_lookFor_120 : decode cX6_lookFor 120 = .ok (.ishl, 1) := by decide +kernel
theorem dX6_lookFor_121 : decode cX6_lookFor 121 = .ok (.ior, 1) := by decide +kernel
theorem dX6_lookFor_122 : decode cX6_lookFor 122 = .ok (.invokevirtual 270, 3) := by decide +kernel
theorem dX6_lookFor_125 : decode cX6_lookFor 125 = .ok (.ifCond .eq 163, 3) := by decide +kernel
theorem dX6_lookFor_128 : decode cX6_lookFor 128 = .ok (.aload_n 0, 1) := by decide +kernel
theorem dX6_lookFor_129 : decode cX6_lookFor 129 = .ok (.iload 4, 2) := by decide +kernel
theorem dX6_lookFor_131 : decode cX6_lookFor 131 = .ok (.iconst 1, 1) := by decide +kernel
theorem dX6_lookFor_132 : decode cX6_lookFor 132 = .ok (.bipush 12, 2) := by decide +kernel
theorem dX6_lookFor_134 : decode cX6_lookFor 134 = .ok (.iload_n 1, 1) := by decide +kernel
theorem dX6_lookFor_135 : decode cX6_lookFor 135 = .ok (.iadd, 1) := by decide +kernel
theorem dX6_lookFor_136 : decode cX6_lookFor 136 = .ok (.ishl, 1) := by decide +kernel
theorem dX6_lookFor_137 : decode cX6_lookFor 137 = .ok (.ior, 1) := by decide +kernel
theorem dX6_lookFor_138 : decode cX6_lookFor 138 = .ok (.invokevirtual 273, 3) := by decide +kernel
theorem dX6_lookFor_141 : decode cX6_lookFor 141 = .ok (.iconst 1, 1) := by decide +kernel
theorem dX6_lookFor_142 : decode cX6_lookFor 142 = .ok (.istore 5, 2) := by decide +kernel
theorem dX6_lookFor_144 : decode cX6_lookFor 144 = .ok (.iload 5, 2) := by decide +kernel
theorem dX6_lookFor_146 : decode cX6_lookFor 146 = .ok (.ifCond .eq 142, 3) := by decide +kernel
theorem dX6_lookFor_149 : decode cX6_lookFor 149 = .ok (.aload_n 0, 1) := by decide +kernel
theorem dX6_lookFor_150 : decode cX6_lookFor 150 = .ok (.invokevirtual 276, 3) := by decide +kernel
theorem dX6_lookFor_153 : decode cX6_lookFor 153 = .ok (.ifCond .eq 126, 3) := by decide +kernel
theorem dX6_lookFor_156 : decode cX6_lookFor 156 = .ok (.aload_n 0, 1) := by decide +kernel
theorem dX6_lookFor_157 : decode cX6_lookFor 157 = .ok (.getfield 230, 3) := by decide +kernel
theorem dX6_lookFor_160 : decode cX6_lookFor 160 = .ok (.lconst 0, 1) := by decide +kernel
theorem dX6_lookFor_161 : decode cX6_lookFor 161 = .ok (.lcmp, 1) := by decide +kernel
theorem dX6_lookFor_162 : decode cX6_lookFor 162 = .ok (.ifCond .ge 15, 3) := by decide +kernel
theorem dX6_lookFor_165 : decode cX6_lookFor 165 = .ok (.aload_n 0, 1) := by decide +kernel
theorem dX6_lookFor_166 : decode cX6_lookFor 166 = .ok (.getfield 95, 3) := by decide +kernel
theorem dX6_lookFor_169 : decode cX6_lookFor 169 = .ok (.bipush 12, 2) := by decide +kernel
theorem dX6_lookFor_171 : decode cX6_lookFor 171 = .ok (.iload_n 1, 1) := by decide +kernel
theorem dX6_lookFor_172 : decode cX6_lookFor 172 = .ok (.iadd, 1) := by decide +kernel
theorem dX6_lookFor_173 : decode cX6_lookFor 173 = .ok (.laload, 1) := by decide +kernel
theorem dX6_lookFor_174 : decode cX6_lookFor 174 = .ok (.goto 13, 3) := by decide +kernel
theorem dX6_lookFor_177 : decode cX6_lookFor 177 = .ok (.aload_n 0, 1) := by decide +kernel
theorem dX6_lookFor_178 : decode cX6_lookFor 178 = .ok (.getfield 95, 3) := by decide +kernel
theorem dX6_lookFor_181 : decode cX6_lookFor 181 = .ok (.bipush 12, 2) := by decide +kernel
theorem dX6_lookFor_183 : decode cX6_lookFor 183 = .ok (.iload_n 1, 1) := by decide +kernel
theorem dX6_lookFor_184 : decode cX6_lookFor 184 = .ok (.iadd, 1) := by decide +kernel
theorem dX6_lookFor_185 : decode cX6_lookFor 185 = .ok (.laload, 1) := by decide +kernel
theorem dX6_lookFor_186 : decode cX6_lookFor 186 = .ok (.lneg, 1) := by decide +kernel
theorem dX6_lookFor_187 : decode cX6_lookFor 187 = .ok (.lstore 6, 2) := by decide +kernel
theorem dX6_lookFor_189 : decode cX6_lookFor 189 = .ok (.aload_n 0, 1) := by decide +kernel
theorem dX6_lookFor_190 : decode cX6_lookFor 190 = .ok (.iconst 0, 1) := by decide +kernel
theorem dX6_lookFor_191 : decode cX6_lookFor 191 = .ok (.iload_n 3, 1) := by decide +kernel
theorem dX6_lookFor_192 : decode cX6_lookFor 192 = .ok (.ifCond .ne 7, 3) := by decide +kernel
theorem dX6_lookFor_195 : decode cX6_lookFor 195 = .ok (.iconst 1, 1) := by decide +kernel
theorem dX6_lookFor_196 : decode cX6_lookFor 196 = .ok (.goto 4, 3) := by decide +kernel
theorem dX6_lookFor_199 : decode cX6_lookFor 199 = .ok (.iconst 0, 1) := by decide +kernel
theorem dX6_lookFor_200 : decode cX6_lookFor 200 = .ok (.lload 6, 2) := by decide +kernel
theorem dX6_lookFor_202 : decode cX6_lookFor 202 = .ok (.aload_n 0, 1) := by decide +kernel
theorem dX6_lookFor_203 : decode cX6_lookFor 203 = .ok (.getfield 230, 3) := by decide +kernel
theorem dX6_lookFor_206 : decode cX6_lookFor 206 = .ok (.lconst 0, 1) := by decide +kernel
theorem dX6_lookFor_207 : decode cX6_lookFor 207 = .ok (.lcmp, 1) := by decide +kernel
theorem dX6_lookFor_208 : decode cX6_lookFor 208 = .ok (.ifCond .ge 14, 3) := by decide +kernel
theorem dX6_lookFor_211 : decode cX6_lookFor 211 = .ok (.ldc2_w 290, 3) := by decide +kernel
theorem dX6_lookFor_214 : decode cX6_lookFor 214 = .ok (.aload_n 0, 1) := by decide +kernel
theorem dX6_lookFor_215 : decode cX6_lookFor 215 = .ok (.getfield 230, 3) := by decide +kernel
theorem dX6_lookFor_218 : decode cX6_lookFor 218 = .ok (.lmul, 1) := by decide +kernel
theorem dX6_lookFor_219 : decode cX6_lookFor 219 = .ok (.goto 11, 3) := by decide +kernel
theorem dX6_lookFor_222 : decode cX6_lookFor 222 = .ok (.ldc2_w 218, 3) := by decide +kernel
theorem dX6_lookFor_225 : decode cX6_lookFor 225 = .ok (.aload_n 0, 1) := by decide +kernel
theorem dX6_lookFor_226 : decode cX6_lookFor 226 = .ok (.getfield 230, 3) := by decide +kernel
theorem dX6_lookFor_229 : decode cX6_lookFor 229 = .ok (.lmul, 1) := by decide +kernel
theorem dX6_lookFor_230 : decode cX6_lookFor 230 = .ok (.invokevirtual 292, 3) := by decide +kernel
theorem dX6_lookFor_233 : decode cX6_lookFor 233 = .ok (.aload_n 0, 1) := by decide +kernel
theorem dX6_lookFor_234 : decode cX6_lookFor 234 = .ok (.iconst 1, 1) := by decide +kernel
theorem dX6_lookFor_235 : decode cX6_lookFor 235 = .ok (.iload_n 3, 1) := by decide +kernel
theorem dX6_lookFor_236 : decode cX6_lookFor 236 = .ok (.ifCond .ne 7, 3) := by decide +kernel
theorem dX6_lookFor_239 : decode cX6_lookFor 239 = .ok (.iconst 1, 1) := by decide +kernel
theorem dX6_lookFor_240 : decode cX6_lookFor 240 = .ok (.goto 4, 3) := by decide +kernel
theorem dX6_lookFor_243 : decode cX6_lookFor 243 = .ok (.iconst 0, 1) := by decide +kernel
theorem dX6_lookFor_244 : decode cX6_lookFor 244 = .ok (.lload 6, 2) := by decide +kernel
theorem dX6_lookFor_246 : decode cX6_lookFor 246 = .ok (.aload_n 0, 1) := by decide +kernel
theorem dX6_lookFor_247 : decode cX6_lookFor 247 = .ok (.getfield 230, 3) := by decide +kernel
theorem dX6_lookFor_250 : decode cX6_lookFor 250 = .ok (.lconst 0, 1) := by decide +kernel
theorem dX6_lookFor_251 : decode cX6_lookFor 251 = .ok (.lcmp, 1) := by decide +kernel
theorem dX6_lookFor_252 : decode cX6_lookFor 252 = .ok (.ifCond .ge 14, 3) := by decide +kernel
theorem dX6_lookFor_255 : decode cX6_lookFor 255 = .ok (.ldc2_w 290, 3) := by decide +kernel
theorem dX6_lookFor_258 : decode cX6_lookFor 258 = .ok (.aload_n 0, 1) := by decide +kernel
theorem dX6_lookFor_259 : decode cX6_lookFor 259 = .ok (.getfield 230, 3) := by decide +kernel
theorem dX6_lookFor_262 : decode cX6_lookFor 262 = .ok (.lmul, 1) := by decide +kernel
theorem dX6_lookFor_263 : decode cX6_lookFor 263 = .ok (.goto 11, 3) := by decide +kernel
theorem dX6_lookFor_266 : decode cX6_lookFor 266 = .ok (.ldc2_w 218, 3) := by decide +kernel
theorem dX6_lookFor_269 : decode cX6_lookFor 269 = .ok (.aload_n 0, 1) := by decide +kernel
theorem dX6_lookFor_270 : decode cX6_lookFor 270 = .ok (.getfield 230, 3) := by decide +kernel
theorem dX6_lookFor_273 : decode cX6_lookFor 273 = .ok (.lmul, 1) := by decide +kernel
theorem dX6_lookFor_274 : decode cX6_lookFor 274 = .ok (.invokevirtual 292, 3) := by decide +kernel
theorem dX6_lookFor_277 : decode cX6_lookFor 277 = .ok (.iconst 1, 1) := by decide +kernel
theorem dX6_lookFor_278 : decode cX6_lookFor 278 = .ok (.istore_n 3, 1) := by decide +kernel
theorem dX6_lookFor_279 : decode cX6_lookFor 279 = .ok (.aload_n 0, 1) := by decide +kernel
theorem dX6_lookFor_280 : decode cX6_lookFor 280 = .ok (.invokevirtual 280, 3) := by decide +kernel
theorem dX6_lookFor_283 : decode cX6_lookFor 283 = .ok (.istore 5, 2) := by decide +kernel
theorem dX6_lookFor_285 : decode cX6_lookFor 285 = .ok (.goto (-141), 3) := by decide +kernel
theorem dX6_lookFor_288 : decode cX6_lookFor 288 = .ok (.iinc 4 1, 3) := by decide +kernel
theorem dX6_lookFor_291 : decode cX6_lookFor 291 = .ok (.goto (-206), 3) := by decide +kernel
theorem dX6_lookFor_294 : decode cX6_lookFor 294 = .ok (.iload_n 3, 1) := by decide +kernel
theorem dX6_lookFor_295 : decode cX6_lookFor 295 = .ok (.ifCond .eq 7, 3) := by decide +kernel
theorem dX6_lookFor_298 : decode cX6_lookFor 298 = .ok (.iconst 0, 1) := by decide +kernel
theorem dX6_lookFor_299 : decode cX6_lookFor 299 = .ok (.goto 4, 3) := by decide +kernel
theorem dX6_lookFor_302 : decode cX6_lookFor 302 = .ok (.iconst 2, 1) := by decide +kernel
theorem dX6_lookFor_303 : decode cX6_lookFor 303 = .ok (.ireturn, 1) := by decide +kernel
abbrev rm_X6_lookFor : Room := { frames := 3, cells := 0, slots := 0, locals := 121 }
noncomputable def f_X6_lookFor_b288 (N : Nat) (kb85 : Int32 → Int32 → ZS → Option (Int32 × ZS)) (x1 : Int32) (x3 : Int32) (x4 : Int32) (σ : ZS) : Option (Int32 × ZS) := bd (x4 + (1 : Int32)) fun v12 => kb85 x3 v12 σ
noncomputable def f_X6_lookFor_b279 (N : Nat) (kb144 : Int32 → Int32 → ZS → Option (Int32 × ZS)) (x1 : Int32) (x3 : Int32) (x4 : Int32) (σ : ZS) : Option (Int32 × ZS) := obd (f_X6_isNext N σ) fun v22 σ23 => kb144 x3 v22 σ23
noncomputable def f_X6_lookFor_b274 (N : Nat) (kb144 : Int32 → Int32 → ZS → Option (Int32 × ZS)) (x1 : Int32) (x4 : Int32) (s1 : Int32) (s2 : Int32) (s3 : Int64) (s4 : Int64) (σ : ZS) : Option (Int32 × ZS) := obd (f_X6_takeSide N s1 s2 s3 s4 σ) fun _ σ33 => f_X6_lookFor_b279 N kb144 x1 (1 : Int32) x4 σ33
noncomputable def f_X6_lookFor_b244 (N : Nat) (kb144 : Int32 → Int32 → ZS → Option (Int32 × ZS)) (x1 : Int32) (x4 : Int32) (x6 : Int64) (s1 : Int32) (s2 : Int32) (σ : ZS) : Option (Int32 × ZS) := (if (gJ σ 1067 29) < (0 : Int64) then f_X6_lookFor_b274 N kb144 x1 x4 s1 s2 x6 ((-12 : Int64) * (gJ σ 1067 29)) σ else f_X6_lookFor_b274 N kb144 x1 x4 s1 s2 x6 ((12 : Int64) * (gJ σ 1067 29)) σ)
noncomputable def f_X6_lookFor_b230 (N : Nat) (kb144 : Int32 → Int32 → ZS → Option (Int32 × ZS)) (x1 : Int32) (x3 : Int32) (x4 : Int32) (x6 : Int64) (s1 : Int32) (s2 : Int32) (s3 : Int64) (s4 : Int64) (σ : ZS) : Option (Int32 × ZS) := obd (f_X6_takeSide N s1 s2 s3 s4 σ) fun _ σ29 => (if x3 = 0 then f_X6_lookFor_b244 N kb144 x1 x4 x6 (1 : Int32) (1 : Int32) σ29 else f_X6_lookFor_b244 N kb144 x1 x4 x6 (1 : Int32) (0 : Int32) σ29)
noncomputable def f_X6_lookFor_b200 (N : Nat) (kb144 : Int32 → Int32 → ZS → Option (Int32 × ZS)) (x1 : Int32) (x3 : Int32) (x4 : Int32) (x6 : Int64) (s1 : Int32) (s2 : Int32) (σ : ZS) : Option (Int32 × ZS) := (if (gJ σ 1067 29) < (0 : Int64) then f_X6_lookFor_b230 N kb144 x1 x3 x4 x6 s1 s2 x6 ((-12 : Int64) * (gJ σ 1067 29)) σ else f_X6_lookFor_b230 N kb144 x1 x3 x4 x6 s1 s2 x6 ((12 : Int64) * (gJ σ 1067 29)) σ)
noncomputable def f_X6_lookFor_b187 (N : Nat) (kb144 : Int32 → Int32 → ZS → Option (Int32 × ZS)) (x1 : Int32) (x3 : Int32) (x4 : Int32) (s0 : Int64) (σ : ZS) : Option (Int32 × ZS) := (if x3 = 0 then f_X6_lookFor_b200 N kb144 x1 x3 x4 s0 (0 : Int32) (1 : Int32) σ else f_X6_lookFor_b200 N kb144 x1 x3 x4 s0 (0 : Int32) (0 : Int32) σ)
noncomputable def f_X6_lookFor_h144 (N : Nat) (kb85 : Int32 → Int32 → ZS → Option (Int32 × ZS)) (x1 : Int32) (x4 : Int32) : Nat → Int32 → Int32 → ZS → Option (Int32 × ZS)
  | 0, _, _, _ => none
  | n + 1, x3, x5, σ => (if x5 = 0 then f_X6_lookFor_b288 N kb85 x1 x3 x4 σ else obd (f_X6_isWithin N σ) fun v19 σ20 => (if v19 = 0 then f_X6_lookFor_b279 N (fun x3_ x5_ σ_ => f_X6_lookFor_h144 N kb85 x1 x4 n x3_ x5_ σ_) x1 x3 x4 σ20 else (if (gJ σ20 1067 29) < (0 : Int64) then ck (inb ((12 : Int32) + x1) 15) (f_X6_lookFor_b187 N (fun x3_ x5_ σ_ => f_X6_lookFor_h144 N kb85 x1 x4 n x3_ x5_ σ_) x1 x3 x4 (gJ σ20 1093 (((12 : Int32) + x1).toNatClampNeg)) σ20) else ck (inb ((12 : Int32) + x1) 15) (f_X6_lookFor_b187 N (fun x3_ x5_ σ_ => f_X6_lookFor_h144 N kb85 x1 x4 n x3_ x5_ σ_) x1 x3 x4 (-(gJ σ20 1093 (((12 : Int32) + x1).toNatClampNeg))) σ20))))
noncomputable def f_X6_lookFor_h85 (N : Nat) (x1 : Int32) : Nat → Int32 → Int32 → ZS → Option (Int32 × ZS)
  | 0, _, _, _ => none
  | n + 1, x3, x4, σ => (if ((1 : Int32) <<< (((2 : Int32) * (gI σ 1067 4)) &&& 31)) ≤ x4 then (if x3 = 0 then some ((2 : Int32), σ) else some ((0 : Int32), σ)) else obd (f_X6_bits N x4 σ) fun v9 σ10 => (if v9 = ((gI σ10 1067 10) - (1 : Int32)) then obd (f_X6_isSolved N (x4 ||| ((1 : Int32) <<< (((12 : Int32) + x1) &&& 31))) σ10) fun v13 σ14 => (if v13 = 0 then f_X6_lookFor_b288 N (fun x3_ x4_ σ_ => f_X6_lookFor_h85 N x1 n x3_ x4_ σ_) x1 x3 x4 σ14 else obd (f_X6_begin N (x4 ||| ((1 : Int32) <<< (((12 : Int32) + x1) &&& 31))) σ14) fun _ σ17 => f_X6_lookFor_h144 N (fun x3_ x4_ σ_ => f_X6_lookFor_h85 N x1 n x3_ x4_ σ_) x1 x4 N x3 (1 : Int32) σ17) else f_X6_lookFor_b288 N (fun x3_ x4_ σ_ => f_X6_lookFor_h85 N x1 n x3_ x4_ σ_) x1 x3 x4 σ10))
noncomputable def f_X6_lookFor_b44 (N : Nat) (kb8 : Int32 → Int32 → ZS → Option (Int32 × ZS)) (x1 : Int32) (x3 : Int32) (s0 : Int32) (σ : ZS) : Option (Int32 × ZS) := bd (x3 + (1 : Int32)) fun v39 => kb8 s0 v39 σ
noncomputable def f_X6_lookFor_b39 (N : Nat) (kb8 : Int32 → Int32 → ZS → Option (Int32 × ZS)) (x1 : Int32) (x3 : Int32) (σ : ZS) : Option (Int32 × ZS) := f_X6_lookFor_b44 N kb8 x1 x3 (1 : Int32) σ
noncomputable def f_X6_lookFor_h8 (N : Nat) (x1 : Int32) : Nat → Int32 → Int32 → ZS → Option (Int32 × ZS)
  | 0, _, _, _ => none
  | n + 1, x2, x3, σ => (if (gI σ 1067 10) ≤ x3 then (if x2 = 0 then obd (f_X6_isBorne N (1 : Int64) (0 : Int64) (0 : Int64) (1 : Int64) σ) fun v35 σ36 => (if v35 = 0 then some ((2 : Int32), σ36) else some ((1 : Int32), σ36)) else obd (f_X6_take N (1 : Int64) (0 : Int64) (0 : Int64) (1 : Int64) σ) fun _ σ6 => f_X6_lookFor_h85 N x1 N (0 : Int32) (0 : Int32) σ6) else (if x2 = 0 then ck (inb ((((15 : Int32) * x3) + (12 : Int32)) + x1) 180) ((if (gJ σ 1087 (((((15 : Int32) * x3) + (12 : Int32)) + x1).toNatClampNeg)) = (0 : Int64) then f_X6_lookFor_b44 N (fun x2_ x3_ σ_ => f_X6_lookFor_h8 N x1 n x2_ x3_ σ_) x1 x3 (0 : Int32) σ else f_X6_lookFor_b39 N (fun x2_ x3_ σ_ => f_X6_lookFor_h8 N x1 n x2_ x3_ σ_) x1 x3 σ)) else f_X6_lookFor_b39 N (fun x2_ x3_ σ_ => f_X6_lookFor_h8 N x1 n x2_ x3_ σ_) x1 x3 σ))
noncomputable def f_X6_lookFor (N : Nat) (x1 : Int32) (σ : ZS) : Option (Int32 × ZS) := obd (f_X6_layRules N σ) fun _ σ2 => f_X6_lookFor_h8 N x1 N (0 : Int32) (0 : Int32) σ2
set_option maxHeartbeats 4000000 in
set_option maxRecDepth 100000 in
theorem k_X6_lookFor_b288 {l : Launch} {Y : ZY} {G : ZG} {r : Int32} {σ' : ZS} (h : zOk (l, rm_X6_lookFor, 8, 0, 0) Y G cX6_lookFor RX6 (some .int)) (hq : zRet (l, rm_X6_lookFor, 8, 0, 0) Y G (some (.int r)) σ') (N : Nat) {kb85 : Int32 → Int32 → ZS → Option (Int32 × ZS)} (x1 : Int32) (x3 : Int32) (x4 : Int32) (hb85 : ∀ (x3_ : Int32) (x4_ : Int32) (σ_ : ZS), kb85 x3_ x4_ σ_ = some (r, σ') → Z (l, rm_X6_lookFor, 8, 0, 0) Y G σ_ [(0, .ref (G.1 1067)), (1, .int x1), (3, .int x3_), (4, .int x4_)] [] 85) (σ : ZS) (hf : f_X6_lookFor_b288 N kb85 x1 x3 x4 σ = some (r, σ')) : Z (l, rm_X6_lookFor, 8, 0, 0) Y G σ [(0, .ref (G.1 1067)), (1, .int x1), (3, .int x3), (4, .int x4)] [] 288 := by
  rw [f_X6_lookFor_b288] at hf
  obtain ⟨v12, ev12, hf⟩ := bd_ex hf
  refine z_iinc h (v := v12) (lv' := [(4, .int v12), (0, .ref (G.1 1067)), (1, .int x1), (3, .int x3)]) dX6_lookFor_288 3 rfl (by rw [ev12]; rfl) rfl rfl ?_
  refine z_goto h (tgt := 85) dX6_lookFor_291 (by decide) ?_
  exact z_sub [1, 2, 3, 0] rfl (hb85 _ _ _ hf)
set_option maxHeartbeats 4000000 in
set_option maxRecDepth 100000 in
theorem k_X6_lookFor_b279 {l : Launch} {Y : ZY} {G : ZG} {r : Int32} {σ' : ZS} (h : zOk (l, rm_X6_lookFor, 8, 0, 0) Y G cX6_lookFor RX6 (some .int)) (hq : zRet (l, rm_X6_lookFor, 8, 0, 0) Y G (some (.int r)) σ') (N : Nat) {kb144 : Int32 → Int32 → ZS → Option (Int32 × ZS)} (x1 : Int32) (x3 : Int32) (x4 : Int32) (hb144 : ∀ (x3_ : Int32) (x5_ : Int32) (σ_ : ZS), kb144 x3_ x5_ σ_ = some (r, σ') → Z (l, rm_X6_lookFor, 8, 0, 0) Y G σ_ [(0, .ref (G.1 1067)), (1, .int x1), (3, .int x3_), (4, .int x4), (5, .int x5_)] [] 144) (σ : ZS) (hf : f_X6_lookFor_b279 N kb144 x1 x3 x4 σ = some (r, σ')) : Z (l, rm_X6_lookFor, 8, 0, 0) Y G σ [(0, .ref (G.1 1067)), (1, .int x1), (3, .int x3), (4, .int x4)] [] 279 := by
  rw [f_X6_lookFor_b279] at hf
  refine z_aload_n h dX6_lookFor_279 rfl 0 rfl ?_
  obtain ⟨v22, σ23, e23, hf⟩ := obd_out hf
  refine z_cVv h (n := 0) (c_X6_isNext l G e23) zC6 tg_1067 ln_1067 rfl rfl wd_672 wd_673 wd_674 wd_5 wd_675 (by decide +kernel) ⟨rfl, rfl⟩ rfl rfl rfl dX6_lookFor_280 ⟨Nat.zero_le _, Nat.zero_le _⟩ ?_
  refine z_istore h dX6_lookFor_283 (lv' := [(5, .int v22), (0, .ref (G.1 1067)), (1, .int x1), (3, .int x3), (4, .int x4)]) rfl rfl ?_
  refine z_goto h (tgt := 144) dX6_lookFor_285 (by decide) ?_
  exact z_sub [1, 2, 3, 4, 0] rfl (hb144 _ _ _ hf)
set_option maxHeartbeats 4000000 in
set_option maxRecDepth 100000 in
theorem k_X6_lookFor_b274 {l : Launch} {Y : ZY} {G : ZG} {r : Int32} {σ' : ZS} (h : zOk (l, rm_X6_lookFor, 8, 0, 0) Y G cX6_lookFor RX6 (some .int)) (hq : zRet (l, rm_X6_lookFor, 8, 0, 0) Y G (some (.int r)) σ') (N : Nat) {kb144 : Int32 → Int32 → ZS → Option (Int32 × ZS)} (x1 : Int32) (x4 : Int32) (s1 : Int32) (s2 : Int32) (s3 : Int64) (s4 : Int64) (hb144 : ∀ (x3_ : Int32) (x5_ : Int32) (σ_ : ZS), kb144 x3_ x5_ σ_ = some (r, σ') → Z (l, rm_X6_lookFor, 8, 0, 0) Y G σ_ [(0, .ref (G.1 1067)), (1, .int x1), (3, .int x3_), (4, .int x4), (5, .int x5_)] [] 144) (σ : ZS) (hf : f_X6_lookFor_b274 N kb144 x1 x4 s1 s2 s3 s4 σ = some (r, σ')) : Z (l, rm_X6_lookFor, 8, 0, 0) Y G σ [(0, .ref (G.1 1067)), (1, .int x1), (4, .int x4)] [.long s4, .long s3, .int s2, .int s1, .ref (G.1 1067)] 274 := by
  rw [f_X6_lookFor_b274] at hf
  obtain ⟨v32, σ33, e33, hf⟩ := obd_out hf
  refine z_cV0 h (n := 4) (c_X6_takeSide l G e33) zC6 tg_1067 ln_1067 rfl rfl wd_678 wd_679 wd_680 wd_5 wd_681 (by decide +kernel) ⟨rfl, rfl⟩ rfl rfl rfl dX6_lookFor_274 ⟨Nat.zero_le _, Nat.zero_le _⟩ ?_
  refine z_iconst h (v := (1 : Int32)) dX6_lookFor_277 ic_1 ?_
  refine z_istore_n h dX6_lookFor_278 rfl (lv' := [(3, .int (1 : Int32)), (0, .ref (G.1 1067)), (1, .int x1), (4, .int x4)]) rfl rfl ?_
  exact z_sub [1, 2, 0, 3] rfl (k_X6_lookFor_b279 h hq N x1 (1 : Int32) x4 hb144 _ hf)
set_option maxHeartbeats 4000000 in
set_option maxRecDepth 100000 in
theorem k_X6_lookFor_b244 {l : Launch} {Y : ZY} {G : ZG} {r : Int32} {σ' : ZS} (h : zOk (l, rm_X6_lookFor, 8, 0, 0) Y G cX6_lookFor RX6 (some .int)) (hq : zRet (l, rm_X6_lookFor, 8, 0, 0) Y G (some (.int r)) σ') (N : Nat) {kb144 : Int32 → Int32 → ZS → Option (Int32 × ZS)} (x1 : Int32) (x4 : Int32) (x6 : Int64) (s1 : Int32) (s2 : Int32) (hb144 : ∀ (x3_ : Int32) (x5_ : Int32) (σ_ : ZS), kb144 x3_ x5_ σ_ = some (r, σ') → Z (l, rm_X6_lookFor, 8, 0, 0) Y G σ_ [(0, .ref (G.1 1067)), (1, .int x1), (3, .int x3_), (4, .int x4), (5, .int x5_)] [] 144) (σ : ZS) (hf : f_X6_lookFor_b244 N kb144 x1 x4 x6 s1 s2 σ = some (r, σ')) : Z (l, rm_X6_lookFor, 8, 0, 0) Y G σ [(0, .ref (G.1 1067)), (1, .int x1), (4, .int x4), (6, .long x6)] [.int s2, .int s1, .ref (G.1 1067)] 244 := by
  rw [f_X6_lookFor_b244] at hf
  refine z_lload h dX6_lookFor_244 3 rfl ?_
  refine z_aload_n h dX6_lookFor_246 rfl 0 rfl ?_
  refine z_gfJ h zC6 (c := 1067) tg_1067 ln_1067 29 rfl ft_6_29 wd_625 dX6_lookFor_247 ?_
  refine z_lconst h (v := (0 : Int64)) dX6_lookFor_250 lc_0 ?_
  refine z_lif_ge h (tgt := 266) dX6_lookFor_251 dX6_lookFor_252 (by decide) (fun g31 => ?_) (fun g31 => ?_)
  · have hf := it_neg g31 hf
    refine z_ldc2 h (v := (12 : Int64)) wd_546 dX6_lookFor_266 ?_
    refine z_aload_n h dX6_lookFor_269 rfl 0 rfl ?_
    refine z_gfJ h zC6 (c := 1067) tg_1067 ln_1067 29 rfl ft_6_29 wd_625 dX6_lookFor_270 ?_
    refine z_lmul h dX6_lookFor_273 ?_
    exact z_sub [0, 1, 2] rfl (k_X6_lookFor_b274 h hq N x1 x4 s1 s2 x6 ((12 : Int64) * (gJ σ 1067 29)) hb144 _ hf)
  · have hf := it_pos g31 hf
    refine z_ldc2 h (v := (-12 : Int64)) wd_626 dX6_lookFor_255 ?_
    refine z_aload_n h dX6_lookFor_258 rfl 0 rfl ?_
    refine z_gfJ h zC6 (c := 1067) tg_1067 ln_1067 29 rfl ft_6_29 wd_625 dX6_lookFor_259 ?_
    refine z_lmul h dX6_lookFor_262 ?_
    refine z_goto h (tgt := 274) dX6_lookFor_263 (by decide) ?_
    exact z_sub [0, 1, 2] rfl (k_X6_lookFor_b274 h hq N x1 x4 s1 s2 x6 ((-12 : Int64) * (gJ σ 1067 29)) hb144 _ hf)
set_option maxHeartbeats 4000000 in
set_option maxRecDepth 100000 in
theorem k_X6_lookFor_b230 {l : Launch} {Y : ZY} {G : ZG} {r : Int32} {σ' : ZS} (h : zOk (l, rm_X6_lookFor, 8, 0, 0) Y G cX6_lookFor RX6 (some .int)) (hq : zRet (l, rm_X6_lookFor, 8, 0, 0) Y G (some (.int r)) σ') (N : Nat) {kb144 : Int32 → Int32 → ZS → Option (Int32 × ZS)} (x1 : Int32) (x3 : Int32) (x4 : Int32) (x6 : Int64) (s1 : Int32) (s2 : Int32) (s3 : Int64) (s4 : Int64) (hb144 : ∀ (x3_ : Int32) (x5_ : Int32) (σ_ : ZS), kb144 x3_ x5_ σ_ = some (r, σ') → Z (l, rm_X6_lookFor, 8, 0, 0) Y G σ_ [(0, .ref (G.1 1067)), (1, .int x1), (3, .int x3_), (4, .int x4), (5, .int x5_)] [] 144) (σ : ZS) (hf : f_X6_lookFor_b230 N kb144 x1 x3 x4 x6 s1 s2 s3 s4 σ = some (r, σ')) : Z (l, rm_X6_lookFor, 8, 0, 0) Y G σ [(0, .ref (G.1 1067)), (1, .int x1), (3, .int x3), (4, .int x4), (6, .long x6)] [.long s4, .long s3, .int s2, .int s1, .ref (G.1 1067)] 230 := by
  rw [f_X6_lookFor_b230] at hf
  obtain ⟨v28, σ29, e29, hf⟩ := obd_out hf
  refine z_cV0 h (n := 4) (c_X6_takeSide l G e29) zC6 tg_1067 ln_1067 rfl rfl wd_678 wd_679 wd_680 wd_5 wd_681 (by decide +kernel) ⟨rfl, rfl⟩ rfl rfl rfl dX6_lookFor_230 ⟨Nat.zero_le _, Nat.zero_le _⟩ ?_
  refine z_aload_n h dX6_lookFor_233 rfl 0 rfl ?_
  refine z_iconst h (v := (1 : Int32)) dX6_lookFor_234 ic_1 ?_
  refine z_iload_n h dX6_lookFor_235 rfl 2 rfl ?_
  refine z_if_ne h (tgt := 243) dX6_lookFor_236 (by decide) (fun g30 => ?_) (fun g30 => ?_)
  · have hf := it_neg g30 hf
    refine z_iconst h (v := (0 : Int32)) dX6_lookFor_243 ic_0 ?_
    exact z_sub [0, 1, 3, 4] rfl (k_X6_lookFor_b244 h hq N x1 x4 x6 (1 : Int32) (0 : Int32) hb144 _ hf)
  · have hf := it_pos g30 hf
    refine z_iconst h (v := (1 : Int32)) dX6_lookFor_239 ic_1 ?_
    refine z_goto h (tgt := 244) dX6_lookFor_240 (by decide) ?_
    exact z_sub [0, 1, 3, 4] rfl (k_X6_lookFor_b244 h hq N x1 x4 x6 (1 : Int32) (1 : Int32) hb144 _ hf)
set_option maxHeartbeats 4000000 in
set_option maxRecDepth 100000 in
theorem k_X6_lookFor_b200 {l : Launch} {Y : ZY} {G : ZG} {r : Int32} {σ' : ZS} (h : zOk (l, rm_X6_lookFor, 8, 0, 0) Y G cX6_lookFor RX6 (some .int)) (hq : zRet (l, rm_X6_lookFor, 8, 0, 0) Y G (some (.int r)) σ') (N : Nat) {kb144 : Int32 → Int32 → ZS → Option (Int32 × ZS)} (x1 : Int32) (x3 : Int32) (x4 : Int32) (x6 : Int64) (s1 : Int32) (s2 : Int32) (hb144 : ∀ (x3_ : Int32) (x5_ : Int32) (σ_ : ZS), kb144 x3_ x5_ σ_ = some (r, σ') → Z (l, rm_X6_lookFor, 8, 0, 0) Y G σ_ [(0, .ref (G.1 1067)), (1, .int x1), (3, .int x3_), (4, .int x4), (5, .int x5_)] [] 144) (σ : ZS) (hf : f_X6_lookFor_b200 N kb144 x1 x3 x4 x6 s1 s2 σ = some (r, σ')) : Z (l, rm_X6_lookFor, 8, 0, 0) Y G σ [(0, .ref (G.1 1067)), (1, .int x1), (3, .int x3), (4, .int x4), (6, .long x6)] [.int s2, .int s1, .ref (G.1 1067)] 200 := by
  rw [f_X6_lookFor_b200] at hf
  refine z_lload h dX6_lookFor_200 4 rfl ?_
  refine z_aload_n h dX6_lookFor_202 rfl 0 rfl ?_
  refine z_gfJ h zC6 (c := 1067) tg_1067 ln_1067 29 rfl ft_6_29 wd_625 dX6_lookFor_203 ?_
  refine z_lconst h (v := (0 : Int64)) dX6_lookFor_206 lc_0 ?_
  refine z_lif_ge h (tgt := 222) dX6_lookFor_207 dX6_lookFor_208 (by decide) (fun g27 => ?_) (fun g27 => ?_)
  · have hf := it_neg g27 hf
    refine z_ldc2 h (v := (12 : Int64)) wd_546 dX6_lookFor_222 ?_
    refine z_aload_n h dX6_lookFor_225 rfl 0 rfl ?_
    refine z_gfJ h zC6 (c := 1067) tg_1067 ln_1067 29 rfl ft_6_29 wd_625 dX6_lookFor_226 ?_
    refine z_lmul h dX6_lookFor_229 ?_
    exact z_sub [0, 1, 2, 3, 4] rfl (k_X6_lookFor_b230 h hq N x1 x3 x4 x6 s1 s2 x6 ((12 : Int64) * (gJ σ 1067 29)) hb144 _ hf)
  · have hf := it_pos g27 hf
    refine z_ldc2 h (v := (-12 : Int64)) wd_626 dX6_lookFor_211 ?_
    refine z_aload_n h dX6_lookFor_214 rfl 0 rfl ?_
    refine z_gfJ h zC6 (c := 1067) tg_1067 ln_1067 29 rfl ft_6_29 wd_625 dX6_lookFor_215 ?_
    refine z_lmul h dX6_lookFor_218 ?_
    refine z_goto h (tgt := 230) dX6_lookFor_219 (by decide) ?_
    exact z_sub [0, 1, 2, 3, 4] rfl (k_X6_lookFor_b230 h hq N x1 x3 x4 x6 s1 s2 x6 ((-12 : Int64) * (gJ σ 1067 29)) hb144 _ hf)
set_option maxHeartbeats 4000000 in
set_option maxRecDepth 100000 in
theorem k_X6_lookFor_b187 {l : Launch} {Y : ZY} {G : ZG} {r : Int32} {σ' : ZS} (h : zOk (l, rm_X6_lookFor, 8, 0, 0) Y G cX6_lookFor RX6 (some .int)) (hq : zRet (l, rm_X6_lookFor, 8, 0, 0) Y G (some (.int r)) σ') (N : Nat) {kb144 : Int32 → Int32 → ZS → Option (Int32 × ZS)} (x1 : Int32) (x3 : Int32) (x4 : Int32) (s0 : Int64) (hb144 : ∀ (x3_ : Int32) (x5_ : Int32) (σ_ : ZS), kb144 x3_ x5_ σ_ = some (r, σ') → Z (l, rm_X6_lookFor, 8, 0, 0) Y G σ_ [(0, .ref (G.1 1067)), (1, .int x1), (3, .int x3_), (4, .int x4), (5, .int x5_)] [] 144) (σ : ZS) (hf : f_X6_lookFor_b187 N kb144 x1 x3 x4 s0 σ = some (r, σ')) : Z (l, rm_X6_lookFor, 8, 0, 0) Y G σ [(0, .ref (G.1 1067)), (1, .int x1), (3, .int x3), (4, .int x4)] [.long s0] 187 := by
  rw [f_X6_lookFor_b187] at hf
  refine z_lstore h dX6_lookFor_187 (lv' := [(6, .long s0), (0, .ref (G.1 1067)), (1, .int x1), (3, .int x3), (4, .int x4)]) rfl rfl ?_
  refine z_aload_n h dX6_lookFor_189 rfl 1 rfl ?_
  refine z_iconst h (v := (0 : Int32)) dX6_lookFor_190 ic_0 ?_
  refine z_iload_n h dX6_lookFor_191 rfl 3 rfl ?_
  refine z_if_ne h (tgt := 199) dX6_lookFor_192 (by decide) (fun g26 => ?_) (fun g26 => ?_)
  · have hf := it_neg g26 hf
    refine z_iconst h (v := (0 : Int32)) dX6_lookFor_199 ic_0 ?_
    exact z_sub [1, 2, 3, 4, 0] rfl (k_X6_lookFor_b200 h hq N x1 x3 x4 s0 (0 : Int32) (0 : Int32) hb144 _ hf)
  · have hf := it_pos g26 hf
    refine z_iconst h (v := (1 : Int32)) dX6_lookFor_195 ic_1 ?_
    refine z_goto h (tgt := 200) dX6_lookFor_196 (by decide) ?_
    exact z_sub [1, 2, 3, 4, 0] rfl (k_X6_lookFor_b200 h hq N x1 x3 x4 s0 (0 : Int32) (1 : Int32) hb144 _ hf)
set_option maxHeartbeats 4000000 in
set_option maxRecDepth 100000 in
theorem k_X6_lookFor_h144 {l : Launch} {Y : ZY} {G : ZG} {r : Int32} {σ' : ZS} (h : zOk (l, rm_X6_lookFor, 8, 0, 0) Y G cX6_lookFor RX6 (some .int)) (hq : zRet (l, rm_X6_lookFor, 8, 0, 0) Y G (some (.int r)) σ') (N : Nat) {kb85 : Int32 → Int32 → ZS → Option (Int32 × ZS)} (x1 : Int32) (x4 : Int32) (hb85 : ∀ (x3_ : Int32) (x4_ : Int32) (σ_ : ZS), kb85 x3_ x4_ σ_ = some (r, σ') → Z (l, rm_X6_lookFor, 8, 0, 0) Y G σ_ [(0, .ref (G.1 1067)), (1, .int x1), (3, .int x3_), (4, .int x4_)] [] 85) : ∀ (n : Nat) (x3 : Int32) (x5 : Int32) (σ : ZS), f_X6_lookFor_h144 N kb85 x1 x4 n x3 x5 σ = some (r, σ') → Z (l, rm_X6_lookFor, 8, 0, 0) Y G σ [(0, .ref (G.1 1067)), (1, .int x1), (3, .int x3), (4, .int x4), (5, .int x5)] [] 144 := by
  intro n
  induction n with
  | zero =>
    intro x3 x5 σ hf
    rw [f_X6_lookFor_h144] at hf
    cases hf
  | succ n ih =>
    intro x3 x5 σ hf
    rw [f_X6_lookFor_h144] at hf
    refine z_iload h dX6_lookFor_144 4 rfl ?_
    refine z_if_eq h (tgt := 288) dX6_lookFor_146 (by decide) (fun g18 => ?_) (fun g18 => ?_)
    · have hf := it_pos g18 hf
      exact z_sub [0, 1, 2, 3] rfl (k_X6_lookFor_b288 h hq N x1 x3 x4 hb85 _ hf)
    · have hf := it_neg g18 hf
      refine z_aload_n h dX6_lookFor_149 rfl 0 rfl ?_
      obtain ⟨v19, σ20, e20, hf⟩ := obd_out hf
      refine z_cVv h (n := 0) (c_X6_isWithin l G e20) zC6 tg_1067 ln_1067 rfl rfl wd_668 wd_669 wd_670 wd_5 wd_671 (by decide +kernel) ⟨rfl, rfl⟩ rfl rfl rfl dX6_lookFor_150 ⟨Nat.zero_le _, Nat.zero_le _⟩ ?_
      refine z_if_eq h (tgt := 279) dX6_lookFor_153 (by decide) (fun g21 => ?_) (fun g21 => ?_)
      · have hf := it_pos g21 hf
        exact z_sub [0, 1, 2, 3] rfl (k_X6_lookFor_b279 h hq N x1 x3 x4 (fun x3_ x5_ σ_ hf_ => ih x3_ x5_ σ_ hf_) _ hf)
      · have hf := it_neg g21 hf
        refine z_aload_n h dX6_lookFor_156 rfl 0 rfl ?_
        refine z_gfJ h zC6 (c := 1067) tg_1067 ln_1067 29 rfl ft_6_29 wd_625 dX6_lookFor_157 ?_
        refine z_lconst h (v := (0 : Int64)) dX6_lookFor_160 lc_0 ?_
        refine z_lif_ge h (tgt := 177) dX6_lookFor_161 dX6_lookFor_162 (by decide) (fun g24 => ?_) (fun g24 => ?_)
        · have hf := it_neg g24 hf
          refine z_aload_n h dX6_lookFor_177 rfl 0 rfl ?_
          refine z_gfR h zC6 (d := 1093) (c := 1067) tg_1067 ln_1067 38 rfl ft_6_38 rf_1067_38 wd_116 dX6_lookFor_178 ?_
          refine z_bipush h (v := (12 : Int32)) dX6_lookFor_181 bp_12 ?_
          refine z_iload_n h dX6_lookFor_183 rfl 1 rfl ?_
          refine z_iadd h dX6_lookFor_184 ?_
          obtain ⟨g25, hf⟩ := ck_out hf
          refine z_lald h (c := 1093) tg_1093 ln_1093 g25 dX6_lookFor_185 ?_
          refine z_lneg h dX6_lookFor_186 ?_
          exact z_sub [0, 1, 2, 3] rfl (k_X6_lookFor_b187 h hq N x1 x3 x4 (-(gJ σ20 1093 (((12 : Int32) + x1).toNatClampNeg))) (fun x3_ x5_ σ_ hf_ => ih x3_ x5_ σ_ hf_) _ hf)
        · have hf := it_pos g24 hf
          refine z_aload_n h dX6_lookFor_165 rfl 0 rfl ?_
          refine z_gfR h zC6 (d := 1093) (c := 1067) tg_1067 ln_1067 38 rfl ft_6_38 rf_1067_38 wd_116 dX6_lookFor_166 ?_
          refine z_bipush h (v := (12 : Int32)) dX6_lookFor_169 bp_12 ?_
          refine z_iload_n h dX6_lookFor_171 rfl 1 rfl ?_
          refine z_iadd h dX6_lookFor_172 ?_
          obtain ⟨g34, hf⟩ := ck_out hf
          refine z_lald h (c := 1093) tg_1093 ln_1093 g34 dX6_lookFor_173 ?_
          refine z_goto h (tgt := 187) dX6_lookFor_174 (by decide) ?_
          exact z_sub [0, 1, 2, 3] rfl (k_X6_lookFor_b187 h hq N x1 x3 x4 (gJ σ20 1093 (((12 : Int32) + x1).toNatClampNeg)) (fun x3_ x5_ σ_ hf_ => ih x3_ x5_ σ_ hf_) _ hf)
set_option maxHeartbeats 4000000 in
set_option maxRecDepth 100000 in
theorem k_X6_lookFor_h85 {l : Launch} {Y : ZY} {G : ZG} {r : Int32} {σ' : ZS} (h : zOk (l, rm_X6_lookFor, 8, 0, 0) Y G cX6_lookFor RX6 (some .int)) (hq : zRet (l, rm_X6_lookFor, 8, 0, 0) Y G (some (.int r)) σ') (N : Nat) (x1 : Int32) : ∀ (n : Nat) (x3 : Int32) (x4 : Int32) (σ : ZS), f_X6_lookFor_h85 N x1 n x3 x4 σ = some (r, σ') → Z (l, rm_X6_lookFor, 8, 0, 0) Y G σ [(0, .ref (G.1 1067)), (1, .int x1), (3, .int x3), (4, .int x4)] [] 85 := by
  intro n
  induction n with
  | zero =>
    intro x3 x4 σ hf
    rw [f_X6_lookFor_h85] at hf
    cases hf
  | succ n ih =>
    intro x3 x4 σ hf
    rw [f_X6_lookFor_h85] at hf
    refine z_iload h dX6_lookFor_85 3 rfl ?_
    refine z_iconst h (v := (1 : Int32)) dX6_lookFor_87 ic_1 ?_
    refine z_iconst h (v := (2 : Int32)) dX6_lookFor_88 ic_2 ?_
    refine z_aload_n h dX6_lookFor_89 rfl 0 rfl ?_
    refine z_gfI h zC6 (c := 1067) tg_1067 ln_1067 4 rfl ft_6_4 wd_200 dX6_lookFor_90 ?_
    refine z_imul h dX6_lookFor_93 ?_
    refine z_ishl h dX6_lookFor_94 ?_
    refine z_icmp_ge h (tgt := 294) dX6_lookFor_95 (by decide) (fun g7 => ?_) (fun g7 => ?_)
    · have hf := it_pos g7 hf
      refine z_iload_n h dX6_lookFor_294 rfl 2 rfl ?_
      refine z_if_eq h (tgt := 302) dX6_lookFor_295 (by decide) (fun g8 => ?_) (fun g8 => ?_)
      · have hf := it_pos g8 hf
        refine z_iconst h (v := (2 : Int32)) dX6_lookFor_302 ic_2 ?_
        exact z_iret h (rt_I hf hq) dX6_lookFor_303
      · have hf := it_neg g8 hf
        refine z_iconst h (v := (0 : Int32)) dX6_lookFor_298 ic_0 ?_
        refine z_goto h (tgt := 303) dX6_lookFor_299 (by decide) ?_
        exact z_iret h (rt_I hf hq) dX6_lookFor_303
    · have hf := it_neg g7 hf
      refine z_iload h dX6_lookFor_98 3 rfl ?_
      obtain ⟨v9, σ10, e10, hf⟩ := obd_out hf
      refine z_cSv h (n := 1) (c_X6_bits l G e10) rfl wd_640 wd_641 wd_5 wd_642 (by decide +kernel) ⟨rfl, rfl⟩ rfl rfl rfl dX6_lookFor_100 ⟨Nat.zero_le _, Nat.zero_le _⟩ ?_
      refine z_aload_n h dX6_lookFor_103 rfl 0 rfl ?_
      refine z_gfI h zC6 (c := 1067) tg_1067 ln_1067 10 rfl ft_6_10 wd_424 dX6_lookFor_104 ?_
      refine z_iconst h (v := (1 : Int32)) dX6_lookFor_107 ic_1 ?_
      refine z_isub h dX6_lookFor_108 ?_
      refine z_icmp_ne h (tgt := 288) dX6_lookFor_109 (by decide) (fun g11 => ?_) (fun g11 => ?_)
      · have hf := it_neg g11 hf
        exact z_sub [0, 1, 2, 3] rfl (k_X6_lookFor_b288 h hq N x1 x3 x4 (fun x3_ x4_ σ_ hf_ => ih x3_ x4_ σ_ hf_) _ hf)
      · have hf := it_pos g11 hf
        refine z_aload_n h dX6_lookFor_112 rfl 0 rfl ?_
        refine z_iload h dX6_lookFor_113 3 rfl ?_
        refine z_iconst h (v := (1 : Int32)) dX6_lookFor_115 ic_1 ?_
        refine z_bipush h (v := (12 : Int32)) dX6_lookFor_116 bp_12 ?_
        refine z_iload_n h dX6_lookFor_118 rfl 1 rfl ?_
        refine z_iadd h dX6_lookFor_119 ?_
        refine z_ishl h dX6_lookFor_120 ?_
        refine z_ior h dX6_lookFor_121 ?_
        obtain ⟨v13, σ14, e14, hf⟩ := obd_out hf
        refine z_cVv h (n := 1) (c_X6_isSolved l G e14) zC6 tg_1067 ln_1067 rfl rfl wd_643 wd_644 wd_645 wd_5 wd_646 (by decide +kernel) ⟨rfl, rfl⟩ rfl rfl rfl dX6_lookFor_122 ⟨Nat.zero_le _, Nat.zero_le _⟩ ?_
        refine z_if_eq h (tgt := 288) dX6_lookFor_125 (by decide) (fun g15 => ?_) (fun g15 => ?_)
        · have hf := it_pos g15 hf
          exact z_sub [0, 1, 2, 3] rfl (k_X6_lookFor_b288 h hq N x1 x3 x4 (fun x3_ x4_ σ_ hf_ => ih x3_ x4_ σ_ hf_) _ hf)
        · have hf := it_neg g15 hf
          refine z_aload_n h dX6_lookFor_128 rfl 0 rfl ?_
          refine z_iload h dX6_lookFor_129 3 rfl ?_
          refine z_iconst h (v := (1 : Int32)) dX6_lookFor_131 ic_1 ?_
          refine z_bipush h (v := (12 : Int32)) dX6_lookFor_132 bp_12 ?_
          refine z_iload_n h dX6_lookFor_134 rfl 1 rfl ?_
          refine z_iadd h dX6_lookFor_135 ?_
          refine z_ishl h dX6_lookFor_136 ?_
          refine z_ior h dX6_lookFor_137 ?_
          obtain ⟨v16, σ17, e17, hf⟩ := obd_out hf
          refine z_cV0 h (n := 1) (c_X6_begin l G e17) zC6 tg_1067 ln_1067 rfl rfl wd_655 wd_656 wd_657 wd_5 wd_658 (by decide +kernel) ⟨rfl, rfl⟩ rfl rfl rfl dX6_lookFor_138 ⟨Nat.zero_le _, Nat.zero_le _⟩ ?_
          refine z_iconst h (v := (1 : Int32)) dX6_lookFor_141 ic_1 ?_
          refine z_istore h dX6_lookFor_142 (lv' := [(5, .int (1 : Int32)), (0, .ref (G.1 1067)), (1, .int x1), (3, .int x3), (4, .int x4)]) rfl rfl ?_
          exact z_sub [1, 2, 3, 4, 0] rfl (k_X6_lookFor_h144 h hq N x1 x4 (fun x3_ x4_ σ_ hf_ => ih x3_ x4_ σ_ hf_) _ _ _ _ hf)
set_option maxHeartbeats 4000000 in
set_option maxRecDepth 100000 in
theorem k_X6_lookFor_b44 {l : Launch} {Y : ZY} {G : ZG} {r : Int32} {σ' : ZS} (h : zOk (l, rm_X6_lookFor, 8, 0, 0) Y G cX6_lookFor RX6 (some .int)) (hq : zRet (l, rm_X6_lookFor, 8, 0, 0) Y G (some (.int r)) σ') (N : Nat) {kb8 : Int32 → Int32 → ZS → Option (Int32 × ZS)} (x1 : Int32) (x3 : Int32) (s0 : Int32) (hb8 : ∀ (x2_ : Int32) (x3_ : Int32) (σ_ : ZS), kb8 x2_ x3_ σ_ = some (r, σ') → Z (l, rm_X6_lookFor, 8, 0, 0) Y G σ_ [(0, .ref (G.1 1067)), (1, .int x1), (2, .int x2_), (3, .int x3_)] [] 8) (σ : ZS) (hf : f_X6_lookFor_b44 N kb8 x1 x3 s0 σ = some (r, σ')) : Z (l, rm_X6_lookFor, 8, 0, 0) Y G σ [(0, .ref (G.1 1067)), (1, .int x1), (3, .int x3)] [.int s0] 44 := by
  rw [f_X6_lookFor_b44] at hf
  refine z_istore_n h dX6_lookFor_44 rfl (lv' := [(2, .int s0), (0, .ref (G.1 1067)), (1, .int x1), (3, .int x3)]) rfl rfl ?_
  obtain ⟨v39, ev39, hf⟩ := bd_ex hf
  refine z_iinc h (v := v39) (lv' := [(3, .int v39), (2, .int s0), (0, .ref (G.1 1067)), (1, .int x1)]) dX6_lookFor_45 3 rfl (by rw [ev39]; rfl) rfl rfl ?_
  refine z_goto h (tgt := 8) dX6_lookFor_48 (by decide) ?_
  exact z_sub [2, 3, 1, 0] rfl (hb8 _ _ _ hf)
set_option maxHeartbeats 4000000 in
set_option maxRecDepth 100000 in
theorem k_X6_lookFor_b39 {l : Launch} {Y : ZY} {G : ZG} {r : Int32} {σ' : ZS} (h : zOk (l, rm_X6_lookFor, 8, 0, 0) Y G cX6_lookFor RX6 (some .int)) (hq : zRet (l, rm_X6_lookFor, 8, 0, 0) Y G (some (.int r)) σ') (N : Nat) {kb8 : Int32 → Int32 → ZS → Option (Int32 × ZS)} (x1 : Int32) (x3 : Int32) (hb8 : ∀ (x2_ : Int32) (x3_ : Int32) (σ_ : ZS), kb8 x2_ x3_ σ_ = some (r, σ') → Z (l, rm_X6_lookFor, 8, 0, 0) Y G σ_ [(0, .ref (G.1 1067)), (1, .int x1), (2, .int x2_), (3, .int x3_)] [] 8) (σ : ZS) (hf : f_X6_lookFor_b39 N kb8 x1 x3 σ = some (r, σ')) : Z (l, rm_X6_lookFor, 8, 0, 0) Y G σ [(0, .ref (G.1 1067)), (1, .int x1), (3, .int x3)] [] 39 := by
  rw [f_X6_lookFor_b39] at hf
  refine z_iconst h (v := (1 : Int32)) dX6_lookFor_39 ic_1 ?_
  refine z_goto h (tgt := 44) dX6_lookFor_40 (by decide) ?_
  exact z_sub [0, 1, 2] rfl (k_X6_lookFor_b44 h hq N x1 x3 (1 : Int32) hb8 _ hf)
set_option maxHeartbeats 4000000 in
set_option maxRecDepth 100000 in
theorem k_X6_lookFor_h8 {l : Launch} {Y : ZY} {G : ZG} {r : Int32} {σ' : ZS} (h : zOk (l, rm_X6_lookFor, 8, 0, 0) Y G cX6_lookFor RX6 (some .int)) (hq : zRet (l, rm_X6_lookFor, 8, 0, 0) Y G (some (.int r)) σ') (N : Nat) (x1 : Int32) : ∀ (n : Nat) (x2 : Int32) (x3 : Int32) (σ : ZS), f_X6_lookFor_h8 N x1 n x2 x3 σ = some (r, σ') → Z (l, rm_X6_lookFor, 8, 0, 0) Y G σ [(0, .ref (G.1 1067)), (1, .int x1), (2, .int x2), (3, .int x3)] [] 8 := by
  intro n
  induction n with
  | zero =>
    intro x2 x3 σ hf
    rw [f_X6_lookFor_h8] at hf
    cases hf
  | succ n ih =>
    intro x2 x3 σ hf
    rw [f_X6_lookFor_h8] at hf
    refine z_iload_n h dX6_lookFor_8 rfl 3 rfl ?_
    refine z_aload_n h dX6_lookFor_9 rfl 0 rfl ?_
    refine z_gfI h zC6 (c := 1067) tg_1067 ln_1067 10 rfl ft_6_10 wd_424 dX6_lookFor_10 ?_
    refine z_icmp_ge h (tgt := 51) dX6_lookFor_13 (by decide) (fun g3 => ?_) (fun g3 => ?_)
    · have hf := it_pos g3 hf
      refine z_iload_n h dX6_lookFor_51 rfl 2 rfl ?_
      refine z_if_ne h (tgt := 72) dX6_lookFor_52 (by decide) (fun g4 => ?_) (fun g4 => ?_)
      · have hf := it_neg g4 hf
        refine z_aload_n h dX6_lookFor_72 rfl 0 rfl ?_
        refine z_lconst h (v := (1 : Int64)) dX6_lookFor_73 lc_1 ?_
        refine z_lconst h (v := (0 : Int64)) dX6_lookFor_74 lc_0 ?_
        refine z_lconst h (v := (0 : Int64)) dX6_lookFor_75 lc_0 ?_
        refine z_lconst h (v := (1 : Int64)) dX6_lookFor_76 lc_1 ?_
        obtain ⟨v5, σ6, e6, hf⟩ := obd_out hf
        refine z_cV0 h (n := 4) (c_X6_take l G e6) zC6 tg_1067 ln_1067 rfl rfl wd_635 wd_636 wd_637 wd_5 wd_638 (by decide +kernel) ⟨rfl, rfl⟩ rfl rfl rfl dX6_lookFor_77 ⟨Nat.zero_le _, Nat.zero_le _⟩ ?_
        refine z_iconst h (v := (0 : Int32)) dX6_lookFor_80 ic_0 ?_
        refine z_istore_n h dX6_lookFor_81 rfl (lv' := [(3, .int (0 : Int32)), (0, .ref (G.1 1067)), (1, .int x1), (2, .int x2)]) rfl rfl ?_
        refine z_iconst h (v := (0 : Int32)) dX6_lookFor_82 ic_0 ?_
        refine z_istore h dX6_lookFor_83 (lv' := [(4, .int (0 : Int32)), (3, .int (0 : Int32)), (0, .ref (G.1 1067)), (1, .int x1), (2, .int x2)]) rfl rfl ?_
        exact z_sub [2, 3, 1, 0] rfl (k_X6_lookFor_h85 h hq N x1 _ _ _ _ hf)
      · have hf := it_pos g4 hf
        refine z_aload_n h dX6_lookFor_55 rfl 0 rfl ?_
        refine z_lconst h (v := (1 : Int64)) dX6_lookFor_56 lc_1 ?_
        refine z_lconst h (v := (0 : Int64)) dX6_lookFor_57 lc_0 ?_
        refine z_lconst h (v := (0 : Int64)) dX6_lookFor_58 lc_0 ?_
        refine z_lconst h (v := (1 : Int64)) dX6_lookFor_59 lc_1 ?_
        obtain ⟨v35, σ36, e36, hf⟩ := obd_out hf
        refine z_cVv h (n := 4) (c_X6_isBorne l G e36) zC6 tg_1067 ln_1067 rfl rfl wd_631 wd_632 wd_633 wd_5 wd_634 (by decide +kernel) ⟨rfl, rfl⟩ rfl rfl rfl dX6_lookFor_60 ⟨Nat.zero_le _, Nat.zero_le _⟩ ?_
        refine z_if_eq h (tgt := 70) dX6_lookFor_63 (by decide) (fun g37 => ?_) (fun g37 => ?_)
        · have hf := it_pos g37 hf
          refine z_iconst h (v := (2 : Int32)) dX6_lookFor_70 ic_2 ?_
          exact z_iret h (rt_I hf hq) dX6_lookFor_71
        · have hf := it_neg g37 hf
          refine z_iconst h (v := (1 : Int32)) dX6_lookFor_66 ic_1 ?_
          refine z_goto h (tgt := 71) dX6_lookFor_67 (by decide) ?_
          exact z_iret h (rt_I hf hq) dX6_lookFor_71
    · have hf := it_neg g3 hf
      refine z_iload_n h dX6_lookFor_16 rfl 2 rfl ?_
      refine z_if_ne h (tgt := 39) dX6_lookFor_17 (by decide) (fun g38 => ?_) (fun g38 => ?_)
      · have hf := it_neg g38 hf
        exact z_sub [0, 1, 3] rfl (k_X6_lookFor_b39 h hq N x1 x3 (fun x2_ x3_ σ_ hf_ => ih x2_ x3_ σ_ hf_) _ hf)
      · have hf := it_pos g38 hf
        refine z_aload_n h dX6_lookFor_20 rfl 0 rfl ?_
        refine z_gfR h zC6 (d := 1087) (c := 1067) tg_1067 ln_1067 26 rfl ft_6_26 rf_1067_26 wd_109 dX6_lookFor_21 ?_
        refine z_bipush h (v := (15 : Int32)) dX6_lookFor_24 bp_15 ?_
        refine z_iload_n h dX6_lookFor_26 rfl 3 rfl ?_
        refine z_imul h dX6_lookFor_27 ?_
        refine z_bipush h (v := (12 : Int32)) dX6_lookFor_28 bp_12 ?_
        refine z_iadd h dX6_lookFor_30 ?_
        refine z_iload_n h dX6_lookFor_31 rfl 1 rfl ?_
        refine z_iadd h dX6_lookFor_32 ?_
        obtain ⟨g40, hf⟩ := ck_out hf
        refine z_lald h (c := 1087) tg_1087 ln_1087 g40 dX6_lookFor_33 ?_
        refine z_lconst h (v := (0 : Int64)) dX6_lookFor_34 lc_0 ?_
        refine z_lif_eq h (tgt := 43) dX6_lookFor_35 dX6_lookFor_36 (by decide) (fun g41 => ?_) (fun g41 => ?_)
        · have hf := it_pos g41 hf
          refine z_iconst h (v := (0 : Int32)) dX6_lookFor_43 ic_0 ?_
          exact z_sub [0, 1, 3] rfl (k_X6_lookFor_b44 h hq N x1 x3 (0 : Int32) (fun x2_ x3_ σ_ hf_ => ih x2_ x3_ σ_ hf_) _ hf)
        · have hf := it_neg g41 hf
          exact z_sub [0, 1, 3] rfl (k_X6_lookFor_b39 h hq N x1 x3 (fun x2_ x3_ σ_ hf_ => ih x2_ x3_ σ_ hf_) _ hf)
set_option maxHeartbeats 4000000 in
set_option maxRecDepth 100000 in
theorem c_X6_lookFor (l : Launch) (G : ZG) {N : Nat} {x1 : Int32} {σ σ' : ZS} {r : Int32} (hf : f_X6_lookFor N x1 σ = some (r, σ')) : zMet l G yX6_lookFor cX6_lookFor 8 (some .int) rm_X6_lookFor [.ref (G.1 1067), .int x1] σ (some (.int r)) σ' := by
  refine z_met (by decide +kernel) rfl (fun Y h hq => ?_)
  have h : zOk (l, rm_X6_lookFor, 8, 0, 0) Y G cX6_lookFor RX6 (some .int) := h
  rw [f_X6_lookFor] at hf
  refine z_sub (lv' := [(0, .ref (G.1 1067)), (1, .int x1)]) [0, 1] rfl ?_
  refine z_aload_n h dX6_lookFor_0 rfl 0 rfl ?_
  obtain ⟨v1, σ2, e2, hf⟩ := obd_out hf
  refine z_cV0 h (n := 0) (c_X6_layRules l G e2) zC6 tg_1067 ln_1067 rfl rfl wd_627 wd_628 wd_629 wd_5 wd_630 (by decide +kernel) ⟨rfl, rfl⟩ rfl rfl rfl dX6_lookFor_1 ⟨Nat.zero_le _, Nat.zero_le _⟩ ?_
  refine z_iconst h (v := (0 : Int32)) dX6_lookFor_4 ic_0 ?_
  refine z_istore_n h dX6_lookFor_5 rfl (lv' := [(2, .int (0 : Int32)), (0, .ref (G.1 1067)), (1, .int x1)]) rfl rfl ?_
  refine z_iconst h (v := (0 : Int32)) dX6_lookFor_6 ic_0 ?_
  refine z_istore_n h dX6_lookFor_7 rfl (lv' := [(3, .int (0 : Int32)), (2, .int (0 : Int32)), (0, .ref (G.1 1067)), (1, .int x1)]) rfl rfl ?_
  exact z_sub [2, 3, 1, 0] rfl (k_X6_lookFor_h8 h hq N x1 _ _ _ _ hf)
theorem dX6_isCase_0 : decode cX6_isCase 0 = .ok (.iload_n 0, 1) := by decide +kernel
theorem dX6_isCase_1 : decode cX6_isCase 1 = .ok (.iconst 1, 1) := by decide +kernel
theorem dX6_isCase_2 : decode cX6_isCase 2 = .ok (.iconst 2, 1) := by decide +kernel
theorem dX6_isCase_3 : decode cX6_isCase 3 = .ok (.invokestatic 137, 3) := by decide +kernel
theorem dX6_isCase_6 : decode cX6_isCase 6 = .ok (.ireturn, 1) := by decide +kernel
abbrev rm_X6_isCase : Room := { frames := 1, cells := 0, slots := 0, locals := 30 }
noncomputable def f_X6_isCase (N : Nat) (x0 : Int32) (σ : ZS) : Option (Int32 × ZS) := obd (f_X6_in N x0 (1 : Int32) (2 : Int32) σ) fun v1 σ2 => ck (bb v1) (some (v1, σ2))
set_option maxHeartbeats 4000000 in
set_option maxRecDepth 100000 in
theorem c_X6_isCase (l : Launch) (G : ZG) {N : Nat} {x0 : Int32} {σ σ' : ZS} {r : Int32} (hf : f_X6_isCase N x0 σ = some (r, σ')) : zMet l G yX6_isCase cX6_isCase 1 (some .boolean) rm_X6_isCase [.int x0] σ (some (.int r)) σ' := by
  refine z_met (by decide +kernel) rfl (fun Y h hq => ?_)
  have h : zOk (l, rm_X6_isCase, 1, 0, 0) Y G cX6_isCase RX6 (some .boolean) := h
  rw [f_X6_isCase] at hf
  refine z_sub (lv' := [(0, .int x0)]) [0] rfl ?_
  refine z_iload_n h dX6_isCase_0 rfl 0 rfl ?_
  refine z_iconst h (v := (1 : Int32)) dX6_isCase_1 ic_1 ?_
  refine z_iconst h (v := (2 : Int32)) dX6_isCase_2 ic_2 ?_
  obtain ⟨v1, σ2, e2, hf⟩ := obd_out hf
  refine z_cSv h (n := 3) (c_X6_in l G e2) rfl wd_156 wd_157 wd_5 wd_158 (by decide +kernel) ⟨rfl, rfl⟩ rfl rfl rfl dX6_isCase_3 ⟨Nat.zero_le _, Nat.zero_le _⟩ ?_
  obtain ⟨g3, hf⟩ := ck_out hf
  exact z_zret h g3 (rt_I hf hq) dX6_isCase_6
theorem dX6_limitOf_0 : decode cX6_limitOf 0 = .ok (.aload_n 0, 1) := by decide +kernel
theorem dX6_limitOf_1 : decode cX6_limitOf 1 = .ok (.getfield 104, 3) := by decide +kernel
theorem dX6_limitOf_4 : decode cX6_limitOf 4 = .ok (.iload_n 1, 1) := by decide +kernel
theorem dX6_limitOf_5 : decode cX6_limitOf 5 = .ok (.baload, 1) := by decide +kernel
theorem dX6_limitOf_6 : decode cX6_limitOf 6 = .ok (.ifCond .ne 66, 3) := by decide +kernel
theorem dX6_limitOf_9 : decode cX6_limitOf 9 = .ok (.aload_n 0, 1) := by decide +kernel
theorem dX6_limitOf_10 : decode cX6_limitOf 10 = .ok (.getfield 104, 3) := by decide +kernel
theorem dX6_limitOf_13 : decode cX6_limitOf 13 = .ok (.iload_n 1, 1) := by decide +kernel
theorem dX6_limitOf_14 : decode cX6_limitOf 14 = .ok (.iconst 1, 1) := by decide +kernel
theorem dX6_limitOf_15 : decode cX6_limitOf 15 = .ok (.bastore, 1) := by decide +kernel
theorem dX6_limitOf_16 : decode cX6_limitOf 16 = .ok (.aload_n 0, 1) := by decide +kernel
theorem dX6_limitOf_17 : decode cX6_limitOf 17 = .ok (.getfield 107, 3) := by decide +kernel
theorem dX6_limitOf_20 : decode cX6_limitOf 20 = .ok (.iload_n 1, 1) := by decide +kernel
theorem dX6_limitOf_21 : decode cX6_limitOf 21 = .ok (.aload_n 0, 1) := by decide +kernel
theorem dX6_limitOf_22 : decode cX6_limitOf 22 = .ok (.iload_n 1, 1) := by decide +kernel
theorem dX6_limitOf_23 : decode cX6_limitOf 23 = .ok (.invokevirtual 304, 3) := by decide +kernel
theorem dX6_limitOf_26 : decode cX6_limitOf 26 = .ok (.iastore, 1) := by decide +kernel
theorem dX6_limitOf_27 : decode cX6_limitOf 27 = .ok (.iconst 0, 1) := by decide +kernel
theorem dX6_limitOf_28 : decode cX6_limitOf 28 = .ok (.istore_n 2, 1) := by decide +kernel
theorem dX6_limitOf_29 : decode cX6_limitOf 29 = .ok (.iload_n 2, 1) := by decide +kernel
theorem dX6_limitOf_30 : decode cX6_limitOf 30 = .ok (.iconst 2, 1) := by decide +kernel
theorem dX6_limitOf_31 : decode cX6_limitOf 31 = .ok (.if_icmp .ge 41, 3) := by decide +kernel
theorem dX6_limitOf_34 : decode cX6_limitOf 34 = .ok (.aload_n 0, 1) := by decide +kernel
theorem dX6_limitOf_35 : decode cX6_limitOf 35 = .ok (.getfield 110, 3) := by decide +kernel
theorem dX6_limitOf_38 : decode cX6_limitOf 38 = .ok (.iconst 2, 1) := by decide +kernel
theorem dX6_limitOf_39 : decode cX6_limitOf 39 = .ok (.iload_n 1, 1) := by decide +kernel
theorem dX6_limitOf_40 : decode cX6_limitOf 40 = .ok (.imul, 1) := by decide +kernel
theorem dX6_limitOf_41 : decode cX6_limitOf 41 = .ok (.iload_n 2, 1) := by decide +kernel
theorem dX6_limitOf_42 : decode cX6_limitOf 42 = .ok (.iadd, 1) := by decide +kernel
theorem dX6_limitOf_43 : decode cX6_limitOf 43 = .ok (.aload_n 0, 1) := by decide +kernel
theorem dX6_limitOf_44 : decode cX6_limitOf 44 = .ok (.getfield 98, 3) := by decide +kernel
theorem dX6_limitOf_47 : decode cX6_limitOf 47 = .ok (.iload_n 2, 1) := by decide +kernel
theorem dX6_limitOf_48 : decode cX6_limitOf 48 = .ok (.laload, 1) := by decide +kernel
theorem dX6_limitOf_49 : decode cX6_limitOf 49 = .ok (.lastore, 1) := by decide +kernel
theorem dX6_limitOf_50 : decode cX6_limitOf 50 = .ok (.aload_n 0, 1) := by decide +kernel
theorem dX6_limitOf_51 : decode cX6_limitOf 51 = .ok (.getfield 113, 3) := by decide +kernel
theorem dX6_limitOf_54 : decode cX6_limitOf 54 = .ok (.iconst 2, 1) := by decide +kernel
theorem dX6_limitOf_55 : decode cX6_limitOf 55 = .ok (.iload_n 1, 1) := by decide +kernel
theorem dX6_limitOf_56 : decode cX6_limitOf 56 = .ok (.imul, 1) := by decide +kernel
theorem dX6_limitOf_57 : decode cX6_limitOf 57 = .ok (.iload_n 2, 1) := by decide +kernel
theorem dX6_limitOf_58 : decode cX6_limitOf 58 = .ok (.iadd, 1) := by decide +kernel
theorem dX6_limitOf_59 : decode cX6_limitOf 59 = .ok (.aload_n 0, 1) := by decide +kernel
theorem dX6_limitOf_60 : decode cX6_limitOf 60 = .ok (.getfield 101, 3) := by decide +kernel
theorem dX6_limitOf_63 : decode cX6_limitOf 63 = .ok (.iload_n 2, 1) := by decide +kernel
theorem dX6_limitOf_64 : decode cX6_limitOf 64 = .ok (.laload, 1) := by decide +kernel
theorem dX6_limitOf_65 : decode cX6_limitOf 65 = .ok (.lastore, 1) := by decide +kernel
theorem dX6_limitOf_66 : decode cX6_limitOf 66 = .ok (.iinc 2 1, 3) := by decide +kernel
theorem dX6_limitOf_69 : decode cX6_limitOf 69 = .ok (.goto (-40), 3) := by decide +kernel
theorem dX6_limitOf_72 : decode cX6_limitOf 72 = .ok (.aload_n 0, 1) := by decide +kernel
theorem dX6_limitOf_73 : decode cX6_limitOf 73 = .ok (.getfield 107, 3) := by decide +kernel
theorem dX6_limitOf_76 : decode cX6_limitOf 76 = .ok (.iload_n 1, 1) := by decide +kernel
theorem dX6_limitOf_77 : decode cX6_limitOf 77 = .ok (.iaload, 1) := by decide +kernel
theorem dX6_limitOf_78 : decode cX6_limitOf 78 = .ok (.ireturn, 1) := by decide +kernel
abbrev rm_X6_limitOf : Room := { frames := 4, cells := 0, slots := 0, locals := 156 }
noncomputable def f_X6_limitOf_b72 (N : Nat) (x1 : Int32) (σ : ZS) : Option (Int32 × ZS) := ck (inb x1 3) (some (gI σ 1097 (x1.toNatClampNeg), σ))
noncomputable def f_X6_limitOf_h29 (N : Nat) (x1 : Int32) : Nat → Int32 → ZS → Option (Int32 × ZS)
  | 0, _, _ => none
  | n + 1, x2, σ => (if (2 : Int32) ≤ x2 then f_X6_limitOf_b72 N x1 σ else ck (inb x2 2) (bd (gJ σ 1094 (x2.toNatClampNeg)) fun v12 => ck (inb (((2 : Int32) * x1) + x2) 6) (bd (sJ σ 1098 ((((2 : Int32) * x1) + x2).toNatClampNeg) v12) fun σ14 => ck (inb x2 2) (bd (gJ σ14 1095 (x2.toNatClampNeg)) fun v16 => ck (inb (((2 : Int32) * x1) + x2) 6) (bd (sJ σ14 1099 ((((2 : Int32) * x1) + x2).toNatClampNeg) v16) fun σ18 => bd (x2 + (1 : Int32)) fun v19 => f_X6_limitOf_h29 N x1 n v19 σ18)))))
noncomputable def f_X6_limitOf (N : Nat) (x1 : Int32) (σ : ZS) : Option (Int32 × ZS) := ck (inb x1 3) ((if (gI σ 1096 (x1.toNatClampNeg)) = 0 then ck (inb x1 3) (bd (sI σ 1096 (x1.toNatClampNeg) (1 : Int32)) fun σ5 => obd (f_X6_lookFor N x1 σ5) fun v6 σ7 => ck (inb x1 3) (bd (sI σ7 1097 (x1.toNatClampNeg) v6) fun σ9 => f_X6_limitOf_h29 N x1 N (0 : Int32) σ9)) else f_X6_limitOf_b72 N x1 σ))
set_option maxHeartbeats 4000000 in
set_option maxRecDepth 100000 in
theorem k_X6_limitOf_b72 {l : Launch} {Y : ZY} {G : ZG} {r : Int32} {σ' : ZS} (h : zOk (l, rm_X6_limitOf, 3, 0, 0) Y G cX6_limitOf RX6 (some .int)) (hq : zRet (l, rm_X6_limitOf, 3, 0, 0) Y G (some (.int r)) σ') (N : Nat) (x1 : Int32) (σ : ZS) (hf : f_X6_limitOf_b72 N x1 σ = some (r, σ')) : Z (l, rm_X6_limitOf, 3, 0, 0) Y G σ [(0, .ref (G.1 1067)), (1, .int x1)] [] 72 := by
  rw [f_X6_limitOf_b72] at hf
  refine z_aload_n h dX6_limitOf_72 rfl 0 rfl ?_
  refine z_gfR h zC6 (d := 1097) (c := 1067) tg_1067 ln_1067 44 rfl ft_6_44 rf_1067_44 wd_120 dX6_limitOf_73 ?_
  refine z_iload_n h dX6_limitOf_76 rfl 1 rfl ?_
  obtain ⟨g3, hf⟩ := ck_out hf
  refine z_iald h (c := 1097) tg_1097 ln_1097 g3 dX6_limitOf_77 ?_
  exact z_iret h (rt_I hf hq) dX6_limitOf_78
set_option maxHeartbeats 4000000 in
set_option maxRecDepth 100000 in
theorem k_X6_limitOf_h29 {l : Launch} {Y : ZY} {G : ZG} {r : Int32} {σ' : ZS} (h : zOk (l, rm_X6_limitOf, 3, 0, 0) Y G cX6_limitOf RX6 (some .int)) (hq : zRet (l, rm_X6_limitOf, 3, 0, 0) Y G (some (.int r)) σ') (N : Nat) (x1 : Int32) : ∀ (n : Nat) (x2 : Int32) (σ : ZS), f_X6_limitOf_h29 N x1 n x2 σ = some (r, σ') → Z (l, rm_X6_limitOf, 3, 0, 0) Y G σ [(0, .ref (G.1 1067)), (1, .int x1), (2, .int x2)] [] 29 := by
  intro n
  induction n with
  | zero =>
    intro x2 σ hf
    rw [f_X6_limitOf_h29] at hf
    cases hf
  | succ n ih =>
    intro x2 σ hf
    rw [f_X6_limitOf_h29] at hf
    refine z_iload_n h dX6_limitOf_29 rfl 2 rfl ?_
    refine z_iconst h (v := (2 : Int32)) dX6_limitOf_30 ic_2 ?_
    refine z_icmp_ge h (tgt := 72) dX6_limitOf_31 (by decide) (fun g10 => ?_) (fun g10 => ?_)
    · have hf := it_pos g10 hf
      exact z_sub [0, 1] rfl (k_X6_limitOf_b72 h hq N x1 _ hf)
    · have hf := it_neg g10 hf
      refine z_aload_n h dX6_limitOf_34 rfl 0 rfl ?_
      refine z_gfR h zC6 (d := 1098) (c := 1067) tg_1067 ln_1067 45 rfl ft_6_45 rf_1067_45 wd_121 dX6_limitOf_35 ?_
      refine z_iconst h (v := (2 : Int32)) dX6_limitOf_38 ic_2 ?_
      refine z_iload_n h dX6_limitOf_39 rfl 1 rfl ?_
      refine z_imul h dX6_limitOf_40 ?_
      refine z_iload_n h dX6_limitOf_41 rfl 2 rfl ?_
      refine z_iadd h dX6_limitOf_42 ?_
      refine z_aload_n h dX6_limitOf_43 rfl 0 rfl ?_
      refine z_gfR h zC6 (d := 1094) (c := 1067) tg_1067 ln_1067 41 rfl ft_6_41 rf_1067_41 wd_117 dX6_limitOf_44 ?_
      refine z_iload_n h dX6_limitOf_47 rfl 2 rfl ?_
      obtain ⟨g11, hf⟩ := ck_out hf
      refine z_lald h (c := 1094) tg_1094 ln_1094 g11 dX6_limitOf_48 ?_
      refine z_topJ (fun v12 ev12 => ?_)
      have hf := bd_to ev12 hf
      obtain ⟨g13, hf⟩ := ck_out hf
      refine z_last h (c := 1098) tg_1098 ln_1098 g13 dX6_limitOf_49 ?_
      refine z_gen (fun σ14 eσ14 => ?_)
      have hf := bd_to eσ14 hf
      refine z_aload_n h dX6_limitOf_50 rfl 0 rfl ?_
      refine z_gfR h zC6 (d := 1099) (c := 1067) tg_1067 ln_1067 46 rfl ft_6_46 rf_1067_46 wd_122 dX6_limitOf_51 ?_
      refine z_iconst h (v := (2 : Int32)) dX6_limitOf_54 ic_2 ?_
      refine z_iload_n h dX6_limitOf_55 rfl 1 rfl ?_
      refine z_imul h dX6_limitOf_56 ?_
      refine z_iload_n h dX6_limitOf_57 rfl 2 rfl ?_
      refine z_iadd h dX6_limitOf_58 ?_
      refine z_aload_n h dX6_limitOf_59 rfl 0 rfl ?_
      refine z_gfR h zC6 (d := 1095) (c := 1067) tg_1067 ln_1067 42 rfl ft_6_42 rf_1067_42 wd_118 dX6_limitOf_60 ?_
      refine z_iload_n h dX6_limitOf_63 rfl 2 rfl ?_
      obtain ⟨g15, hf⟩ := ck_out hf
      refine z_lald h (c := 1095) tg_1095 ln_1095 g15 dX6_limitOf_64 ?_
      refine z_topJ (fun v16 ev16 => ?_)
      have hf := bd_to ev16 hf
      obtain ⟨g17, hf⟩ := ck_out hf
      refine z_last h (c := 1099) tg_1099 ln_1099 g17 dX6_limitOf_65 ?_
      refine z_gen (fun σ18 eσ18 => ?_)
      have hf := bd_to eσ18 hf
      obtain ⟨v19, ev19, hf⟩ := bd_ex hf
      refine z_iinc h (v := v19) (lv' := [(2, .int v19), (0, .ref (G.1 1067)), (1, .int x1)]) dX6_limitOf_66 2 rfl (by rw [ev19]; rfl) rfl rfl ?_
      refine z_goto h (tgt := 29) dX6_limitOf_69 (by decide) ?_
      exact z_sub [1, 2, 0] rfl (ih _ _ hf)
set_option maxHeartbeats 4000000 in
set_option maxRecDepth 100000 in
theorem c_X6_limitOf (l : Launch) (G : ZG) {N : Nat} {x1 : Int32} {σ σ' : ZS} {r : Int32} (hf : f_X6_limitOf N x1 σ = some (r, σ')) : zMet l G yX6_limitOf cX6_limitOf 3 (some .int) rm_X6_limitOf [.ref (G.1 1067), .int x1] σ (some (.int r)) σ' := by
  refine z_met (by decide +kernel) rfl (fun Y h hq => ?_)
  have h : zOk (l, rm_X6_limitOf, 3, 0, 0) Y G cX6_limitOf RX6 (some .int) := h
  rw [f_X6_limitOf] at hf
  refine z_sub (lv' := [(0, .ref (G.1 1067)), (1, .int x1)]) [0, 1] rfl ?_
  refine z_aload_n h dX6_limitOf_0 rfl 0 rfl ?_
  refine z_gfR h zC6 (d := 1096) (c := 1067) tg_1067 ln_1067 43 rfl ft_6_43 rf_1067_43 wd_119 dX6_limitOf_1 ?_
  refine z_iload_n h dX6_limitOf_4 rfl 1 rfl ?_
  obtain ⟨g1, hf⟩ := ck_out hf
  refine z_zald h (c := 1096) tg_1096 ln_1096 g1 dX6_limitOf_5 ?_
  refine z_if_ne h (tgt := 72) dX6_limitOf_6 (by decide) (fun g2 => ?_) (fun g2 => ?_)
  · have hf := it_neg g2 hf
    exact z_sub [0, 1] rfl (k_X6_limitOf_b72 h hq N x1 _ hf)
  · have hf := it_pos g2 hf
    refine z_aload_n h dX6_limitOf_9 rfl 0 rfl ?_
    refine z_gfR h zC6 (d := 1096) (c := 1067) tg_1067 ln_1067 43 rfl ft_6_43 rf_1067_43 wd_119 dX6_limitOf_10 ?_
    refine z_iload_n h dX6_limitOf_13 rfl 1 rfl ?_
    refine z_iconst h (v := (1 : Int32)) dX6_limitOf_14 ic_1 ?_
    obtain ⟨g4, hf⟩ := ck_out hf
    refine z_zast h (c := 1096) tg_1096 ln_1096 g4 rfl dX6_limitOf_15 ?_
    refine z_gen (fun σ5 eσ5 => ?_)
    have hf := bd_to eσ5 hf
    refine z_aload_n h dX6_limitOf_16 rfl 0 rfl ?_
    refine z_gfR h zC6 (d := 1097) (c := 1067) tg_1067 ln_1067 44 rfl ft_6_44 rf_1067_44 wd_120 dX6_limitOf_17 ?_
    refine z_iload_n h dX6_limitOf_20 rfl 1 rfl ?_
    refine z_aload_n h dX6_limitOf_21 rfl 0 rfl ?_
    refine z_iload_n h dX6_limitOf_22 rfl 1 rfl ?_
    obtain ⟨v6, σ7, e7, hf⟩ := obd_out hf
    refine z_cVv h (n := 1) (c_X6_lookFor l G e7) zC6 tg_1067 ln_1067 rfl rfl wd_621 wd_622 wd_623 wd_5 wd_624 (by decide +kernel) ⟨rfl, rfl⟩ rfl rfl rfl dX6_limitOf_23 ⟨Nat.zero_le _, Nat.zero_le _⟩ ?_
    obtain ⟨g8, hf⟩ := ck_out hf
    refine z_iast h (c := 1097) tg_1097 ln_1097 g8 dX6_limitOf_26 ?_
    refine z_gen (fun σ9 eσ9 => ?_)
    have hf := bd_to eσ9 hf
    refine z_iconst h (v := (0 : Int32)) dX6_limitOf_27 ic_0 ?_
    refine z_istore_n h dX6_limitOf_28 rfl (lv' := [(2, .int (0 : Int32)), (0, .ref (G.1 1067)), (1, .int x1)]) rfl rfl ?_
    exact z_sub [1, 2, 0] rfl (k_X6_limitOf_h29 h hq N x1 _ _ _ hf)
theorem dX6_refusal_0 : decode cX6_refusal 0 = .ok (.aload_n 0, 1) := by decide +kernel
theorem dX6_refusal_1 : decode cX6_refusal 1 = .ok (.invokevirtual 307, 3) := by decide +kernel
theorem dX6_refusal_4 : decode cX6_refusal 4 = .ok (.ifCond .eq 8, 3) := by decide +kernel
theorem dX6_refusal_7 : decode cX6_refusal 7 = .ok (.bipush (-3), 2) := by decide +kernel
theorem dX6_refusal_9 : decode cX6_refusal 9 = .ok (.goto 17, 3) := by decide +kernel
theorem dX6_refusal_12 : decode cX6_refusal 12 = .ok (.aload_n 0, 1) := by decide +kernel
theorem dX6_refusal_13 : decode cX6_refusal 13 = .ok (.iload_n 1, 1) := by decide +kernel
theorem dX6_refusal_14 : decode cX6_refusal 14 = .ok (.invokevirtual 310, 3) := by decide +kernel
theorem dX6_refusal_17 : decode cX6_refusal 17 = .ok (.ifCond .eq 8, 3) := by decide +kernel
theorem dX6_refusal_20 : decode cX6_refusal 20 = .ok (.bipush (-5), 2) := by decide +kernel
theorem dX6_refusal_22 : decode cX6_refusal 22 = .ok (.goto 4, 3) := by decide +kernel
theorem dX6_refusal_25 : decode cX6_refusal 25 = .ok (.iconst 0, 1) := by decide +kernel
theorem dX6_refusal_26 : decode cX6_refusal 26 = .ok (.ireturn, 1) := by decide +kernel
abbrev rm_X6_refusal : Room := { frames := 5, cells := 0, slots := 0, locals := 186 }
noncomputable def f_X6_refusal (N : Nat) (x1 : Int32) (σ : ZS) : Option (Int32 × ZS) := obd (f_X6_isLoose N σ) fun v1 σ2 => (if v1 = 0 then obd (f_X6_limitOf N x1 σ2) fun v4 σ5 => (if v4 = 0 then some ((0 : Int32), σ5) else some ((-5 : Int32), σ5)) else some ((-3 : Int32), σ2))
set_option maxHeartbeats 4000000 in
set_option maxRecDepth 100000 in
theorem c_X6_refusal (l : Launch) (G : ZG) {N : Nat} {x1 : Int32} {σ σ' : ZS} {r : Int32} (hf : f_X6_refusal N x1 σ = some (r, σ')) : zMet l G yX6_refusal cX6_refusal 2 (some .int) rm_X6_refusal [.ref (G.1 1067), .int x1] σ (some (.int r)) σ' := by
  refine z_met (by decide +kernel) rfl (fun Y h hq => ?_)
  have h : zOk (l, rm_X6_refusal, 2, 0, 0) Y G cX6_refusal RX6 (some .int) := h
  rw [f_X6_refusal] at hf
  refine z_sub (lv' := [(0, .ref (G.1 1067)), (1, .int x1)]) [0, 1] rfl ?_
  refine z_aload_n h dX6_refusal_0 rfl 0 rfl ?_
  obtain ⟨v1, σ2, e2, hf⟩ := obd_out hf
  refine z_cVv h (n := 0) (c_X6_isLoose l G e2) zC6 tg_1067 ln_1067 rfl rfl wd_426 wd_427 wd_428 wd_5 wd_429 (by decide +kernel) ⟨rfl, rfl⟩ rfl rfl rfl dX6_refusal_1 ⟨Nat.zero_le _, Nat.zero_le _⟩ ?_
  refine z_if_eq h (tgt := 12) dX6_refusal_4 (by decide) (fun g3 => ?_) (fun g3 => ?_)
  · have hf := it_pos g3 hf
    refine z_aload_n h dX6_refusal_12 rfl 0 rfl ?_
    refine z_iload_n h dX6_refusal_13 rfl 1 rfl ?_
    obtain ⟨v4, σ5, e5, hf⟩ := obd_out hf
    refine z_cVv h (n := 1) (c_X6_limitOf l G e5) zC6 tg_1067 ln_1067 rfl rfl wd_617 wd_618 wd_619 wd_5 wd_620 (by decide +kernel) ⟨rfl, rfl⟩ rfl rfl rfl dX6_refusal_14 ⟨Nat.zero_le _, Nat.zero_le _⟩ ?_
    refine z_if_eq h (tgt := 25) dX6_refusal_17 (by decide) (fun g6 => ?_) (fun g6 => ?_)
    · have hf := it_pos g6 hf
      refine z_iconst h (v := (0 : Int32)) dX6_refusal_25 ic_0 ?_
      exact z_iret h (rt_I hf hq) dX6_refusal_26
    · have hf := it_neg g6 hf
      refine z_bipush h (v := (-5 : Int32)) dX6_refusal_20 bp_m5 ?_
      refine z_goto h (tgt := 26) dX6_refusal_22 (by decide) ?_
      exact z_iret h (rt_I hf hq) dX6_refusal_26
  · have hf := it_neg g3 hf
    refine z_bipush h (v := (-3 : Int32)) dX6_refusal_7 bp_m3 ?_
    refine z_goto h (tgt := 26) dX6_refusal_9 (by decide) ?_
    exact z_iret h (rt_I hf hq) dX6_refusal_26
theorem dX6_restful_0 : decode cX6_restful 0 = .ok (.iconst 0, 1) := by decide +kernel
theorem dX6_restful_1 : decode cX6_restful 1 = .ok (.istore_n 1, 1) := by decide +kernel
theorem dX6_restful_2 : decode cX6_restful 2 = .ok (.iconst 0, 1) := by decide +kernel
theorem dX6_restful_3 : decode cX6_restful 3 = .ok (.istore_n 2, 1) := by decide +kernel
theorem dX6_restful_4 : decode cX6_restful 4 = .ok (.iload_n 2, 1) := by decide +kernel
theorem dX6_restful_5 : decode cX6_restful 5 = .ok (.aload_n 0, 1) := by decide +kernel
theorem dX6_restful_6 : decode cX6_restful 6 = .ok (.getfield 134, 3) := by decide +kernel
theorem dX6_restful_9 : decode cX6_restful 9 = .ok (.if_icmp .ge 56, 3) := by decide +kernel
theorem dX6_restful_12 : decode cX6_restful 12 = .ok (.iload_n 1, 1) := by decide +kernel
theorem dX6_restful_13 : decode cX6_restful 13 = .ok (.aload_n 0, 1) := by decide +kernel
theorem dX6_restful_14 : decode cX6_restful 14 = .ok (.iload_n 2, 1) := by decide +kernel
theorem dX6_restful_15 : decode cX6_restful 15 = .ok (.iconst 0, 1) := by decide +kernel
theorem dX6_restful_16 : decode cX6_restful 16 = .ok (.invokevirtual 168, 3) := by decide +kernel
theorem dX6_restful_19 : decode cX6_restful 19 = .ok (.ifCond .eq 7, 3) := by decide +kernel
theorem dX6_restful_22 : decode cX6_restful 22 = .ok (.iconst 0, 1) := by decide +kernel
theorem dX6_restful_23 : decode cX6_restful 23 = .ok (.goto 4, 3) := by decide +kernel
theorem dX6_restful_26 : decode cX6_restful 26 = .ok (.iconst 1, 1) := by decide +kernel
theorem dX6_restful_27 : decode cX6_restful 27 = .ok (.aload_n 0, 1) := by decide +kernel
theorem dX6_restful_28 : decode cX6_restful 28 = .ok (.iload_n 2, 1) := by decide +kernel
theorem dX6_restful_29 : decode cX6_restful 29 = .ok (.iconst 1, 1) := by decide +kernel
theorem dX6_restful_30 : decode cX6_restful 30 = .ok (.invokevirtual 168, 3) := by decide +kernel
theorem dX6_restful_33 : decode cX6_restful 33 = .ok (.ifCond .eq 7, 3) := by decide +kernel
theorem dX6_restful_36 : decode cX6_restful 36 = .ok (.iconst 0, 1) := by decide +kernel
theorem dX6_restful_37 : decode cX6_restful 37 = .ok (.goto 4, 3) := by decide +kernel
theorem dX6_restful_40 : decode cX6_restful 40 = .ok (.iconst 1, 1) := by decide +kernel
theorem dX6_restful_41 : decode cX6_restful 41 = .ok (.iadd, 1) := by decide +kernel
theorem dX6_restful_42 : decode cX6_restful 42 = .ok (.aload_n 0, 1) := by decide +kernel
theorem dX6_restful_43 : decode cX6_restful 43 = .ok (.iload_n 2, 1) := by decide +kernel
theorem dX6_restful_44 : decode cX6_restful 44 = .ok (.iconst 2, 1) := by decide +kernel
theorem dX6_restful_45 : decode cX6_restful 45 = .ok (.invokevirtual 168, 3) := by decide +kernel
theorem dX6_restful_48 : decode cX6_restful 48 = .ok (.ifCond .eq 7, 3) := by decide +kernel
theorem dX6_restful_51 : decode cX6_restful 51 = .ok (.iconst 0, 1) := by decide +kernel
theorem dX6_restful_52 : decode cX6_restful 52 = .ok (.goto 4, 3) := by decide +kernel
theorem dX6_restful_55 : decode cX6_restful 55 = .ok (.iconst 1, 1) := by decide +kernel
theorem dX6_restful_56 : decode cX6_restful 56 = .ok (.iadd, 1) := by decide +kernel
theorem dX6_restful_57 : decode cX6_restful 57 = .ok (.iadd, 1) := by decide +kernel
theorem dX6_restful_58 : decode cX6_restful 58 = .ok (.istore_n 1, 1) := by decide +kernel
theorem dX6_restful_59 : decode cX6_restful 59 = .ok (.iinc 2 1, 3) := by decide +kernel
theorem dX6_restful_62 : decode cX6_restful 62 = .ok (.goto (-58), 3) := by decide +kernel
theorem dX6_restful_65 : decode cX6_restful 65 = .ok (.iconst 3, 1) := by decide +kernel
theorem dX6_restful_66 : decode cX6_restful 66 = .ok (.aload_n 0, 1) := by decide +kernel
theorem dX6_restful_67 : decode cX6_restful 67 = .ok (.getfield 141, 3) := by decide +kernel
theorem dX6_restful_70 : decode cX6_restful 70 = .ok (.imul, 1) := by decide +kernel
theorem dX6_restful_71 : decode cX6_restful 71 = .ok (.iload_n 1, 1) := by decide +kernel
theorem dX6_restful_72 : decode cX6_restful 72 = .ok (.aload_n 0, 1) := by decide +kernel
theorem dX6_restful_73 : decode cX6_restful 73 = .ok (.getfield 165, 3) := by decide +kernel
theorem dX6_restful_76 : decode cX6_restful 76 = .ok (.aload_n 0, 1) := by decide +kernel
theorem dX6_restful_77 : decode cX6_restful 77 = .ok (.getfield 183, 3) := by decide +kernel
theorem dX6_restful_80 : decode cX6_restful 80 = .ok (.isub, 1) := by decide +kernel
theorem dX6_restful_81 : decode cX6_restful 81 = .ok (.isub, 1) := by decide +kernel
theorem dX6_restful_82 : decode cX6_restful 82 = .ok (.isub, 1) := by decide +kernel
theorem dX6_restful_83 : decode cX6_restful 83 = .ok (.ireturn, 1) := by decide +kernel
abbrev rm_X6_restful : Room := { frames := 1, cells := 0, slots := 0, locals := 30 }
noncomputable def f_X6_restful_b56 (N : Nat) (kb4 : Int32 → Int32 → ZS → Option (Int32 × ZS)) (x2 : Int32) (s0 : Int32) (s1 : Int32) (s2 : Int32) (σ : ZS) : Option (Int32 × ZS) := bd (s0 + (s1 + s2)) fun v11 => bd (x2 + (1 : Int32)) fun v12 => kb4 v11 v12 σ
noncomputable def f_X6_restful_b41 (N : Nat) (kb4 : Int32 → Int32 → ZS → Option (Int32 × ZS)) (x2 : Int32) (s0 : Int32) (s1 : Int32) (s2 : Int32) (σ : ZS) : Option (Int32 × ZS) := obd (f_X6_isHeld N x2 (2 : Int32) σ) fun v8 σ9 => (if v8 = 0 then f_X6_restful_b56 N kb4 x2 s0 (s1 + s2) (1 : Int32) σ9 else f_X6_restful_b56 N kb4 x2 s0 (s1 + s2) (0 : Int32) σ9)
noncomputable def f_X6_restful_b27 (N : Nat) (kb4 : Int32 → Int32 → ZS → Option (Int32 × ZS)) (x2 : Int32) (s0 : Int32) (s1 : Int32) (σ : ZS) : Option (Int32 × ZS) := obd (f_X6_isHeld N x2 (1 : Int32) σ) fun v5 σ6 => (if v5 = 0 then f_X6_restful_b41 N kb4 x2 s0 s1 (1 : Int32) σ6 else f_X6_restful_b41 N kb4 x2 s0 s1 (0 : Int32) σ6)
noncomputable def f_X6_restful_h4 (N : Nat) : Nat → Int32 → Int32 → ZS → Option (Int32 × ZS)
  | 0, _, _, _ => none
  | n + 1, x1, x2, σ => (if (gI σ 1067 0) ≤ x2 then some (((3 : Int32) * (gI σ 1067 4)) - (x1 - ((gI σ 1067 10) - (gI σ 1067 11))), σ) else obd (f_X6_isHeld N x2 (0 : Int32) σ) fun v2 σ3 => (if v2 = 0 then f_X6_restful_b27 N (fun x1_ x2_ σ_ => f_X6_restful_h4 N n x1_ x2_ σ_) x2 x1 (1 : Int32) σ3 else f_X6_restful_b27 N (fun x1_ x2_ σ_ => f_X6_restful_h4 N n x1_ x2_ σ_) x2 x1 (0 : Int32) σ3))
noncomputable def f_X6_restful (N : Nat) (σ : ZS) : Option (Int32 × ZS) := f_X6_restful_h4 N N (0 : Int32) (0 : Int32) σ
set_option maxHeartbeats 4000000 in
set_option maxRecDepth 100000 in
theorem k_X6_restful_b56 {l : Launch} {Y : ZY} {G : ZG} {r : Int32} {σ' : ZS} (h : zOk (l, rm_X6_restful, 3, 0, 0) Y G cX6_restful RX6 (some .int)) (hq : zRet (l, rm_X6_restful, 3, 0, 0) Y G (some (.int r)) σ') (N : Nat) {kb4 : Int32 → Int32 → ZS → Option (Int32 × ZS)} (x2 : Int32) (s0 : Int32) (s1 : Int32) (s2 : Int32) (hb4 : ∀ (x1_ : Int32) (x2_ : Int32) (σ_ : ZS), kb4 x1_ x2_ σ_ = some (r, σ') → Z (l, rm_X6_restful, 3, 0, 0) Y G σ_ [(0, .ref (G.1 1067)), (1, .int x1_), (2, .int x2_)] [] 4) (σ : ZS) (hf : f_X6_restful_b56 N kb4 x2 s0 s1 s2 σ = some (r, σ')) : Z (l, rm_X6_restful, 3, 0, 0) Y G σ [(0, .ref (G.1 1067)), (2, .int x2)] [.int s2, .int s1, .int s0] 56 := by
  rw [f_X6_restful_b56] at hf
  refine z_iadd h dX6_restful_56 ?_
  refine z_iadd h dX6_restful_57 ?_
  refine z_topI (fun v11 ev11 => ?_)
  have hf := bd_to ev11 hf
  refine z_istore_n h dX6_restful_58 rfl (lv' := [(1, .int v11), (0, .ref (G.1 1067)), (2, .int x2)]) rfl rfl ?_
  obtain ⟨v12, ev12, hf⟩ := bd_ex hf
  refine z_iinc h (v := v12) (lv' := [(2, .int v12), (1, .int v11), (0, .ref (G.1 1067))]) dX6_restful_59 2 rfl (by rw [ev12]; rfl) rfl rfl ?_
  refine z_goto h (tgt := 4) dX6_restful_62 (by decide) ?_
  exact z_sub [2, 1, 0] rfl (hb4 _ _ _ hf)
set_option maxHeartbeats 4000000 in
set_option maxRecDepth 100000 in
theorem k_X6_restful_b41 {l : Launch} {Y : ZY} {G : ZG} {r : Int32} {σ' : ZS} (h : zOk (l, rm_X6_restful, 3, 0, 0) Y G cX6_restful RX6 (some .int)) (hq : zRet (l, rm_X6_restful, 3, 0, 0) Y G (some (.int r)) σ') (N : Nat) {kb4 : Int32 → Int32 → ZS → Option (Int32 × ZS)} (x2 : Int32) (s0 : Int32) (s1 : Int32) (s2 : Int32) (hb4 : ∀ (x1_ : Int32) (x2_ : Int32) (σ_ : ZS), kb4 x1_ x2_ σ_ = some (r, σ') → Z (l, rm_X6_restful, 3, 0, 0) Y G σ_ [(0, .ref (G.1 1067)), (1, .int x1_), (2, .int x2_)] [] 4) (σ : ZS) (hf : f_X6_restful_b41 N kb4 x2 s0 s1 s2 σ = some (r, σ')) : Z (l, rm_X6_restful, 3, 0, 0) Y G σ [(0, .ref (G.1 1067)), (2, .int x2)] [.int s2, .int s1, .int s0] 41 := by
  rw [f_X6_restful_b41] at hf
  refine z_iadd h dX6_restful_41 ?_
  refine z_aload_n h dX6_restful_42 rfl 0 rfl ?_
  refine z_iload_n h dX6_restful_43 rfl 1 rfl ?_
  refine z_iconst h (v := (2 : Int32)) dX6_restful_44 ic_2 ?_
  obtain ⟨v8, σ9, e9, hf⟩ := obd_out hf
  refine z_cVv h (n := 2) (c_X6_isHeld l G e9) zC6 tg_1067 ln_1067 rfl rfl wd_439 wd_440 wd_441 wd_5 wd_442 (by decide +kernel) ⟨rfl, rfl⟩ rfl rfl rfl dX6_restful_45 ⟨Nat.zero_le _, Nat.zero_le _⟩ ?_
  refine z_if_eq h (tgt := 55) dX6_restful_48 (by decide) (fun g10 => ?_) (fun g10 => ?_)
  · have hf := it_pos g10 hf
    refine z_iconst h (v := (1 : Int32)) dX6_restful_55 ic_1 ?_
    exact z_sub [0, 1] rfl (k_X6_restful_b56 h hq N x2 s0 (s1 + s2) (1 : Int32) hb4 _ hf)
  · have hf := it_neg g10 hf
    refine z_iconst h (v := (0 : Int32)) dX6_restful_51 ic_0 ?_
    refine z_goto h (tgt := 56) dX6_restful_52 (by decide) ?_
    exact z_sub [0, 1] rfl (k_X6_restful_b56 h hq N x2 s0 (s1 + s2) (0 : Int32) hb4 _ hf)
set_option maxHeartbeats 4000000 in
set_option maxRecDepth 100000 in
theorem k_X6_restful_b27 {l : Launch} {Y : ZY} {G : ZG} {r : Int32} {σ' : ZS} (h : zOk (l, rm_X6_restful, 3, 0, 0) Y G cX6_restful RX6 (some .int)) (hq : zRet (l, rm_X6_restful, 3, 0, 0) Y G (some (.int r)) σ') (N : Nat) {kb4 : Int32 → Int32 → ZS → Option (Int32 × ZS)} (x2 : Int32) (s0 : Int32) (s1 : Int32) (hb4 : ∀ (x1_ : Int32) (x2_ : Int32) (σ_ : ZS), kb4 x1_ x2_ σ_ = some (r, σ') → Z (l, rm_X6_restful, 3, 0, 0) Y G σ_ [(0, .ref (G.1 1067)), (1, .int x1_), (2, .int x2_)] [] 4) (σ : ZS) (hf : f_X6_restful_b27 N kb4 x2 s0 s1 σ = some (r, σ')) : Z (l, rm_X6_restful, 3, 0, 0) Y G σ [(0, .ref (G.1 1067)), (2, .int x2)] [.int s1, .int s0] 27 := by
  rw [f_X6_restful_b27] at hf
  refine z_aload_n h dX6_restful_27 rfl 0 rfl ?_
  refine z_iload_n h dX6_restful_28 rfl 1 rfl ?_
  refine z_iconst h (v := (1 : Int32)) dX6_restful_29 ic_1 ?_
  obtain ⟨v5, σ6, e6, hf⟩ := obd_out hf
  refine z_cVv h (n := 2) (c_X6_isHeld l G e6) zC6 tg_1067 ln_1067 rfl rfl wd_439 wd_440 wd_441 wd_5 wd_442 (by decide +kernel) ⟨rfl, rfl⟩ rfl rfl rfl dX6_restful_30 ⟨Nat.zero_le _, Nat.zero_le _⟩ ?_
  refine z_if_eq h (tgt := 40) dX6_restful_33 (by decide) (fun g7 => ?_) (fun g7 => ?_)
  · have hf := it_pos g7 hf
    refine z_iconst h (v := (1 : Int32)) dX6_restful_40 ic_1 ?_
    exact z_sub [0, 1] rfl (k_X6_restful_b41 h hq N x2 s0 s1 (1 : Int32) hb4 _ hf)
  · have hf := it_neg g7 hf
    refine z_iconst h (v := (0 : Int32)) dX6_restful_36 ic_0 ?_
    refine z_goto h (tgt := 41) dX6_restful_37 (by decide) ?_
    exact z_sub [0, 1] rfl (k_X6_restful_b41 h hq N x2 s0 s1 (0 : Int32) hb4 _ hf)
set_option maxHeartbeats 4000000 in
set_option maxRecDepth 100000 in
theorem k_X6_restful_h4 {l : Launch} {Y : ZY} {G : ZG} {r : Int32} {σ' : ZS} (h : zOk (l, rm_X6_restful, 3, 0, 0) Y G cX6_restful RX6 (some .int)) (hq : zRet (l, rm_X6_restful, 3, 0, 0) Y G (some (.int r)) σ') (N : Nat) : ∀ (n : Nat) (x1 : Int32) (x2 : Int32) (σ : ZS), f_X6_restful_h4 N n x1 x2 σ = some (r, σ') → Z (l, rm_X6_restful, 3, 0, 0) Y G σ [(0, .ref (G.1 1067)), (1, .int x1), (2, .int x2)] [] 4 := by
  intro n
  induction n with
  | zero =>
    intro x1 x2 σ hf
    rw [f_X6_restful_h4] at hf
    cases hf
  | succ n ih =>
    intro x1 x2 σ hf
    rw [f_X6_restful_h4] at hf
    refine z_iload_n h dX6_restful_4 rfl 2 rfl ?_
    refine z_aload_n h dX6_restful_5 rfl 0 rfl ?_
    refine z_gfI h zC6 (c := 1067) tg_1067 ln_1067 0 rfl ft_6_0 wd_155 dX6_restful_6 ?_
    refine z_icmp_ge h (tgt := 65) dX6_restful_9 (by decide) (fun g1 => ?_) (fun g1 => ?_)
    · have hf := it_pos g1 hf
      refine z_iconst h (v := (3 : Int32)) dX6_restful_65 ic_3 ?_
      refine z_aload_n h dX6_restful_66 rfl 0 rfl ?_
      refine z_gfI h zC6 (c := 1067) tg_1067 ln_1067 4 rfl ft_6_4 wd_200 dX6_restful_67 ?_
      refine z_imul h dX6_restful_70 ?_
      refine z_iload_n h dX6_restful_71 rfl 1 rfl ?_
      refine z_aload_n h dX6_restful_72 rfl 0 rfl ?_
      refine z_gfI h zC6 (c := 1067) tg_1067 ln_1067 10 rfl ft_6_10 wd_424 dX6_restful_73 ?_
      refine z_aload_n h dX6_restful_76 rfl 0 rfl ?_
      refine z_gfI h zC6 (c := 1067) tg_1067 ln_1067 11 rfl ft_6_11 wd_430 dX6_restful_77 ?_
      refine z_isub h dX6_restful_80 ?_
      refine z_isub h dX6_restful_81 ?_
      refine z_isub h dX6_restful_82 ?_
      exact z_iret h (rt_I hf hq) dX6_restful_83
    · have hf := it_neg g1 hf
      refine z_iload_n h dX6_restful_12 rfl 1 rfl ?_
      refine z_aload_n h dX6_restful_13 rfl 0 rfl ?_
      refine z_iload_n h dX6_restful_14 rfl 2 rfl ?_
      refine z_iconst h (v := (0 : Int32)) dX6_restful_15 ic_0 ?_
      obtain ⟨v2, σ3, e3, hf⟩ := obd_out hf
      refine z_cVv h (n := 2) (c_X6_isHeld l G e3) zC6 tg_1067 ln_1067 rfl rfl wd_439 wd_440 wd_441 wd_5 wd_442 (by decide +kernel) ⟨rfl, rfl⟩ rfl rfl rfl dX6_restful_16 ⟨Nat.zero_le _, Nat.zero_le _⟩ ?_
      refine z_if_eq h (tgt := 26) dX6_restful_19 (by decide) (fun g4 => ?_) (fun g4 => ?_)
      · have hf := it_pos g4 hf
        refine z_iconst h (v := (1 : Int32)) dX6_restful_26 ic_1 ?_
        exact z_sub [0, 2] rfl (k_X6_restful_b27 h hq N x2 x1 (1 : Int32) (fun x1_ x2_ σ_ hf_ => ih x1_ x2_ σ_ hf_) _ hf)
      · have hf := it_neg g4 hf
        refine z_iconst h (v := (0 : Int32)) dX6_restful_22 ic_0 ?_
        refine z_goto h (tgt := 27) dX6_restful_23 (by decide) ?_
        exact z_sub [0, 2] rfl (k_X6_restful_b27 h hq N x2 x1 (0 : Int32) (fun x1_ x2_ σ_ hf_ => ih x1_ x2_ σ_ hf_) _ hf)
set_option maxHeartbeats 4000000 in
set_option maxRecDepth 100000 in
theorem c_X6_restful (l : Launch) (G : ZG) {N : Nat} {σ σ' : ZS} {r : Int32} (hf : f_X6_restful N σ = some (r, σ')) : zMet l G yX6_restful cX6_restful 3 (some .int) rm_X6_restful [.ref (G.1 1067)] σ (some (.int r)) σ' := by
  refine z_met (by decide +kernel) rfl (fun Y h hq => ?_)
  have h : zOk (l, rm_X6_restful, 3, 0, 0) Y G cX6_restful RX6 (some .int) := h
  rw [f_X6_restful] at hf
  refine z_sub (lv' := [(0, .ref (G.1 1067))]) [0] rfl ?_
  refine z_iconst h (v := (0 : Int32)) dX6_restful_0 ic_0 ?_
  refine z_istore_n h dX6_restful_1 rfl (lv' := [(1, .int (0 : Int32)), (0, .ref (G.1 1067))]) rfl rfl ?_
  refine z_iconst h (v := (0 : Int32)) dX6_restful_2 ic_0 ?_
  refine z_istore_n h dX6_restful_3 rfl (lv' := [(2, .int (0 : Int32)), (1, .int (0 : Int32)), (0, .ref (G.1 1067))]) rfl rfl ?_
  exact z_sub [2, 1, 0] rfl (k_X6_restful_h4 h hq N _ _ _ _ hf)
theorem dX6_count_0 : decode cX6_count 0 = .ok (.iload_n 1, 1) := by decide +kernel
theorem dX6_count_1 : decode cX6_count 1 = .ok (.iconst 0, 1) := by decide +kernel
theorem dX6_count_2 : decode cX6_count 2 = .ok (.bipush 6, 2) := by decide +kernel
theorem dX6_count_4 : decode cX6_count 4 = .ok (.invokestatic 137, 3) := by decide +kernel
theorem dX6_count_7 : decode cX6_count 7 = .ok (.ifCond .ne 6, 3) := by decide +kernel
theorem dX6_count_10 : decode cX6_count 10 = .ok (.bipush (-2), 2) := by decide +kernel
theorem dX6_count_12 : decode cX6_count 12 = .ok (.ireturn, 1) := by decide +kernel
theorem dX6_count_13 : decode cX6_count 13 = .ok (.aload_n 0, 1) := by decide +kernel
theorem dX6_count_14 : decode cX6_count 14 = .ok (.invokevirtual 307, 3) := by decide +kernel
theorem dX6_count_17 : decode cX6_count 17 = .ok (.istore_n 2, 1) := by decide +kernel
theorem dX6_count_18 : decode cX6_count 18 = .ok (.iload_n 1, 1) := by decide +kernel
theorem dX6_count_19 : decode cX6_count 19 = .ok (.tableswitch 81 0 5 #[37, 42, 47, 57, 62, 67], 37) := by decide +kernel
theorem dX6_count_56 : decode cX6_count 56 = .ok (.aload_n 0, 1) := by decide +kernel
theorem dX6_count_57 : decode cX6_count 57 = .ok (.getfield 134, 3) := by decide +kernel
theorem dX6_count_60 : decode cX6_count 60 = .ok (.ireturn, 1) := by decide +kernel
theorem dX6_count_61 : decode cX6_count 61 = .ok (.aload_n 0, 1) := by decide +kernel
theorem dX6_count_62 : decode cX6_count 62 = .ok (.getfield 141, 3) := by decide +kernel
theorem dX6_count_65 : decode cX6_count 65 = .ok (.ireturn, 1) := by decide +kernel
theorem dX6_count_66 : decode cX6_count 66 = .ok (.iload_n 2, 1) := by decide +kernel
theorem dX6_count_67 : decode cX6_count 67 = .ok (.ifCond .eq 7, 3) := by decide +kernel
theorem dX6_count_70 : decode cX6_count 70 = .ok (.iconst 1, 1) := by decide +kernel
theorem dX6_count_71 : decode cX6_count 71 = .ok (.goto 4, 3) := by decide +kernel
theorem dX6_count_74 : decode cX6_count 74 = .ok (.iconst 0, 1) := by decide +kernel
theorem dX6_count_75 : decode cX6_count 75 = .ok (.ireturn, 1) := by decide +kernel
theorem dX6_count_76 : decode cX6_count 76 = .ok (.aload_n 0, 1) := by decide +kernel
theorem dX6_count_77 : decode cX6_count 77 = .ok (.getfield 165, 3) := by decide +kernel
theorem dX6_count_80 : decode cX6_count 80 = .ok (.ireturn, 1) := by decide +kernel
theorem dX6_count_81 : decode cX6_count 81 = .ok (.aload_n 0, 1) := by decide +kernel
theorem dX6_count_82 : decode cX6_count 82 = .ok (.invokevirtual 313, 3) := by decide +kernel
theorem dX6_count_85 : decode cX6_count 85 = .ok (.ireturn, 1) := by decide +kernel
theorem dX6_count_86 : decode cX6_count 86 = .ok (.iload_n 2, 1) := by decide +kernel
theorem dX6_count_87 : decode cX6_count 87 = .ok (.ifCond .eq 8, 3) := by decide +kernel
theorem dX6_count_90 : decode cX6_count 90 = .ok (.bipush (-3), 2) := by decide +kernel
theorem dX6_count_92 : decode cX6_count 92 = .ok (.goto 7, 3) := by decide +kernel
theorem dX6_count_95 : decode cX6_count 95 = .ok (.aload_n 0, 1) := by decide +kernel
theorem dX6_count_96 : decode cX6_count 96 = .ok (.getfield 196, 3) := by decide +kernel
theorem dX6_count_99 : decode cX6_count 99 = .ok (.ireturn, 1) := by decide +kernel
theorem dX6_count_100 : decode cX6_count 100 = .ok (.aload_n 0, 1) := by decide +kernel
theorem dX6_count_101 : decode cX6_count 101 = .ok (.getfield 131, 3) := by decide +kernel
theorem dX6_count_104 : decode cX6_count 104 = .ok (.iconst 0, 1) := by decide +kernel
theorem dX6_count_105 : decode cX6_count 105 = .ok (.baload, 1) := by decide +kernel
theorem dX6_count_106 : decode cX6_count 106 = .ok (.ifCond .eq 7, 3) := by decide +kernel
theorem dX6_count_109 : decode cX6_count 109 = .ok (.iconst 1, 1) := by decide +kernel
theorem dX6_count_110 : decode cX6_count 110 = .ok (.goto 4, 3) := by decide +kernel
theorem dX6_count_113 : decode cX6_count 113 = .ok (.iconst 0, 1) := by decide +kernel
theorem dX6_count_114 : decode cX6_count 114 = .ok (.aload_n 0, 1) := by decide +kernel
theorem dX6_count_115 : decode cX6_count 115 = .ok (.getfield 131, 3) := by decide +kernel
theorem dX6_count_118 : decode cX6_count 118 = .ok (.iconst 1, 1) := by decide +kernel
theorem dX6_count_119 : decode cX6_count 119 = .ok (.baload, 1) := by decide +kernel
theorem dX6_count_120 : decode cX6_count 120 = .ok (.ifCond .eq 7, 3) := by decide +kernel
theorem dX6_count_123 : decode cX6_count 123 = .ok (.iconst 2, 1) := by decide +kernel
theorem dX6_count_124 : decode cX6_count 124 = .ok (.goto 4, 3) := by decide +kernel
theorem dX6_count_127 : decode cX6_count 127 = .ok (.iconst 0, 1) := by decide +kernel
theorem dX6_count_128 : decode cX6_count 128 = .ok (.iadd, 1) := by decide +kernel
theorem dX6_count_129 : decode cX6_count 129 = .ok (.ireturn, 1) := by decide +kernel
abbrev rm_X6_count : Room := { frames := 5, cells := 0, slots := 0, locals := 167 }
noncomputable def f_X6_count_b114 (N : Nat) (s0 : Int32) (σ : ZS) : Option (Int32 × ZS) := ck (inb (1 : Int32) 2) ((if (gI σ 1105 ((1 : Int32).toNatClampNeg)) = 0 then some (s0 + (0 : Int32), σ) else some (s0 + (2 : Int32), σ)))
noncomputable def f_X6_count (N : Nat) (x1 : Int32) (σ : ZS) : Option (Int32 × ZS) := obd (f_X6_in N x1 (0 : Int32) (6 : Int32) σ) fun v1 σ2 => (if v1 = 0 then some ((-2 : Int32), σ2) else obd (f_X6_isLoose N σ2) fun v4 σ5 => (if x1 = (0 : Int32) then some (gI σ5 1067 0, σ5) else (if x1 = (1 : Int32) then some (gI σ5 1067 4, σ5) else (if x1 = (2 : Int32) then (if v4 = 0 then some ((0 : Int32), σ5) else some ((1 : Int32), σ5)) else (if x1 = (3 : Int32) then some (gI σ5 1067 10, σ5) else (if x1 = (4 : Int32) then obd (f_X6_restful N σ5) fun v12 σ13 => some (v12, σ13) else (if x1 = (5 : Int32) then (if v4 = 0 then some (gI σ5 1067 17, σ5) else some ((-3 : Int32), σ5)) else ck (inb (0 : Int32) 2) ((if (gI σ5 1105 ((0 : Int32).toNatClampNeg)) = 0 then f_X6_count_b114 N (0 : Int32) σ5 else f_X6_count_b114 N (1 : Int32) σ5)))))))))
set_option maxHeartbeats 4000000 in
set_option maxRecDepth 100000 in
theorem k_X6_count_b114 {l : Launch} {Y : ZY} {G : ZG} {r : Int32} {σ' : ZS} (h : zOk (l, rm_X6_count, 3, 0, 0) Y G cX6_count RX6 (some .int)) (hq : zRet (l, rm_X6_count, 3, 0, 0) Y G (some (.int r)) σ') (N : Nat) (s0 : Int32) (σ : ZS) (hf : f_X6_count_b114 N s0 σ = some (r, σ')) : Z (l, rm_X6_count, 3, 0, 0) Y G σ [(0, .ref (G.1 1067))] [.int s0] 114 := by
  rw [f_X6_count_b114] at hf
  refine z_aload_n h dX6_count_114 rfl 0 rfl ?_
  refine z_gfR h zC6 (d := 1105) (c := 1067) tg_1067 ln_1067 52 rfl ft_6_52 rf_1067_52 wd_128 dX6_count_115 ?_
  refine z_iconst h (v := (1 : Int32)) dX6_count_118 ic_1 ?_
  obtain ⟨g18, hf⟩ := ck_out hf
  refine z_zald h (c := 1105) tg_1105 ln_1105 g18 dX6_count_119 ?_
  refine z_if_eq h (tgt := 127) dX6_count_120 (by decide) (fun g19 => ?_) (fun g19 => ?_)
  · have hf := it_pos g19 hf
    refine z_iconst h (v := (0 : Int32)) dX6_count_127 ic_0 ?_
    refine z_iadd h dX6_count_128 ?_
    exact z_iret h (rt_I hf hq) dX6_count_129
  · have hf := it_neg g19 hf
    refine z_iconst h (v := (2 : Int32)) dX6_count_123 ic_2 ?_
    refine z_goto h (tgt := 128) dX6_count_124 (by decide) ?_
    refine z_iadd h dX6_count_128 ?_
    exact z_iret h (rt_I hf hq) dX6_count_129
set_option maxHeartbeats 4000000 in
set_option maxRecDepth 100000 in
theorem c_X6_count (l : Launch) (G : ZG) {N : Nat} {x1 : Int32} {σ σ' : ZS} {r : Int32} (hf : f_X6_count N x1 σ = some (r, σ')) : zMet l G yX6_count cX6_count 3 (some .int) rm_X6_count [.ref (G.1 1067), .int x1] σ (some (.int r)) σ' := by
  refine z_met (by decide +kernel) rfl (fun Y h hq => ?_)
  have h : zOk (l, rm_X6_count, 3, 0, 0) Y G cX6_count RX6 (some .int) := h
  rw [f_X6_count] at hf
  refine z_sub (lv' := [(0, .ref (G.1 1067)), (1, .int x1)]) [0, 1] rfl ?_
  refine z_iload_n h dX6_count_0 rfl 1 rfl ?_
  refine z_iconst h (v := (0 : Int32)) dX6_count_1 ic_0 ?_
  refine z_bipush h (v := (6 : Int32)) dX6_count_2 bp_6 ?_
  obtain ⟨v1, σ2, e2, hf⟩ := obd_out hf
  refine z_cSv h (n := 3) (c_X6_in l G e2) rfl wd_156 wd_157 wd_5 wd_158 (by decide +kernel) ⟨rfl, rfl⟩ rfl rfl rfl dX6_count_4 ⟨Nat.zero_le _, Nat.zero_le _⟩ ?_
  refine z_if_ne h (tgt := 13) dX6_count_7 (by decide) (fun g3 => ?_) (fun g3 => ?_)
  · have hf := it_neg g3 hf
    refine z_aload_n h dX6_count_13 rfl 0 rfl ?_
    obtain ⟨v4, σ5, e5, hf⟩ := obd_out hf
    refine z_cVv h (n := 0) (c_X6_isLoose l G e5) zC6 tg_1067 ln_1067 rfl rfl wd_426 wd_427 wd_428 wd_5 wd_429 (by decide +kernel) ⟨rfl, rfl⟩ rfl rfl rfl dX6_count_14 ⟨Nat.zero_le _, Nat.zero_le _⟩ ?_
    refine z_istore_n h dX6_count_17 rfl (lv' := [(2, .int v4), (0, .ref (G.1 1067)), (1, .int x1)]) rfl rfl ?_
    refine z_iload_n h dX6_count_18 rfl 2 rfl ?_
    by_cases g6 : x1 = (0 : Int32)
    · have hf := it_pos g6 hf
      refine z_tin h (v := 0) (tgt := 56) dX6_count_19 (by rw [g6]; rfl) (by decide) (by decide) rfl (by decide) ?_
      refine z_aload_n h dX6_count_56 rfl 1 rfl ?_
      refine z_gfI h zC6 (c := 1067) tg_1067 ln_1067 0 rfl ft_6_0 wd_155 dX6_count_57 ?_
      exact z_iret h (rt_I hf hq) dX6_count_60
    have hf := it_neg g6 hf
    by_cases g7 : x1 = (1 : Int32)
    · have hf := it_pos g7 hf
      refine z_tin h (v := 1) (tgt := 61) dX6_count_19 (by rw [g7]; rfl) (by decide) (by decide) rfl (by decide) ?_
      refine z_aload_n h dX6_count_61 rfl 1 rfl ?_
      refine z_gfI h zC6 (c := 1067) tg_1067 ln_1067 4 rfl ft_6_4 wd_200 dX6_count_62 ?_
      exact z_iret h (rt_I hf hq) dX6_count_65
    have hf := it_neg g7 hf
    by_cases g8 : x1 = (2 : Int32)
    · have hf := it_pos g8 hf
      refine z_tin h (v := 2) (tgt := 66) dX6_count_19 (by rw [g8]; rfl) (by decide) (by decide) rfl (by decide) ?_
      refine z_iload_n h dX6_count_66 rfl 0 rfl ?_
      refine z_if_eq h (tgt := 74) dX6_count_67 (by decide) (fun g9 => ?_) (fun g9 => ?_)
      · have hf := it_pos g9 hf
        refine z_iconst h (v := (0 : Int32)) dX6_count_74 ic_0 ?_
        exact z_iret h (rt_I hf hq) dX6_count_75
      · have hf := it_neg g9 hf
        refine z_iconst h (v := (1 : Int32)) dX6_count_70 ic_1 ?_
        refine z_goto h (tgt := 75) dX6_count_71 (by decide) ?_
        exact z_iret h (rt_I hf hq) dX6_count_75
    have hf := it_neg g8 hf
    by_cases g10 : x1 = (3 : Int32)
    · have hf := it_pos g10 hf
      refine z_tin h (v := 3) (tgt := 76) dX6_count_19 (by rw [g10]; rfl) (by decide) (by decide) rfl (by decide) ?_
      refine z_aload_n h dX6_count_76 rfl 1 rfl ?_
      refine z_gfI h zC6 (c := 1067) tg_1067 ln_1067 10 rfl ft_6_10 wd_424 dX6_count_77 ?_
      exact z_iret h (rt_I hf hq) dX6_count_80
    have hf := it_neg g10 hf
    by_cases g11 : x1 = (4 : Int32)
    · have hf := it_pos g11 hf
      refine z_tin h (v := 4) (tgt := 81) dX6_count_19 (by rw [g11]; rfl) (by decide) (by decide) rfl (by decide) ?_
      refine z_aload_n h dX6_count_81 rfl 1 rfl ?_
      obtain ⟨v12, σ13, e13, hf⟩ := obd_out hf
      refine z_cVv h (n := 0) (c_X6_restful l G e13) zC6 tg_1067 ln_1067 rfl rfl wd_482 wd_483 wd_484 wd_5 wd_485 (by decide +kernel) ⟨rfl, rfl⟩ rfl rfl rfl dX6_count_82 ⟨Nat.zero_le _, Nat.zero_le _⟩ ?_
      exact z_iret h (rt_I hf hq) dX6_count_85
    have hf := it_neg g11 hf
    by_cases g14 : x1 = (5 : Int32)
    · have hf := it_pos g14 hf
      refine z_tin h (v := 5) (tgt := 86) dX6_count_19 (by rw [g14]; rfl) (by decide) (by decide) rfl (by decide) ?_
      refine z_iload_n h dX6_count_86 rfl 0 rfl ?_
      refine z_if_eq h (tgt := 95) dX6_count_87 (by decide) (fun g15 => ?_) (fun g15 => ?_)
      · have hf := it_pos g15 hf
        refine z_aload_n h dX6_count_95 rfl 1 rfl ?_
        refine z_gfI h zC6 (c := 1067) tg_1067 ln_1067 17 rfl ft_6_17 wd_425 dX6_count_96 ?_
        exact z_iret h (rt_I hf hq) dX6_count_99
      · have hf := it_neg g15 hf
        refine z_bipush h (v := (-3 : Int32)) dX6_count_90 bp_m3 ?_
        refine z_goto h (tgt := 99) dX6_count_92 (by decide) ?_
        exact z_iret h (rt_I hf hq) dX6_count_99
    have hf := it_neg g14 hf
    refine z_tout h (tgt := 100) dX6_count_19 (by have := lv_neT (a := 0) g6 rfl; have := lv_neT (a := 1) g7 rfl; have := lv_neT (a := 2) g8 rfl; have := lv_neT (a := 3) g10 rfl; have := lv_neT (a := 4) g11 rfl; have := lv_neT (a := 5) g14 rfl; omega) (by decide) ?_
    refine z_aload_n h dX6_count_100 rfl 1 rfl ?_
    refine z_gfR h zC6 (d := 1105) (c := 1067) tg_1067 ln_1067 52 rfl ft_6_52 rf_1067_52 wd_128 dX6_count_101 ?_
    refine z_iconst h (v := (0 : Int32)) dX6_count_104 ic_0 ?_
    obtain ⟨g16, hf⟩ := ck_out hf
    refine z_zald h (c := 1105) tg_1105 ln_1105 g16 dX6_count_105 ?_
    refine z_if_eq h (tgt := 113) dX6_count_106 (by decide) (fun g17 => ?_) (fun g17 => ?_)
    · have hf := it_pos g17 hf
      refine z_iconst h (v := (0 : Int32)) dX6_count_113 ic_0 ?_
      exact z_sub [1] rfl (k_X6_count_b114 h hq N (0 : Int32) _ hf)
    · have hf := it_neg g17 hf
      refine z_iconst h (v := (1 : Int32)) dX6_count_109 ic_1 ?_
      refine z_goto h (tgt := 114) dX6_count_110 (by decide) ?_
      exact z_sub [1] rfl (k_X6_count_b114 h hq N (1 : Int32) _ hf)
  · have hf := it_pos g3 hf
    refine z_bipush h (v := (-2 : Int32)) dX6_count_10 bp_m2 ?_
    exact z_iret h (rt_I hf hq) dX6_count_12
theorem dX6_mechanism_0 : decode cX6_mechanism 0 = .ok (.aload_n 0, 1) := by decide +kernel
theorem dX6_mechanism_1 : decode cX6_mechanism 1 = .ok (.invokevirtual 307, 3) := by decide +kernel
theorem dX6_mechanism_4 : decode cX6_mechanism 4 = .ok (.ifCond .eq 6, 3) := by decide +kernel
theorem dX6_mechanism_7 : decode cX6_mechanism 7 = .ok (.bipush (-3), 2) := by decide +kernel
theorem dX6_mechanism_9 : decode cX6_mechanism 9 = .ok (.ireturn, 1) := by decide +kernel
theorem dX6_mechanism_10 : decode cX6_mechanism 10 = .ok (.iload_n 1, 1) := by decide +kernel
theorem dX6_mechanism_11 : decode cX6_mechanism 11 = .ok (.iconst 0, 1) := by decide +kernel
theorem dX6_mechanism_12 : decode cX6_mechanism 12 = .ok (.aload_n 0, 1) := by decide +kernel
theorem dX6_mechanism_13 : decode cX6_mechanism 13 = .ok (.getfield 196, 3) := by decide +kernel
theorem dX6_mechanism_16 : decode cX6_mechanism 16 = .ok (.iconst 1, 1) := by decide +kernel
theorem dX6_mechanism_17 : decode cX6_mechanism 17 = .ok (.isub, 1) := by decide +kernel
theorem dX6_mechanism_18 : decode cX6_mechanism 18 = .ok (.invokestatic 137, 3) := by decide +kernel
theorem dX6_mechanism_21 : decode cX6_mechanism 21 = .ok (.ifCond .eq 12, 3) := by decide +kernel
theorem dX6_mechanism_24 : decode cX6_mechanism 24 = .ok (.aload_n 0, 1) := by decide +kernel
theorem dX6_mechanism_25 : decode cX6_mechanism 25 = .ok (.getfield 51, 3) := by decide +kernel
theorem dX6_mechanism_28 : decode cX6_mechanism 28 = .ok (.iload_n 1, 1) := by decide +kernel
theorem dX6_mechanism_29 : decode cX6_mechanism 29 = .ok (.iaload, 1) := by decide +kernel
theorem dX6_mechanism_30 : decode cX6_mechanism 30 = .ok (.goto 4, 3) := by decide +kernel
theorem dX6_mechanism_33 : decode cX6_mechanism 33 = .ok (.iconst (-1), 1) := by decide +kernel
theorem dX6_mechanism_34 : decode cX6_mechanism 34 = .ok (.ireturn, 1) := by decide +kernel
abbrev rm_X6_mechanism : Room := { frames := 5, cells := 0, slots := 0, locals := 167 }
noncomputable def f_X6_mechanism (N : Nat) (x1 : Int32) (σ : ZS) : Option (Int32 × ZS) := obd (f_X6_isLoose N σ) fun v1 σ2 => (if v1 = 0 then obd (f_X6_in N x1 (0 : Int32) ((gI σ2 1067 17) - (1 : Int32)) σ2) fun v4 σ5 => (if v4 = 0 then some ((-1 : Int32), σ5) else ck (inb x1 924) (some (gI σ5 1080 (x1.toNatClampNeg), σ5))) else some ((-3 : Int32), σ2))
set_option maxHeartbeats 4000000 in
set_option maxRecDepth 100000 in
theorem c_X6_mechanism (l : Launch) (G : ZG) {N : Nat} {x1 : Int32} {σ σ' : ZS} {r : Int32} (hf : f_X6_mechanism N x1 σ = some (r, σ')) : zMet l G yX6_mechanism cX6_mechanism 2 (some .int) rm_X6_mechanism [.ref (G.1 1067), .int x1] σ (some (.int r)) σ' := by
  refine z_met (by decide +kernel) rfl (fun Y h hq => ?_)
  have h : zOk (l, rm_X6_mechanism, 2, 0, 0) Y G cX6_mechanism RX6 (some .int) := h
  rw [f_X6_mechanism] at hf
  refine z_sub (lv' := [(0, .ref (G.1 1067)), (1, .int x1)]) [0, 1] rfl ?_
  refine z_aload_n h dX6_mechanism_0 rfl 0 rfl ?_
  obtain ⟨v1, σ2, e2, hf⟩ := obd_out hf
  refine z_cVv h (n := 0) (c_X6_isLoose l G e2) zC6 tg_1067 ln_1067 rfl rfl wd_426 wd_427 wd_428 wd_5 wd_429 (by decide +kernel) ⟨rfl, rfl⟩ rfl rfl rfl dX6_mechanism_1 ⟨Nat.zero_le _, Nat.zero_le _⟩ ?_
  refine z_if_eq h (tgt := 10) dX6_mechanism_4 (by decide) (fun g3 => ?_) (fun g3 => ?_)
  · have hf := it_pos g3 hf
    refine z_iload_n h dX6_mechanism_10 rfl 1 rfl ?_
    refine z_iconst h (v := (0 : Int32)) dX6_mechanism_11 ic_0 ?_
    refine z_aload_n h dX6_mechanism_12 rfl 0 rfl ?_
    refine z_gfI h zC6 (c := 1067) tg_1067 ln_1067 17 rfl ft_6_17 wd_425 dX6_mechanism_13 ?_
    refine z_iconst h (v := (1 : Int32)) dX6_mechanism_16 ic_1 ?_
    refine z_isub h dX6_mechanism_17 ?_
    obtain ⟨v4, σ5, e5, hf⟩ := obd_out hf
    refine z_cSv h (n := 3) (c_X6_in l G e5) rfl wd_156 wd_157 wd_5 wd_158 (by decide +kernel) ⟨rfl, rfl⟩ rfl rfl rfl dX6_mechanism_18 ⟨Nat.zero_le _, Nat.zero_le _⟩ ?_
    refine z_if_eq h (tgt := 33) dX6_mechanism_21 (by decide) (fun g6 => ?_) (fun g6 => ?_)
    · have hf := it_pos g6 hf
      refine z_iconst h (v := (-1 : Int32)) dX6_mechanism_33 ic_m1 ?_
      exact z_iret h (rt_I hf hq) dX6_mechanism_34
    · have hf := it_neg g6 hf
      refine z_aload_n h dX6_mechanism_24 rfl 0 rfl ?_
      refine z_gfR h zC6 (d := 1080) (c := 1067) tg_1067 ln_1067 18 rfl ft_6_18 rf_1067_18 wd_101 dX6_mechanism_25 ?_
      refine z_iload_n h dX6_mechanism_28 rfl 1 rfl ?_
      obtain ⟨g7, hf⟩ := ck_out hf
      refine z_iald h (c := 1080) tg_1080 ln_1080 g7 dX6_mechanism_29 ?_
      refine z_goto h (tgt := 34) dX6_mechanism_30 (by decide) ?_
      exact z_iret h (rt_I hf hq) dX6_mechanism_34
  · have hf := it_neg g3 hf
    refine z_bipush h (v := (-3 : Int32)) dX6_mechanism_7 bp_m3 ?_
    exact z_iret h (rt_I hf hq) dX6_mechanism_9
theorem dX6_twist_0 : decode cX6_twist 0 = .ok (.iload_n 3, 1) := by decide +kernel
theorem dX6_twist_1 : decode cX6_twist 1 = .ok (.iconst 0, 1) := by decide +kernel
theorem dX6_twist_2 : decode cX6_twist 2 = .ok (.iconst 1, 1) := by decide +kernel
theorem dX6_twist_3 : decode cX6_twist 3 = .ok (.invokestatic 137, 3) := by decide +kernel
theorem dX6_twist_6 : decode cX6_twist 6 = .ok (.ifCond .ne 7, 3) := by decide +kernel
theorem dX6_twist_9 : decode cX6_twist 9 = .ok (.ldc2_w 317, 3) := by decide +kernel
theorem dX6_twist_12 : decode cX6_twist 12 = .ok (.lreturn, 1) := by decide +kernel
theorem dX6_twist_13 : decode cX6_twist 13 = .ok (.aload_n 0, 1) := by decide +kernel
theorem dX6_twist_14 : decode cX6_twist 14 = .ok (.invokevirtual 307, 3) := by decide +kernel
theorem dX6_twist_17 : decode cX6_twist 17 = .ok (.ifCond .eq 7, 3) := by decide +kernel
theorem dX6_twist_20 : decode cX6_twist 20 = .ok (.ldc2_w 319, 3) := by decide +kernel
theorem dX6_twist_23 : decode cX6_twist 23 = .ok (.lreturn, 1) := by decide +kernel
theorem dX6_twist_24 : decode cX6_twist 24 = .ok (.iload_n 1, 1) := by decide +kernel
theorem dX6_twist_25 : decode cX6_twist 25 = .ok (.iconst 0, 1) := by decide +kernel
theorem dX6_twist_26 : decode cX6_twist 26 = .ok (.aload_n 0, 1) := by decide +kernel
theorem dX6_twist_27 : decode cX6_twist 27 = .ok (.getfield 196, 3) := by decide +kernel
theorem dX6_twist_30 : decode cX6_twist 30 = .ok (.iconst 1, 1) := by decide +kernel
theorem dX6_twist_31 : decode cX6_twist 31 = .ok (.isub, 1) := by decide +kernel
theorem dX6_twist_32 : decode cX6_twist 32 = .ok (.invokestatic 137, 3) := by decide +kernel
theorem dX6_twist_35 : decode cX6_twist 35 = .ok (.ifCond .eq 11, 3) := by decide +kernel
theorem dX6_twist_38 : decode cX6_twist 38 = .ok (.aload_n 0, 1) := by decide +kernel
theorem dX6_twist_39 : decode cX6_twist 39 = .ok (.iload_n 2, 1) := by decide +kernel
theorem dX6_twist_40 : decode cX6_twist 40 = .ok (.invokevirtual 321, 3) := by decide +kernel
theorem dX6_twist_43 : decode cX6_twist 43 = .ok (.ifCond .ne 7, 3) := by decide +kernel
theorem dX6_twist_46 : decode cX6_twist 46 = .ok (.ldc2_w 324, 3) := by decide +kernel
theorem dX6_twist_49 : decode cX6_twist 49 = .ok (.lreturn, 1) := by decide +kernel
theorem dX6_twist_50 : decode cX6_twist 50 = .ok (.aload_n 0, 1) := by decide +kernel
theorem dX6_twist_51 : decode cX6_twist 51 = .ok (.iload_n 1, 1) := by decide +kernel
theorem dX6_twist_52 : decode cX6_twist 52 = .ok (.invokevirtual 326, 3) := by decide +kernel
theorem dX6_twist_55 : decode cX6_twist 55 = .ok (.iconst 0, 1) := by decide +kernel
theorem dX6_twist_56 : decode cX6_twist 56 = .ok (.istore 4, 2) := by decide +kernel
theorem dX6_twist_58 : decode cX6_twist 58 = .ok (.iconst 2, 1) := by decide +kernel
theorem dX6_twist_59 : decode cX6_twist 59 = .ok (.aload_n 0, 1) := by decide +kernel
theorem dX6_twist_60 : decode cX6_twist 60 = .ok (.getfield 141, 3) := by decide +kernel
theorem dX6_twist_63 : decode cX6_twist 63 = .ok (.imul, 1) := by decide +kernel
theorem dX6_twist_64 : decode cX6_twist 64 = .ok (.iconst 1, 1) := by decide +kernel
theorem dX6_twist_65 : decode cX6_twist 65 = .ok (.isub, 1) := by decide +kernel
theorem dX6_twist_66 : decode cX6_twist 66 = .ok (.istore 5, 2) := by decide +kernel
theorem dX6_twist_68 : decode cX6_twist 68 = .ok (.iload 5, 2) := by decide +kernel
theorem dX6_twist_70 : decode cX6_twist 70 = .ok (.ifCond .lt 30, 3) := by decide +kernel
theorem dX6_twist_73 : decode cX6_twist 73 = .ok (.aload_n 0, 1) := by decide +kernel
theorem dX6_twist_74 : decode cX6_twist 74 = .ok (.getfield 67, 3) := by decide +kernel
theorem dX6_twist_77 : decode cX6_twist 77 = .ok (.iload 5, 2) := by decide +kernel
theorem dX6_twist_79 : decode cX6_twist 79 = .ok (.laload, 1) := by decide +kernel
theorem dX6_twist_80 : decode cX6_twist 80 = .ok (.lconst 0, 1) := by decide +kernel
theorem dX6_twist_81 : decode cX6_twist 81 = .ok (.lcmp, 1) := by decide +kernel
theorem dX6_twist_82 : decode cX6_twist 82 = .ok (.ifCond .eq 8, 3) := by decide +kernel
theorem dX6_twist_85 : decode cX6_twist 85 = .ok (.iload 5, 2) := by decide +kernel
theorem dX6_twist_87 : decode cX6_twist 87 = .ok (.goto 5, 3) := by decide +kernel
theorem dX6_twist_90 : decode cX6_twist 90 = .ok (.iload 4, 2) := by decide +kernel
theorem dX6_twist_92 : decode cX6_twist 92 = .ok (.istore 4, 2) := by decide +kernel
theorem dX6_twist_94 : decode cX6_twist 94 = .ok (.iinc 5 (-1), 3) := by decide +kernel
theorem dX6_twist_97 : decode cX6_twist 97 = .ok (.goto (-29), 3) := by decide +kernel
theorem dX6_twist_100 : decode cX6_twist 100 = .ok (.aload_n 0, 1) := by decide +kernel
theorem dX6_twist_101 : decode cX6_twist 101 = .ok (.getfield 67, 3) := by decide +kernel
theorem dX6_twist_104 : decode cX6_twist 104 = .ok (.iload 4, 2) := by decide +kernel
theorem dX6_twist_106 : decode cX6_twist 106 = .ok (.laload, 1) := by decide +kernel
theorem dX6_twist_107 : decode cX6_twist 107 = .ok (.lconst 0, 1) := by decide +kernel
theorem dX6_twist_108 : decode cX6_twist 108 = .ok (.lcmp, 1) := by decide +kernel
theorem dX6_twist_109 : decode cX6_twist 109 = .ok (.ifCond .ge 13, 3) := by decide +kernel
theorem dX6_twist_112 : decode cX6_twist 112 = .ok (.aload_n 0, 1) := by decide +kernel
theorem dX6_twist_113 : decode cX6_twist 113 = .ok (.getfield 67, 3) := by decide +kernel
theorem dX6_twist_116 : decode cX6_twist 116 = .ok (.iload_n 2, 1) := by decide +kernel
theorem dX6_twist_117 : decode cX6_twist 117 = .ok (.laload, 1) := by decide +kernel
theorem dX6_twist_118 : decode cX6_twist 118 = .ok (.lneg, 1) := by decide +kernel
theorem dX6_twist_119 : decode cX6_twist 119 = .ok (.goto 9, 3) := by decide +kernel
theorem dX6_twist_122 : decode cX6_twist 122 = .ok (.aload_n 0, 1) := by decide +kernel
theorem dX6_twist_123 : decode cX6_twist 123 = .ok (.getfield 67, 3) := by decide +kernel
theorem dX6_twist_126 : decode cX6_twist 126 = .ok (.iload_n 2, 1) := by decide +kernel
theorem dX6_twist_127 : decode cX6_twist 127 = .ok (.laload, 1) := by decide +kernel
theorem dX6_twist_128 : decode cX6_twist 128 = .ok (.lstore 5, 2) := by decide +kernel
theorem dX6_twist_130 : decode cX6_twist 130 = .ok (.aload_n 0, 1) := by decide +kernel
theorem dX6_twist_131 : decode cX6_twist 131 = .ok (.getfield 67, 3) := by decide +kernel
theorem dX6_twist_134 : decode cX6_twist 134 = .ok (.iload 4, 2) := by decide +kernel
theorem dX6_twist_136 : decode cX6_twist 136 = .ok (.laload, 1) := by decide +kernel
theorem dX6_twist_137 : decode cX6_twist 137 = .ok (.lconst 0, 1) := by decide +kernel
theorem dX6_twist_138 : decode cX6_twist 138 = .ok (.lcmp, 1) := by decide +kernel
theorem dX6_twist_139 : decode cX6_twist 139 = .ok (.ifCond .ge 14, 3) := by decide +kernel
theorem dX6_twist_142 : decode cX6_twist 142 = .ok (.aload_n 0, 1) := by decide +kernel
theorem dX6_twist_143 : decode cX6_twist 143 = .ok (.getfield 67, 3) := by decide +kernel
theorem dX6_twist_146 : decode cX6_twist 146 = .ok (.iload 4, 2) := by decide +kernel
theorem dX6_twist_148 : decode cX6_twist 148 = .ok (.laload, 1) := by decide +kernel
theorem dX6_twist_149 : decode cX6_twist 149 = .ok (.lneg, 1) := by decide +kernel
theorem dX6_twist_150 : decode cX6_twist 150 = .ok (.goto 10, 3) := by decide +kernel
theorem dX6_twist_153 : decode cX6_twist 153 = .ok (.aload_n 0, 1) := by decide +kernel
theorem dX6_twist_154 : decode cX6_twist 154 = .ok (.getfield 67, 3) := by decide +kernel
theorem dX6_twist_157 : decode cX6_twist 157 = .ok (.iload 4, 2) := by decide +kernel
theorem dX6_twist_159 : decode cX6_twist 159 = .ok (.laload, 1) := by decide +kernel
theorem dX6_twist_160 : decode cX6_twist 160 = .ok (.lstore 7, 2) := by decide +kernel
theorem dX6_twist_162 : decode cX6_twist 162 = .ok (.lload 5, 2) := by decide +kernel
theorem dX6_twist_164 : decode cX6_twist 164 = .ok (.lload 7, 2) := by decide +kernel
theorem dX6_twist_166 : decode cX6_twist 166 = .ok (.iload_n 3, 1) := by decide +kernel
theorem dX6_twist_167 : decode cX6_twist 167 = .ok (.invokestatic 300, 3) := by decide +kernel
theorem dX6_twist_170 : decode cX6_twist 170 = .ok (.lreturn, 1) := by decide +kernel
abbrev rm_X6_twist : Room := { frames := 5, cells := 0, slots := 0, locals := 167 }
noncomputable def f_X6_twist_b160 (N : Nat) (x3 : Int32) (x5 : Int64) (s0 : Int64) (σ : ZS) : Option (Int64 × ZS) := obd (f_X6_part N x5 s0 x3 σ) fun v23 σ24 => some (v23, σ24)
noncomputable def f_X6_twist_b128 (N : Nat) (x3 : Int32) (x4 : Int32) (s0 : Int64) (σ : ZS) : Option (Int64 × ZS) := ck (inb x4 12) ((if (gJ σ 1085 (x4.toNatClampNeg)) < (0 : Int64) then ck (inb x4 12) (f_X6_twist_b160 N x3 s0 (-(gJ σ 1085 (x4.toNatClampNeg))) σ) else ck (inb x4 12) (f_X6_twist_b160 N x3 s0 (gJ σ 1085 (x4.toNatClampNeg)) σ)))
noncomputable def f_X6_twist_b92 (N : Nat) (kb68 : Int32 → Int32 → ZS → Option (Int64 × ZS)) (x2 : Int32) (x3 : Int32) (x5 : Int32) (s0 : Int32) (σ : ZS) : Option (Int64 × ZS) := bd (x5 + (-1 : Int32)) fun v29 => kb68 s0 v29 σ
noncomputable def f_X6_twist_h68 (N : Nat) (x2 : Int32) (x3 : Int32) : Nat → Int32 → Int32 → ZS → Option (Int64 × ZS)
  | 0, _, _, _ => none
  | n + 1, x4, x5, σ => (if x5 < 0 then ck (inb x4 12) ((if (gJ σ 1085 (x4.toNatClampNeg)) < (0 : Int64) then ck (inb x2 12) (f_X6_twist_b128 N x3 x4 (-(gJ σ 1085 (x2.toNatClampNeg))) σ) else ck (inb x2 12) (f_X6_twist_b128 N x3 x4 (gJ σ 1085 (x2.toNatClampNeg)) σ))) else ck (inb x5 12) ((if (gJ σ 1085 (x5.toNatClampNeg)) = (0 : Int64) then f_X6_twist_b92 N (fun x4_ x5_ σ_ => f_X6_twist_h68 N x2 x3 n x4_ x5_ σ_) x2 x3 x5 x4 σ else f_X6_twist_b92 N (fun x4_ x5_ σ_ => f_X6_twist_h68 N x2 x3 n x4_ x5_ σ_) x2 x3 x5 x5 σ)))
noncomputable def f_X6_twist (N : Nat) (x1 : Int32) (x2 : Int32) (x3 : Int32) (σ : ZS) : Option (Int64 × ZS) := obd (f_X6_in N x3 (0 : Int32) (1 : Int32) σ) fun v1 σ2 => (if v1 = 0 then some ((-4000000000000000002 : Int64), σ2) else obd (f_X6_isLoose N σ2) fun v4 σ5 => (if v4 = 0 then obd (f_X6_in N x1 (0 : Int32) ((gI σ5 1067 17) - (1 : Int32)) σ5) fun v7 σ8 => (if v7 = 0 then some ((-4000000000000000001 : Int64), σ8) else obd (f_X6_isEnd N x2 σ8) fun v10 σ11 => (if v10 = 0 then some ((-4000000000000000001 : Int64), σ11) else obd (f_X6_layOne N x1 σ11) fun _ σ14 => bd (((2 : Int32) * (gI σ14 1067 4)) - (1 : Int32)) fun v15 => f_X6_twist_h68 N x2 x3 N (0 : Int32) v15 σ14)) else some ((-4000000000000000003 : Int64), σ5)))
set_option maxHeartbeats 4000000 in
set_option maxRecDepth 100000 in
theorem k_X6_twist_b160 {l : Launch} {Y : ZY} {G : ZG} {r : Int64} {σ' : ZS} (h : zOk (l, rm_X6_twist, 9, 0, 0) Y G cX6_twist RX6 (some .long)) (hq : zRet (l, rm_X6_twist, 9, 0, 0) Y G (some (.long r)) σ') (N : Nat) (x3 : Int32) (x5 : Int64) (s0 : Int64) (σ : ZS) (hf : f_X6_twist_b160 N x3 x5 s0 σ = some (r, σ')) : Z (l, rm_X6_twist, 9, 0, 0) Y G σ [(3, .int x3), (5, .long x5)] [.long s0] 160 := by
  rw [f_X6_twist_b160] at hf
  refine z_lstore h dX6_twist_160 (lv' := [(7, .long s0), (3, .int x3), (5, .long x5)]) rfl rfl ?_
  refine z_lload h dX6_twist_162 2 rfl ?_
  refine z_lload h dX6_twist_164 0 rfl ?_
  refine z_iload_n h dX6_twist_166 rfl 1 rfl ?_
  obtain ⟨v23, σ24, e24, hf⟩ := obd_out hf
  refine z_cSv h (n := 3) (c_X6_part l G e24) rfl wd_551 wd_552 wd_5 wd_553 (by decide +kernel) ⟨rfl, rfl⟩ rfl rfl rfl dX6_twist_167 ⟨Nat.zero_le _, Nat.zero_le _⟩ ?_
  exact z_lret h (rt_J hf hq) dX6_twist_170
set_option maxHeartbeats 4000000 in
set_option maxRecDepth 100000 in
theorem k_X6_twist_b128 {l : Launch} {Y : ZY} {G : ZG} {r : Int64} {σ' : ZS} (h : zOk (l, rm_X6_twist, 9, 0, 0) Y G cX6_twist RX6 (some .long)) (hq : zRet (l, rm_X6_twist, 9, 0, 0) Y G (some (.long r)) σ') (N : Nat) (x3 : Int32) (x4 : Int32) (s0 : Int64) (σ : ZS) (hf : f_X6_twist_b128 N x3 x4 s0 σ = some (r, σ')) : Z (l, rm_X6_twist, 9, 0, 0) Y G σ [(0, .ref (G.1 1067)), (3, .int x3), (4, .int x4)] [.long s0] 128 := by
  rw [f_X6_twist_b128] at hf
  refine z_lstore h dX6_twist_128 (lv' := [(5, .long s0), (0, .ref (G.1 1067)), (3, .int x3), (4, .int x4)]) rfl rfl ?_
  refine z_aload_n h dX6_twist_130 rfl 1 rfl ?_
  refine z_gfR h zC6 (d := 1085) (c := 1067) tg_1067 ln_1067 23 rfl ft_6_23 rf_1067_23 wd_107 dX6_twist_131 ?_
  refine z_iload h dX6_twist_134 3 rfl ?_
  obtain ⟨g20, hf⟩ := ck_out hf
  refine z_lald h (c := 1085) tg_1085 ln_1085 g20 dX6_twist_136 ?_
  refine z_lconst h (v := (0 : Int64)) dX6_twist_137 lc_0 ?_
  refine z_lif_ge h (tgt := 153) dX6_twist_138 dX6_twist_139 (by decide) (fun g21 => ?_) (fun g21 => ?_)
  · have hf := it_neg g21 hf
    refine z_aload_n h dX6_twist_153 rfl 1 rfl ?_
    refine z_gfR h zC6 (d := 1085) (c := 1067) tg_1067 ln_1067 23 rfl ft_6_23 rf_1067_23 wd_107 dX6_twist_154 ?_
    refine z_iload h dX6_twist_157 3 rfl ?_
    obtain ⟨g22, hf⟩ := ck_out hf
    refine z_lald h (c := 1085) tg_1085 ln_1085 g22 dX6_twist_159 ?_
    exact z_sub [2, 0] rfl (k_X6_twist_b160 h hq N x3 s0 (gJ σ 1085 (x4.toNatClampNeg)) _ hf)
  · have hf := it_pos g21 hf
    refine z_aload_n h dX6_twist_142 rfl 1 rfl ?_
    refine z_gfR h zC6 (d := 1085) (c := 1067) tg_1067 ln_1067 23 rfl ft_6_23 rf_1067_23 wd_107 dX6_twist_143 ?_
    refine z_iload h dX6_twist_146 3 rfl ?_
    obtain ⟨g25, hf⟩ := ck_out hf
    refine z_lald h (c := 1085) tg_1085 ln_1085 g25 dX6_twist_148 ?_
    refine z_lneg h dX6_twist_149 ?_
    refine z_goto h (tgt := 160) dX6_twist_150 (by decide) ?_
    exact z_sub [2, 0] rfl (k_X6_twist_b160 h hq N x3 s0 (-(gJ σ 1085 (x4.toNatClampNeg))) _ hf)
set_option maxHeartbeats 4000000 in
set_option maxRecDepth 100000 in
theorem k_X6_twist_b92 {l : Launch} {Y : ZY} {G : ZG} {r : Int64} {σ' : ZS} (h : zOk (l, rm_X6_twist, 9, 0, 0) Y G cX6_twist RX6 (some .long)) (hq : zRet (l, rm_X6_twist, 9, 0, 0) Y G (some (.long r)) σ') (N : Nat) {kb68 : Int32 → Int32 → ZS → Option (Int64 × ZS)} (x2 : Int32) (x3 : Int32) (x5 : Int32) (s0 : Int32) (hb68 : ∀ (x4_ : Int32) (x5_ : Int32) (σ_ : ZS), kb68 x4_ x5_ σ_ = some (r, σ') → Z (l, rm_X6_twist, 9, 0, 0) Y G σ_ [(0, .ref (G.1 1067)), (2, .int x2), (3, .int x3), (4, .int x4_), (5, .int x5_)] [] 68) (σ : ZS) (hf : f_X6_twist_b92 N kb68 x2 x3 x5 s0 σ = some (r, σ')) : Z (l, rm_X6_twist, 9, 0, 0) Y G σ [(0, .ref (G.1 1067)), (2, .int x2), (3, .int x3), (5, .int x5)] [.int s0] 92 := by
  rw [f_X6_twist_b92] at hf
  refine z_istore h dX6_twist_92 (lv' := [(4, .int s0), (0, .ref (G.1 1067)), (2, .int x2), (3, .int x3), (5, .int x5)]) rfl rfl ?_
  obtain ⟨v29, ev29, hf⟩ := bd_ex hf
  refine z_iinc h (v := v29) (lv' := [(5, .int v29), (4, .int s0), (0, .ref (G.1 1067)), (2, .int x2), (3, .int x3)]) dX6_twist_94 4 rfl (by rw [ev29]; rfl) rfl rfl ?_
  refine z_goto h (tgt := 68) dX6_twist_97 (by decide) ?_
  exact z_sub [2, 3, 4, 1, 0] rfl (hb68 _ _ _ hf)
set_option maxHeartbeats 4000000 in
set_option maxRecDepth 100000 in
theorem k_X6_twist_h68 {l : Launch} {Y : ZY} {G : ZG} {r : Int64} {σ' : ZS} (h : zOk (l, rm_X6_twist, 9, 0, 0) Y G cX6_twist RX6 (some .long)) (hq : zRet (l, rm_X6_twist, 9, 0, 0) Y G (some (.long r)) σ') (N : Nat) (x2 : Int32) (x3 : Int32) : ∀ (n : Nat) (x4 : Int32) (x5 : Int32) (σ : ZS), f_X6_twist_h68 N x2 x3 n x4 x5 σ = some (r, σ') → Z (l, rm_X6_twist, 9, 0, 0) Y G σ [(0, .ref (G.1 1067)), (2, .int x2), (3, .int x3), (4, .int x4), (5, .int x5)] [] 68 := by
  intro n
  induction n with
  | zero =>
    intro x4 x5 σ hf
    rw [f_X6_twist_h68] at hf
    cases hf
  | succ n ih =>
    intro x4 x5 σ hf
    rw [f_X6_twist_h68] at hf
    refine z_iload h dX6_twist_68 4 rfl ?_
    refine z_if_lt h (tgt := 100) dX6_twist_70 (by decide) (fun g16 => ?_) (fun g16 => ?_)
    · have hf := it_pos g16 hf
      refine z_aload_n h dX6_twist_100 rfl 0 rfl ?_
      refine z_gfR h zC6 (d := 1085) (c := 1067) tg_1067 ln_1067 23 rfl ft_6_23 rf_1067_23 wd_107 dX6_twist_101 ?_
      refine z_iload h dX6_twist_104 3 rfl ?_
      obtain ⟨g17, hf⟩ := ck_out hf
      refine z_lald h (c := 1085) tg_1085 ln_1085 g17 dX6_twist_106 ?_
      refine z_lconst h (v := (0 : Int64)) dX6_twist_107 lc_0 ?_
      refine z_lif_ge h (tgt := 122) dX6_twist_108 dX6_twist_109 (by decide) (fun g18 => ?_) (fun g18 => ?_)
      · have hf := it_neg g18 hf
        refine z_aload_n h dX6_twist_122 rfl 0 rfl ?_
        refine z_gfR h zC6 (d := 1085) (c := 1067) tg_1067 ln_1067 23 rfl ft_6_23 rf_1067_23 wd_107 dX6_twist_123 ?_
        refine z_iload_n h dX6_twist_126 rfl 1 rfl ?_
        obtain ⟨g19, hf⟩ := ck_out hf
        refine z_lald h (c := 1085) tg_1085 ln_1085 g19 dX6_twist_127 ?_
        exact z_sub [0, 2, 3] rfl (k_X6_twist_b128 h hq N x3 x4 (gJ σ 1085 (x2.toNatClampNeg)) _ hf)
      · have hf := it_pos g18 hf
        refine z_aload_n h dX6_twist_112 rfl 0 rfl ?_
        refine z_gfR h zC6 (d := 1085) (c := 1067) tg_1067 ln_1067 23 rfl ft_6_23 rf_1067_23 wd_107 dX6_twist_113 ?_
        refine z_iload_n h dX6_twist_116 rfl 1 rfl ?_
        obtain ⟨g26, hf⟩ := ck_out hf
        refine z_lald h (c := 1085) tg_1085 ln_1085 g26 dX6_twist_117 ?_
        refine z_lneg h dX6_twist_118 ?_
        refine z_goto h (tgt := 128) dX6_twist_119 (by decide) ?_
        exact z_sub [0, 2, 3] rfl (k_X6_twist_b128 h hq N x3 x4 (-(gJ σ 1085 (x2.toNatClampNeg))) _ hf)
    · have hf := it_neg g16 hf
      refine z_aload_n h dX6_twist_73 rfl 0 rfl ?_
      refine z_gfR h zC6 (d := 1085) (c := 1067) tg_1067 ln_1067 23 rfl ft_6_23 rf_1067_23 wd_107 dX6_twist_74 ?_
      refine z_iload h dX6_twist_77 4 rfl ?_
      obtain ⟨g27, hf⟩ := ck_out hf
      refine z_lald h (c := 1085) tg_1085 ln_1085 g27 dX6_twist_79 ?_
      refine z_lconst h (v := (0 : Int64)) dX6_twist_80 lc_0 ?_
      refine z_lif_eq h (tgt := 90) dX6_twist_81 dX6_twist_82 (by decide) (fun g28 => ?_) (fun g28 => ?_)
      · have hf := it_pos g28 hf
        refine z_iload h dX6_twist_90 3 rfl ?_
        exact z_sub [0, 1, 2, 4] rfl (k_X6_twist_b92 h hq N x2 x3 x5 x4 (fun x4_ x5_ σ_ hf_ => ih x4_ x5_ σ_ hf_) _ hf)
      · have hf := it_neg g28 hf
        refine z_iload h dX6_twist_85 4 rfl ?_
        refine z_goto h (tgt := 92) dX6_twist_87 (by decide) ?_
        exact z_sub [0, 1, 2, 4] rfl (k_X6_twist_b92 h hq N x2 x3 x5 x5 (fun x4_ x5_ σ_ hf_ => ih x4_ x5_ σ_ hf_) _ hf)
set_option maxHeartbeats 4000000 in
set_option maxRecDepth 100000 in
theorem c_X6_twist (l : Launch) (G : ZG) {N : Nat} {x1 : Int32} {x2 : Int32} {x3 : Int32} {σ σ' : ZS} {r : Int64} (hf : f_X6_twist N x1 x2 x3 σ = some (r, σ')) : zMet l G yX6_twist cX6_twist 9 (some .long) rm_X6_twist [.ref (G.1 1067), .int x1, .int x2, .int x3] σ (some (.long r)) σ' := by
  refine z_met (by decide +kernel) rfl (fun Y h hq => ?_)
  have h : zOk (l, rm_X6_twist, 9, 0, 0) Y G cX6_twist RX6 (some .long) := h
  rw [f_X6_twist] at hf
  refine z_sub (lv' := [(0, .ref (G.1 1067)), (1, .int x1), (2, .int x2), (3, .int x3)]) [0, 1, 2, 3] rfl ?_
  refine z_iload_n h dX6_twist_0 rfl 3 rfl ?_
  refine z_iconst h (v := (0 : Int32)) dX6_twist_1 ic_0 ?_
  refine z_iconst h (v := (1 : Int32)) dX6_twist_2 ic_1 ?_
  obtain ⟨v1, σ2, e2, hf⟩ := obd_out hf
  refine z_cSv h (n := 3) (c_X6_in l G e2) rfl wd_156 wd_157 wd_5 wd_158 (by decide +kernel) ⟨rfl, rfl⟩ rfl rfl rfl dX6_twist_3 ⟨Nat.zero_le _, Nat.zero_le _⟩ ?_
  refine z_if_ne h (tgt := 13) dX6_twist_6 (by decide) (fun g3 => ?_) (fun g3 => ?_)
  · have hf := it_neg g3 hf
    refine z_aload_n h dX6_twist_13 rfl 0 rfl ?_
    obtain ⟨v4, σ5, e5, hf⟩ := obd_out hf
    refine z_cVv h (n := 0) (c_X6_isLoose l G e5) zC6 tg_1067 ln_1067 rfl rfl wd_426 wd_427 wd_428 wd_5 wd_429 (by decide +kernel) ⟨rfl, rfl⟩ rfl rfl rfl dX6_twist_14 ⟨Nat.zero_le _, Nat.zero_le _⟩ ?_
    refine z_if_eq h (tgt := 24) dX6_twist_17 (by decide) (fun g6 => ?_) (fun g6 => ?_)
    · have hf := it_pos g6 hf
      refine z_iload_n h dX6_twist_24 rfl 1 rfl ?_
      refine z_iconst h (v := (0 : Int32)) dX6_twist_25 ic_0 ?_
      refine z_aload_n h dX6_twist_26 rfl 0 rfl ?_
      refine z_gfI h zC6 (c := 1067) tg_1067 ln_1067 17 rfl ft_6_17 wd_425 dX6_twist_27 ?_
      refine z_iconst h (v := (1 : Int32)) dX6_twist_30 ic_1 ?_
      refine z_isub h dX6_twist_31 ?_
      obtain ⟨v7, σ8, e8, hf⟩ := obd_out hf
      refine z_cSv h (n := 3) (c_X6_in l G e8) rfl wd_156 wd_157 wd_5 wd_158 (by decide +kernel) ⟨rfl, rfl⟩ rfl rfl rfl dX6_twist_32 ⟨Nat.zero_le _, Nat.zero_le _⟩ ?_
      refine z_if_eq h (tgt := 46) dX6_twist_35 (by decide) (fun g9 => ?_) (fun g9 => ?_)
      · have hf := it_pos g9 hf
        refine z_ldc2 h (v := (-4000000000000000001 : Int64)) wd_536 dX6_twist_46 ?_
        exact z_lret h (rt_J hf hq) dX6_twist_49
      · have hf := it_neg g9 hf
        refine z_aload_n h dX6_twist_38 rfl 0 rfl ?_
        refine z_iload_n h dX6_twist_39 rfl 2 rfl ?_
        obtain ⟨v10, σ11, e11, hf⟩ := obd_out hf
        refine z_cVv h (n := 1) (c_X6_isEnd l G e11) zC6 tg_1067 ln_1067 rfl rfl wd_537 wd_538 wd_539 wd_5 wd_540 (by decide +kernel) ⟨rfl, rfl⟩ rfl rfl rfl dX6_twist_40 ⟨Nat.zero_le _, Nat.zero_le _⟩ ?_
        refine z_if_ne h (tgt := 50) dX6_twist_43 (by decide) (fun g12 => ?_) (fun g12 => ?_)
        · have hf := it_neg g12 hf
          refine z_aload_n h dX6_twist_50 rfl 0 rfl ?_
          refine z_iload_n h dX6_twist_51 rfl 1 rfl ?_
          obtain ⟨v13, σ14, e14, hf⟩ := obd_out hf
          refine z_cV0 h (n := 1) (c_X6_layOne l G e14) zC6 tg_1067 ln_1067 rfl rfl wd_541 wd_542 wd_543 wd_5 wd_544 (by decide +kernel) ⟨rfl, rfl⟩ rfl rfl rfl dX6_twist_52 ⟨Nat.zero_le _, Nat.zero_le _⟩ ?_
          refine z_iconst h (v := (0 : Int32)) dX6_twist_55 ic_0 ?_
          refine z_istore h dX6_twist_56 (lv' := [(4, .int (0 : Int32)), (0, .ref (G.1 1067)), (1, .int x1), (2, .int x2), (3, .int x3)]) rfl rfl ?_
          refine z_iconst h (v := (2 : Int32)) dX6_twist_58 ic_2 ?_
          refine z_aload_n h dX6_twist_59 rfl 1 rfl ?_
          refine z_gfI h zC6 (c := 1067) tg_1067 ln_1067 4 rfl ft_6_4 wd_200 dX6_twist_60 ?_
          refine z_imul h dX6_twist_63 ?_
          refine z_iconst h (v := (1 : Int32)) dX6_twist_64 ic_1 ?_
          refine z_isub h dX6_twist_65 ?_
          refine z_topI (fun v15 ev15 => ?_)
          have hf := bd_to ev15 hf
          refine z_istore h dX6_twist_66 (lv' := [(5, .int v15), (4, .int (0 : Int32)), (0, .ref (G.1 1067)), (1, .int x1), (2, .int x2), (3, .int x3)]) rfl rfl ?_
          exact z_sub [2, 4, 5, 1, 0] rfl (k_X6_twist_h68 h hq N x2 x3 _ _ _ _ hf)
        · have hf := it_pos g12 hf
          refine z_ldc2 h (v := (-4000000000000000001 : Int64)) wd_536 dX6_twist_46 ?_
          exact z_lret h (rt_J hf hq) dX6_twist_49
    · have hf := it_neg g6 hf
      refine z_ldc2 h (v := (-4000000000000000003 : Int64)) wd_535 dX6_twist_20 ?_
      exact z_lret h (rt_J hf hq) dX6_twist_23
  · have hf := it_pos g3 hf
    refine z_ldc2 h (v := (-4000000000000000002 : Int64)) wd_534 dX6_twist_9 ?_
    exact z_lret h (rt_J hf hq) dX6_twist_12
theorem dX6_bound_0 : decode cX6_bound 0 = .ok (.iload_n 2, 1) := by decide +kernel
theorem dX6_bound_1 : decode cX6_bound 1 = .ok (.invokestatic 329, 3) := by decide +kernel
theorem dX6_bound_4 : decode cX6_bound 4 = .ok (.ifCond .eq 12, 3) := by decide +kernel
theorem dX6_bound_7 : decode cX6_bound 7 = .ok (.iload_n 3, 1) := by decide +kernel
theorem dX6_bound_8 : decode cX6_bound 8 = .ok (.iconst 0, 1) := by decide +kernel
theorem dX6_bound_9 : decode cX6_bound 9 = .ok (.iconst 3, 1) := by decide +kernel
theorem dX6_bound_10 : decode cX6_bound 10 = .ok (.invokestatic 137, 3) := by decide +kernel
theorem dX6_bound_13 : decode cX6_bound 13 = .ok (.ifCond .ne 7, 3) := by decide +kernel
theorem dX6_bound_16 : decode cX6_bound 16 = .ok (.ldc2_w 317, 3) := by decide +kernel
theorem dX6_bound_19 : decode cX6_bound 19 = .ok (.lreturn, 1) := by decide +kernel
theorem dX6_bound_20 : decode cX6_bound 20 = .ok (.aload_n 0, 1) := by decide +kernel
theorem dX6_bound_21 : decode cX6_bound 21 = .ok (.invokevirtual 307, 3) := by decide +kernel
theorem dX6_bound_24 : decode cX6_bound 24 = .ok (.ifCond .eq 7, 3) := by decide +kernel
theorem dX6_bound_27 : decode cX6_bound 27 = .ok (.ldc2_w 319, 3) := by decide +kernel
theorem dX6_bound_30 : decode cX6_bound 30 = .ok (.lreturn, 1) := by decide +kernel
theorem dX6_bound_31 : decode cX6_bound 31 = .ok (.iload_n 1, 1) := by decide +kernel
theorem dX6_bound_32 : decode cX6_bound 32 = .ok (.iconst 0, 1) := by decide +kernel
theorem dX6_bound_33 : decode cX6_bound 33 = .ok (.aload_n 0, 1) := by decide +kernel
theorem dX6_bound_34 : decode cX6_bound 34 = .ok (.getfield 196, 3) := by decide +kernel
theorem dX6_bound_37 : decode cX6_bound 37 = .ok (.iconst 1, 1) := by decide +kernel
theorem dX6_bound_38 : decode cX6_bound 38 = .ok (.isub, 1) := by decide +kernel
theorem dX6_bound_39 : decode cX6_bound 39 = .ok (.invokestatic 137, 3) := by decide +kernel
theorem dX6_bound_42 : decode cX6_bound 42 = .ok (.ifCond .ne 7, 3) := by decide +kernel
theorem dX6_bound_45 : decode cX6_bound 45 = .ok (.ldc2_w 324, 3) := by decide +kernel
theorem dX6_bound_48 : decode cX6_bound 48 = .ok (.lreturn, 1) := by decide +kernel
theorem dX6_bound_49 : decode cX6_bound 49 = .ok (.aload_n 0, 1) := by decide +kernel
theorem dX6_bound_50 : decode cX6_bound 50 = .ok (.iload_n 1, 1) := by decide +kernel
theorem dX6_bound_51 : decode cX6_bound 51 = .ok (.invokevirtual 326, 3) := by decide +kernel
theorem dX6_bound_54 : decode cX6_bound 54 = .ok (.aload_n 0, 1) := by decide +kernel
theorem dX6_bound_55 : decode cX6_bound 55 = .ok (.getfield 70, 3) := by decide +kernel
theorem dX6_bound_58 : decode cX6_bound 58 = .ok (.iload_n 2, 1) := by decide +kernel
theorem dX6_bound_59 : decode cX6_bound 59 = .ok (.laload, 1) := by decide +kernel
theorem dX6_bound_60 : decode cX6_bound 60 = .ok (.lstore 4, 2) := by decide +kernel
theorem dX6_bound_62 : decode cX6_bound 62 = .ok (.lload 4, 2) := by decide +kernel
theorem dX6_bound_64 : decode cX6_bound 64 = .ok (.lconst 0, 1) := by decide +kernel
theorem dX6_bound_65 : decode cX6_bound 65 = .ok (.lcmp, 1) := by decide +kernel
theorem dX6_bound_66 : decode cX6_bound 66 = .ok (.ifCond .ne 7, 3) := by decide +kernel
theorem dX6_bound_69 : decode cX6_bound 69 = .ok (.ldc2_w 332, 3) := by decide +kernel
theorem dX6_bound_72 : decode cX6_bound 72 = .ok (.lreturn, 1) := by decide +kernel
theorem dX6_bound_73 : decode cX6_bound 73 = .ok (.lload 4, 2) := by decide +kernel
theorem dX6_bound_75 : decode cX6_bound 75 = .ok (.lconst 0, 1) := by decide +kernel
theorem dX6_bound_76 : decode cX6_bound 76 = .ok (.lcmp, 1) := by decide +kernel
theorem dX6_bound_77 : decode cX6_bound 77 = .ok (.ifCond .ge 13, 3) := by decide +kernel
theorem dX6_bound_80 : decode cX6_bound 80 = .ok (.aload_n 0, 1) := by decide +kernel
theorem dX6_bound_81 : decode cX6_bound 81 = .ok (.getfield 70, 3) := by decide +kernel
theorem dX6_bound_84 : decode cX6_bound 84 = .ok (.iconst 0, 1) := by decide +kernel
theorem dX6_bound_85 : decode cX6_bound 85 = .ok (.laload, 1) := by decide +kernel
theorem dX6_bound_86 : decode cX6_bound 86 = .ok (.lneg, 1) := by decide +kernel
theorem dX6_bound_87 : decode cX6_bound 87 = .ok (.goto 9, 3) := by decide +kernel
theorem dX6_bound_90 : decode cX6_bound 90 = .ok (.aload_n 0, 1) := by decide +kernel
theorem dX6_bound_91 : decode cX6_bound 91 = .ok (.getfield 70, 3) := by decide +kernel
theorem dX6_bound_94 : decode cX6_bound 94 = .ok (.iconst 0, 1) := by decide +kernel
theorem dX6_bound_95 : decode cX6_bound 95 = .ok (.laload, 1) := by decide +kernel
theorem dX6_bound_96 : decode cX6_bound 96 = .ok (.lstore 6, 2) := by decide +kernel
theorem dX6_bound_98 : decode cX6_bound 98 = .ok (.iload_n 3, 1) := by decide +kernel
theorem dX6_bound_99 : decode cX6_bound 99 = .ok (.iconst 2, 1) := by decide +kernel
theorem dX6_bound_100 : decode cX6_bound 100 = .ok (.if_icmp .ge 10, 3) := by decide +kernel
theorem dX6_bound_103 : decode cX6_bound 103 = .ok (.aload_n 0, 1) := by decide +kernel
theorem dX6_bound_104 : decode cX6_bound 104 = .ok (.getfield 214, 3) := by decide +kernel
theorem dX6_bound_107 : decode cX6_bound 107 = .ok (.goto 8, 3) := by decide +kernel
theorem dX6_bound_110 : decode cX6_bound 110 = .ok (.aload_n 0, 1) := by decide +kernel
theorem dX6_bound_111 : decode cX6_bound 111 = .ok (.getfield 214, 3) := by decide +kernel
theorem dX6_bound_114 : decode cX6_bound 114 = .ok (.lneg, 1) := by decide +kernel
theorem dX6_bound_115 : decode cX6_bound 115 = .ok (.lload 6, 2) := by decide +kernel
theorem dX6_bound_117 : decode cX6_bound 117 = .ok (.lsub, 1) := by decide +kernel
theorem dX6_bound_118 : decode cX6_bound 118 = .ok (.lload 4, 2) := by decide +kernel
theorem dX6_bound_120 : decode cX6_bound 120 = .ok (.lconst 0, 1) := by decide +kernel
theorem dX6_bound_121 : decode cX6_bound 121 = .ok (.lcmp, 1) := by decide +kernel
theorem dX6_bound_122 : decode cX6_bound 122 = .ok (.ifCond .ge 9, 3) := by decide +kernel
theorem dX6_bound_125 : decode cX6_bound 125 = .ok (.lload 4, 2) := by decide +kernel
theorem dX6_bound_127 : decode cX6_bound 127 = .ok (.lneg, 1) := by decide +kernel
theorem dX6_bound_128 : decode cX6_bound 128 = .ok (.goto 5, 3) := by decide +kernel
theorem dX6_bound_131 : decode cX6_bound 131 = .ok (.lload 4, 2) := by decide +kernel
theorem dX6_bound_133 : decode cX6_bound 133 = .ok (.iload_n 3, 1) := by decide +kernel
theorem dX6_bound_134 : decode cX6_bound 134 = .ok (.invokestatic 300, 3) := by decide +kernel
theorem dX6_bound_137 : decode cX6_bound 137 = .ok (.lreturn, 1) := by decide +kernel
abbrev rm_X6_bound : Room := { frames := 5, cells := 0, slots := 0, locals := 167 }
noncomputable def f_X6_bound_b133 (N : Nat) (x3 : Int32) (s0 : Int64) (s1 : Int64) (σ : ZS) : Option (Int64 × ZS) := obd (f_X6_part N s0 s1 x3 σ) fun v22 σ23 => some (v22, σ23)
noncomputable def f_X6_bound_b115 (N : Nat) (x3 : Int32) (x4 : Int64) (x6 : Int64) (s0 : Int64) (σ : ZS) : Option (Int64 × ZS) := (if x4 < (0 : Int64) then f_X6_bound_b133 N x3 (s0 - x6) (-x4) σ else f_X6_bound_b133 N x3 (s0 - x6) x4 σ)
noncomputable def f_X6_bound_b96 (N : Nat) (x3 : Int32) (x4 : Int64) (s0 : Int64) (σ : ZS) : Option (Int64 × ZS) := (if (2 : Int32) ≤ x3 then f_X6_bound_b115 N x3 x4 s0 (-(gJ σ 1067 25)) σ else f_X6_bound_b115 N x3 x4 s0 (gJ σ 1067 25) σ)
noncomputable def f_X6_bound (N : Nat) (x1 : Int32) (x2 : Int32) (x3 : Int32) (σ : ZS) : Option (Int64 × ZS) := obd (f_X6_isCase N x2 σ) fun v1 σ2 => (if v1 = 0 then some ((-4000000000000000002 : Int64), σ2) else obd (f_X6_in N x3 (0 : Int32) (3 : Int32) σ2) fun v4 σ5 => (if v4 = 0 then some ((-4000000000000000002 : Int64), σ5) else obd (f_X6_isLoose N σ5) fun v7 σ8 => (if v7 = 0 then obd (f_X6_in N x1 (0 : Int32) ((gI σ8 1067 17) - (1 : Int32)) σ8) fun v10 σ11 => (if v10 = 0 then some ((-4000000000000000001 : Int64), σ11) else obd (f_X6_layOne N x1 σ11) fun _ σ14 => ck (inb x2 3) (bd (gJ σ14 1086 (x2.toNatClampNeg)) fun v16 => (if v16 = (0 : Int64) then some ((-4000000000000000005 : Int64), σ14) else (if v16 < (0 : Int64) then ck (inb (0 : Int32) 3) (f_X6_bound_b96 N x3 v16 (-(gJ σ14 1086 ((0 : Int32).toNatClampNeg))) σ14) else ck (inb (0 : Int32) 3) (f_X6_bound_b96 N x3 v16 (gJ σ14 1086 ((0 : Int32).toNatClampNeg)) σ14))))) else some ((-4000000000000000003 : Int64), σ8))))
set_option maxHeartbeats 4000000 in
set_option maxRecDepth 100000 in
theorem k_X6_bound_b133 {l : Launch} {Y : ZY} {G : ZG} {r : Int64} {σ' : ZS} (h : zOk (l, rm_X6_bound, 8, 0, 0) Y G cX6_bound RX6 (some .long)) (hq : zRet (l, rm_X6_bound, 8, 0, 0) Y G (some (.long r)) σ') (N : Nat) (x3 : Int32) (s0 : Int64) (s1 : Int64) (σ : ZS) (hf : f_X6_bound_b133 N x3 s0 s1 σ = some (r, σ')) : Z (l, rm_X6_bound, 8, 0, 0) Y G σ [(3, .int x3)] [.long s1, .long s0] 133 := by
  rw [f_X6_bound_b133] at hf
  refine z_iload_n h dX6_bound_133 rfl 0 rfl ?_
  obtain ⟨v22, σ23, e23, hf⟩ := obd_out hf
  refine z_cSv h (n := 3) (c_X6_part l G e23) rfl wd_551 wd_552 wd_5 wd_553 (by decide +kernel) ⟨rfl, rfl⟩ rfl rfl rfl dX6_bound_134 ⟨Nat.zero_le _, Nat.zero_le _⟩ ?_
  exact z_lret h (rt_J hf hq) dX6_bound_137
set_option maxHeartbeats 4000000 in
set_option maxRecDepth 100000 in
theorem k_X6_bound_b115 {l : Launch} {Y : ZY} {G : ZG} {r : Int64} {σ' : ZS} (h : zOk (l, rm_X6_bound, 8, 0, 0) Y G cX6_bound RX6 (some .long)) (hq : zRet (l, rm_X6_bound, 8, 0, 0) Y G (some (.long r)) σ') (N : Nat) (x3 : Int32) (x4 : Int64) (x6 : Int64) (s0 : Int64) (σ : ZS) (hf : f_X6_bound_b115 N x3 x4 x6 s0 σ = some (r, σ')) : Z (l, rm_X6_bound, 8, 0, 0) Y G σ [(3, .int x3), (4, .long x4), (6, .long x6)] [.long s0] 115 := by
  rw [f_X6_bound_b115] at hf
  refine z_lload h dX6_bound_115 2 rfl ?_
  refine z_lsub h dX6_bound_117 ?_
  refine z_lload h dX6_bound_118 1 rfl ?_
  refine z_lconst h (v := (0 : Int64)) dX6_bound_120 lc_0 ?_
  refine z_lif_ge h (tgt := 131) dX6_bound_121 dX6_bound_122 (by decide) (fun g21 => ?_) (fun g21 => ?_)
  · have hf := it_neg g21 hf
    refine z_lload h dX6_bound_131 1 rfl ?_
    exact z_sub [0] rfl (k_X6_bound_b133 h hq N x3 (s0 - x6) x4 _ hf)
  · have hf := it_pos g21 hf
    refine z_lload h dX6_bound_125 1 rfl ?_
    refine z_lneg h dX6_bound_127 ?_
    refine z_goto h (tgt := 133) dX6_bound_128 (by decide) ?_
    exact z_sub [0] rfl (k_X6_bound_b133 h hq N x3 (s0 - x6) (-x4) _ hf)
set_option maxHeartbeats 4000000 in
set_option maxRecDepth 100000 in
theorem k_X6_bound_b96 {l : Launch} {Y : ZY} {G : ZG} {r : Int64} {σ' : ZS} (h : zOk (l, rm_X6_bound, 8, 0, 0) Y G cX6_bound RX6 (some .long)) (hq : zRet (l, rm_X6_bound, 8, 0, 0) Y G (some (.long r)) σ') (N : Nat) (x3 : Int32) (x4 : Int64) (s0 : Int64) (σ : ZS) (hf : f_X6_bound_b96 N x3 x4 s0 σ = some (r, σ')) : Z (l, rm_X6_bound, 8, 0, 0) Y G σ [(0, .ref (G.1 1067)), (3, .int x3), (4, .long x4)] [.long s0] 96 := by
  rw [f_X6_bound_b96] at hf
  refine z_lstore h dX6_bound_96 (lv' := [(6, .long s0), (0, .ref (G.1 1067)), (3, .int x3), (4, .long x4)]) rfl rfl ?_
  refine z_iload_n h dX6_bound_98 rfl 2 rfl ?_
  refine z_iconst h (v := (2 : Int32)) dX6_bound_99 ic_2 ?_
  refine z_icmp_ge h (tgt := 110) dX6_bound_100 (by decide) (fun g20 => ?_) (fun g20 => ?_)
  · have hf := it_pos g20 hf
    refine z_aload_n h dX6_bound_110 rfl 1 rfl ?_
    refine z_gfJ h zC6 (c := 1067) tg_1067 ln_1067 25 rfl ft_6_25 wd_545 dX6_bound_111 ?_
    refine z_lneg h dX6_bound_114 ?_
    exact z_sub [2, 3, 0] rfl (k_X6_bound_b115 h hq N x3 x4 s0 (-(gJ σ 1067 25)) _ hf)
  · have hf := it_neg g20 hf
    refine z_aload_n h dX6_bound_103 rfl 1 rfl ?_
    refine z_gfJ h zC6 (c := 1067) tg_1067 ln_1067 25 rfl ft_6_25 wd_545 dX6_bound_104 ?_
    refine z_goto h (tgt := 115) dX6_bound_107 (by decide) ?_
    exact z_sub [2, 3, 0] rfl (k_X6_bound_b115 h hq N x3 x4 s0 (gJ σ 1067 25) _ hf)
set_option maxHeartbeats 4000000 in
set_option maxRecDepth 100000 in
theorem c_X6_bound (l : Launch) (G : ZG) {N : Nat} {x1 : Int32} {x2 : Int32} {x3 : Int32} {σ σ' : ZS} {r : Int64} (hf : f_X6_bound N x1 x2 x3 σ = some (r, σ')) : zMet l G yX6_bound cX6_bound 8 (some .long) rm_X6_bound [.ref (G.1 1067), .int x1, .int x2, .int x3] σ (some (.long r)) σ' := by
  refine z_met (by decide +kernel) rfl (fun Y h hq => ?_)
  have h : zOk (l, rm_X6_bound, 8, 0, 0) Y G cX6_bound RX6 (some .long) := h
  rw [f_X6_bound] at hf
  refine z_sub (lv' := [(0, .ref (G.1 1067)), (1, .int x1), (2, .int x2), (3, .int x3)]) [0, 1, 2, 3] rfl ?_
  refine z_iload_n h dX6_bound_0 rfl 2 rfl ?_
  obtain ⟨v1, σ2, e2, hf⟩ := obd_out hf
  refine z_cSv h (n := 1) (c_X6_isCase l G e2) rfl wd_582 wd_583 wd_5 wd_584 (by decide +kernel) ⟨rfl, rfl⟩ rfl rfl rfl dX6_bound_1 ⟨Nat.zero_le _, Nat.zero_le _⟩ ?_
  refine z_if_eq h (tgt := 16) dX6_bound_4 (by decide) (fun g3 => ?_) (fun g3 => ?_)
  · have hf := it_pos g3 hf
    refine z_ldc2 h (v := (-4000000000000000002 : Int64)) wd_534 dX6_bound_16 ?_
    exact z_lret h (rt_J hf hq) dX6_bound_19
  · have hf := it_neg g3 hf
    refine z_iload_n h dX6_bound_7 rfl 3 rfl ?_
    refine z_iconst h (v := (0 : Int32)) dX6_bound_8 ic_0 ?_
    refine z_iconst h (v := (3 : Int32)) dX6_bound_9 ic_3 ?_
    obtain ⟨v4, σ5, e5, hf⟩ := obd_out hf
    refine z_cSv h (n := 3) (c_X6_in l G e5) rfl wd_156 wd_157 wd_5 wd_158 (by decide +kernel) ⟨rfl, rfl⟩ rfl rfl rfl dX6_bound_10 ⟨Nat.zero_le _, Nat.zero_le _⟩ ?_
    refine z_if_ne h (tgt := 20) dX6_bound_13 (by decide) (fun g6 => ?_) (fun g6 => ?_)
    · have hf := it_neg g6 hf
      refine z_aload_n h dX6_bound_20 rfl 0 rfl ?_
      obtain ⟨v7, σ8, e8, hf⟩ := obd_out hf
      refine z_cVv h (n := 0) (c_X6_isLoose l G e8) zC6 tg_1067 ln_1067 rfl rfl wd_426 wd_427 wd_428 wd_5 wd_429 (by decide +kernel) ⟨rfl, rfl⟩ rfl rfl rfl dX6_bound_21 ⟨Nat.zero_le _, Nat.zero_le _⟩ ?_
      refine z_if_eq h (tgt := 31) dX6_bound_24 (by decide) (fun g9 => ?_) (fun g9 => ?_)
      · have hf := it_pos g9 hf
        refine z_iload_n h dX6_bound_31 rfl 1 rfl ?_
        refine z_iconst h (v := (0 : Int32)) dX6_bound_32 ic_0 ?_
        refine z_aload_n h dX6_bound_33 rfl 0 rfl ?_
        refine z_gfI h zC6 (c := 1067) tg_1067 ln_1067 17 rfl ft_6_17 wd_425 dX6_bound_34 ?_
        refine z_iconst h (v := (1 : Int32)) dX6_bound_37 ic_1 ?_
        refine z_isub h dX6_bound_38 ?_
        obtain ⟨v10, σ11, e11, hf⟩ := obd_out hf
        refine z_cSv h (n := 3) (c_X6_in l G e11) rfl wd_156 wd_157 wd_5 wd_158 (by decide +kernel) ⟨rfl, rfl⟩ rfl rfl rfl dX6_bound_39 ⟨Nat.zero_le _, Nat.zero_le _⟩ ?_
        refine z_if_ne h (tgt := 49) dX6_bound_42 (by decide) (fun g12 => ?_) (fun g12 => ?_)
        · have hf := it_neg g12 hf
          refine z_aload_n h dX6_bound_49 rfl 0 rfl ?_
          refine z_iload_n h dX6_bound_50 rfl 1 rfl ?_
          obtain ⟨v13, σ14, e14, hf⟩ := obd_out hf
          refine z_cV0 h (n := 1) (c_X6_layOne l G e14) zC6 tg_1067 ln_1067 rfl rfl wd_541 wd_542 wd_543 wd_5 wd_544 (by decide +kernel) ⟨rfl, rfl⟩ rfl rfl rfl dX6_bound_51 ⟨Nat.zero_le _, Nat.zero_le _⟩ ?_
          refine z_aload_n h dX6_bound_54 rfl 0 rfl ?_
          refine z_gfR h zC6 (d := 1086) (c := 1067) tg_1067 ln_1067 24 rfl ft_6_24 rf_1067_24 wd_108 dX6_bound_55 ?_
          refine z_iload_n h dX6_bound_58 rfl 2 rfl ?_
          obtain ⟨g15, hf⟩ := ck_out hf
          refine z_lald h (c := 1086) tg_1086 ln_1086 g15 dX6_bound_59 ?_
          refine z_topJ (fun v16 ev16 => ?_)
          have hf := bd_to ev16 hf
          refine z_lstore h dX6_bound_60 (lv' := [(4, .long v16), (0, .ref (G.1 1067)), (1, .int x1), (2, .int x2), (3, .int x3)]) rfl rfl ?_
          refine z_lload h dX6_bound_62 0 rfl ?_
          refine z_lconst h (v := (0 : Int64)) dX6_bound_64 lc_0 ?_
          refine z_lif_ne h (tgt := 73) dX6_bound_65 dX6_bound_66 (by decide) (fun g17 => ?_) (fun g17 => ?_)
          · have hf := it_neg g17 hf
            refine z_lload h dX6_bound_73 0 rfl ?_
            refine z_lconst h (v := (0 : Int64)) dX6_bound_75 lc_0 ?_
            refine z_lif_ge h (tgt := 90) dX6_bound_76 dX6_bound_77 (by decide) (fun g18 => ?_) (fun g18 => ?_)
            · have hf := it_neg g18 hf
              refine z_aload_n h dX6_bound_90 rfl 1 rfl ?_
              refine z_gfR h zC6 (d := 1086) (c := 1067) tg_1067 ln_1067 24 rfl ft_6_24 rf_1067_24 wd_108 dX6_bound_91 ?_
              refine z_iconst h (v := (0 : Int32)) dX6_bound_94 ic_0 ?_
              obtain ⟨g19, hf⟩ := ck_out hf
              refine z_lald h (c := 1086) tg_1086 ln_1086 g19 dX6_bound_95 ?_
              exact z_sub [1, 4, 0] rfl (k_X6_bound_b96 h hq N x3 v16 (gJ σ14 1086 ((0 : Int32).toNatClampNeg)) _ hf)
            · have hf := it_pos g18 hf
              refine z_aload_n h dX6_bound_80 rfl 1 rfl ?_
              refine z_gfR h zC6 (d := 1086) (c := 1067) tg_1067 ln_1067 24 rfl ft_6_24 rf_1067_24 wd_108 dX6_bound_81 ?_
              refine z_iconst h (v := (0 : Int32)) dX6_bound_84 ic_0 ?_
              obtain ⟨g24, hf⟩ := ck_out hf
              refine z_lald h (c := 1086) tg_1086 ln_1086 g24 dX6_bound_85 ?_
              refine z_lneg h dX6_bound_86 ?_
              refine z_goto h (tgt := 96) dX6_bound_87 (by decide) ?_
              exact z_sub [1, 4, 0] rfl (k_X6_bound_b96 h hq N x3 v16 (-(gJ σ14 1086 ((0 : Int32).toNatClampNeg))) _ hf)
          · have hf := it_pos g17 hf
            refine z_ldc2 h (v := (-4000000000000000005 : Int64)) wd_581 dX6_bound_69 ?_
            exact z_lret h (rt_J hf hq) dX6_bound_72
        · have hf := it_pos g12 hf
          refine z_ldc2 h (v := (-4000000000000000001 : Int64)) wd_536 dX6_bound_45 ?_
          exact z_lret h (rt_J hf hq) dX6_bound_48
      · have hf := it_neg g9 hf
        refine z_ldc2 h (v := (-4000000000000000003 : Int64)) wd_535 dX6_bound_27 ?_
        exact z_lret h (rt_J hf hq) dX6_bound_30
    · have hf := it_pos g6 hf
      refine z_ldc2 h (v := (-4000000000000000002 : Int64)) wd_534 dX6_bound_16 ?_
      exact z_lret h (rt_J hf hq) dX6_bound_19
theorem dX6_limits_0 : decode cX6_limits 0 = .ok (.iload_n 1, 1) := by decide +kernel
theorem dX6_limits_1 : decode cX6_limits 1 = .ok (.invokestatic 329, 3) := by decide +kernel
theorem dX6_limits_4 : decode cX6_limits 4 = .ok (.ifCond .ne 6, 3) := by decide +kernel
theorem dX6_limits_7 : decode cX6_limits 7 = .ok (.bipush (-2), 2) := by decide +kernel
theorem dX6_limits_9 : decode cX6_limits 9 = .ok (.ireturn, 1) := by decide +kernel
theorem dX6_limits_10 : decode cX6_limits 10 = .ok (.aload_n 0, 1) := by decide +kernel
theorem dX6_limits_11 : decode cX6_limits 11 = .ok (.invokevirtual 307, 3) := by decide +kernel
theorem dX6_limits_14 : decode cX6_limits 14 = .ok (.ifCond .eq 8, 3) := by decide +kernel
theorem dX6_limits_17 : decode cX6_limits 17 = .ok (.bipush (-3), 2) := by decide +kernel
theorem dX6_limits_19 : decode cX6_limits 19 = .ok (.goto 8, 3) := by decide +kernel
theorem dX6_limits_22 : decode cX6_limits 22 = .ok (.aload_n 0, 1) := by decide +kernel
theorem dX6_limits_23 : decode cX6_limits 23 = .ok (.iload_n 1, 1) := by decide +kernel
theorem dX6_limits_24 : decode cX6_limits 24 = .ok (.invokevirtual 310, 3) := by decide +kernel
theorem dX6_limits_27 : decode cX6_limits 27 = .ok (.ireturn, 1) := by decide +kernel
abbrev rm_X6_limits : Room := { frames := 5, cells := 0, slots := 0, locals := 186 }
noncomputable def f_X6_limits (N : Nat) (x1 : Int32) (σ : ZS) : Option (Int32 × ZS) := obd (f_X6_isCase N x1 σ) fun v1 σ2 => (if v1 = 0 then some ((-2 : Int32), σ2) else obd (f_X6_isLoose N σ2) fun v4 σ5 => (if v4 = 0 then obd (f_X6_limitOf N x1 σ5) fun v7 σ8 => some (v7, σ8) else some ((-3 : Int32), σ5)))
set_option maxHeartbeats 4000000 in
set_option maxRecDepth 100000 in
theorem c_X6_limits (l : Launch) (G : ZG) {N : Nat} {x1 : Int32} {σ σ' : ZS} {r : Int32} (hf : f_X6_limits N x1 σ = some (r, σ')) : zMet l G yX6_limits cX6_limits 2 (some .int) rm_X6_limits [.ref (G.1 1067), .int x1] σ (some (.int r)) σ' := by
  refine z_met (by decide +kernel) rfl (fun Y h hq => ?_)
  have h : zOk (l, rm_X6_limits, 2, 0, 0) Y G cX6_limits RX6 (some .int) := h
  rw [f_X6_limits] at hf
  refine z_sub (lv' := [(0, .ref (G.1 1067)), (1, .int x1)]) [0, 1] rfl ?_
  refine z_iload_n h dX6_limits_0 rfl 1 rfl ?_
  obtain ⟨v1, σ2, e2, hf⟩ := obd_out hf
  refine z_cSv h (n := 1) (c_X6_isCase l G e2) rfl wd_582 wd_583 wd_5 wd_584 (by decide +kernel) ⟨rfl, rfl⟩ rfl rfl rfl dX6_limits_1 ⟨Nat.zero_le _, Nat.zero_le _⟩ ?_
  refine z_if_ne h (tgt := 10) dX6_limits_4 (by decide) (fun g3 => ?_) (fun g3 => ?_)
  · have hf := it_neg g3 hf
    refine z_aload_n h dX6_limits_10 rfl 0 rfl ?_
    obtain ⟨v4, σ5, e5, hf⟩ := obd_out hf
    refine z_cVv h (n := 0) (c_X6_isLoose l G e5) zC6 tg_1067 ln_1067 rfl rfl wd_426 wd_427 wd_428 wd_5 wd_429 (by decide +kernel) ⟨rfl, rfl⟩ rfl rfl rfl dX6_limits_11 ⟨Nat.zero_le _, Nat.zero_le _⟩ ?_
    refine z_if_eq h (tgt := 22) dX6_limits_14 (by decide) (fun g6 => ?_) (fun g6 => ?_)
    · have hf := it_pos g6 hf
      refine z_aload_n h dX6_limits_22 rfl 0 rfl ?_
      refine z_iload_n h dX6_limits_23 rfl 1 rfl ?_
      obtain ⟨v7, σ8, e8, hf⟩ := obd_out hf
      refine z_cVv h (n := 1) (c_X6_limitOf l G e8) zC6 tg_1067 ln_1067 rfl rfl wd_617 wd_618 wd_619 wd_5 wd_620 (by decide +kernel) ⟨rfl, rfl⟩ rfl rfl rfl dX6_limits_24 ⟨Nat.zero_le _, Nat.zero_le _⟩ ?_
      exact z_iret h (rt_I hf hq) dX6_limits_27
    · have hf := it_neg g6 hf
      refine z_bipush h (v := (-3 : Int32)) dX6_limits_17 bp_m3 ?_
      refine z_goto h (tgt := 27) dX6_limits_19 (by decide) ?_
      exact z_iret h (rt_I hf hq) dX6_limits_27
  · have hf := it_pos g3 hf
    refine z_bipush h (v := (-2 : Int32)) dX6_limits_7 bp_m2 ?_
    exact z_iret h (rt_I hf hq) dX6_limits_9
theorem dX6_factor_0 : decode cX6_factor 0 = .ok (.iload_n 1, 1) := by decide +kernel
theorem dX6_factor_1 : decode cX6_factor 1 = .ok (.invokestatic 329, 3) := by decide +kernel
theorem dX6_factor_4 : decode cX6_factor 4 = .ok (.ifCond .eq 21, 3) := by decide +kernel
theorem dX6_factor_7 : decode cX6_factor 7 = .ok (.iload_n 2, 1) := by decide +kernel
theorem dX6_factor_8 : decode cX6_factor 8 = .ok (.iconst 0, 1) := by decide +kernel
theorem dX6_factor_9 : decode cX6_factor 9 = .ok (.iconst 1, 1) := by decide +kernel
theorem dX6_factor_10 : decode cX6_factor 10 = .ok (.invokestatic 137, 3) := by decide +kernel
theorem dX6_factor_13 : decode cX6_factor 13 = .ok (.ifCond .eq 12, 3) := by decide +kernel
theorem dX6_factor_16 : decode cX6_factor 16 = .ok (.iload_n 3, 1) := by decide +kernel
theorem dX6_factor_17 : decode cX6_factor 17 = .ok (.iconst 0, 1) := by decide +kernel
theorem dX6_factor_18 : decode cX6_factor 18 = .ok (.iconst 1, 1) := by decide +kernel
theorem dX6_factor_19 : decode cX6_factor 19 = .ok (.invokestatic 137, 3) := by decide +kernel
theorem dX6_factor_22 : decode cX6_factor 22 = .ok (.ifCond .ne 7, 3) := by decide +kernel
theorem dX6_factor_25 : decode cX6_factor 25 = .ok (.ldc2_w 317, 3) := by decide +kernel
theorem dX6_factor_28 : decode cX6_factor 28 = .ok (.lreturn, 1) := by decide +kernel
theorem dX6_factor_29 : decode cX6_factor 29 = .ok (.aload_n 0, 1) := by decide +kernel
theorem dX6_factor_30 : decode cX6_factor 30 = .ok (.iload_n 1, 1) := by decide +kernel
theorem dX6_factor_31 : decode cX6_factor 31 = .ok (.invokevirtual 334, 3) := by decide +kernel
theorem dX6_factor_34 : decode cX6_factor 34 = .ok (.istore 4, 2) := by decide +kernel
theorem dX6_factor_36 : decode cX6_factor 36 = .ok (.iload 4, 2) := by decide +kernel
theorem dX6_factor_38 : decode cX6_factor 38 = .ok (.ifCond .eq 13, 3) := by decide +kernel
theorem dX6_factor_41 : decode cX6_factor 41 = .ok (.ldc2_w 337, 3) := by decide +kernel
theorem dX6_factor_44 : decode cX6_factor 44 = .ok (.iload 4, 2) := by decide +kernel
theorem dX6_factor_46 : decode cX6_factor 46 = .ok (.i2l, 1) := by decide +kernel
theorem dX6_factor_47 : decode cX6_factor 47 = .ok (.ladd, 1) := by decide +kernel
theorem dX6_factor_48 : decode cX6_factor 48 = .ok (.goto 30, 3) := by decide +kernel
theorem dX6_factor_51 : decode cX6_factor 51 = .ok (.iload_n 3, 1) := by decide +kernel
theorem dX6_factor_52 : decode cX6_factor 52 = .ok (.ifCond .ne 16, 3) := by decide +kernel
theorem dX6_factor_55 : decode cX6_factor 55 = .ok (.aload_n 0, 1) := by decide +kernel
theorem dX6_factor_56 : decode cX6_factor 56 = .ok (.getfield 110, 3) := by decide +kernel
theorem dX6_factor_59 : decode cX6_factor 59 = .ok (.iconst 2, 1) := by decide +kernel
theorem dX6_factor_60 : decode cX6_factor 60 = .ok (.iload_n 1, 1) := by decide +kernel
theorem dX6_factor_61 : decode cX6_factor 61 = .ok (.imul, 1) := by decide +kernel
theorem dX6_factor_62 : decode cX6_factor 62 = .ok (.iload_n 2, 1) := by decide +kernel
theorem dX6_factor_63 : decode cX6_factor 63 = .ok (.iadd, 1) := by decide +kernel
theorem dX6_factor_64 : decode cX6_factor 64 = .ok (.laload, 1) := by decide +kernel
theorem dX6_factor_65 : decode cX6_factor 65 = .ok (.goto 13, 3) := by decide +kernel
theorem dX6_factor_68 : decode cX6_factor 68 = .ok (.aload_n 0, 1) := by decide +kernel
theorem dX6_factor_69 : decode cX6_factor 69 = .ok (.getfield 113, 3) := by decide +kernel
theorem dX6_factor_72 : decode cX6_factor 72 = .ok (.iconst 2, 1) := by decide +kernel
theorem dX6_factor_73 : decode cX6_factor 73 = .ok (.iload_n 1, 1) := by decide +kernel
theorem dX6_factor_74 : decode cX6_factor 74 = .ok (.imul, 1) := by decide +kernel
theorem dX6_factor_75 : decode cX6_factor 75 = .ok (.iload_n 2, 1) := by decide +kernel
theorem dX6_factor_76 : decode cX6_factor 76 = .ok (.iadd, 1) := by decide +kernel
theorem dX6_factor_77 : decode cX6_factor 77 = .ok (.laload, 1) := by decide +kernel
theorem dX6_factor_78 : decode cX6_factor 78 = .ok (.lreturn, 1) := by decide +kernel
abbrev rm_X6_factor : Room := { frames := 6, cells := 0, slots := 0, locals := 215 }
noncomputable def f_X6_factor (N : Nat) (x1 : Int32) (x2 : Int32) (x3 : Int32) (σ : ZS) : Option (Int64 × ZS) := obd (f_X6_isCase N x1 σ) fun v1 σ2 => (if v1 = 0 then some ((-4000000000000000002 : Int64), σ2) else obd (f_X6_in N x2 (0 : Int32) (1 : Int32) σ2) fun v4 σ5 => (if v4 = 0 then some ((-4000000000000000002 : Int64), σ5) else obd (f_X6_in N x3 (0 : Int32) (1 : Int32) σ5) fun v7 σ8 => (if v7 = 0 then some ((-4000000000000000002 : Int64), σ8) else obd (f_X6_refusal N x1 σ8) fun v10 σ11 => (if v10 = 0 then (if x3 = 0 then ck (inb (((2 : Int32) * x1) + x2) 6) (some (gJ σ11 1098 ((((2 : Int32) * x1) + x2).toNatClampNeg), σ11)) else ck (inb (((2 : Int32) * x1) + x2) 6) (some (gJ σ11 1099 ((((2 : Int32) * x1) + x2).toNatClampNeg), σ11))) else some ((-4000000000000000000 : Int64) + (v10.toInt64), σ11)))))
set_option maxHeartbeats 4000000 in
set_option maxRecDepth 100000 in
theorem c_X6_factor (l : Launch) (G : ZG) {N : Nat} {x1 : Int32} {x2 : Int32} {x3 : Int32} {σ σ' : ZS} {r : Int64} (hf : f_X6_factor N x1 x2 x3 σ = some (r, σ')) : zMet l G yX6_factor cX6_factor 5 (some .long) rm_X6_factor [.ref (G.1 1067), .int x1, .int x2, .int x3] σ (some (.long r)) σ' := by
  refine z_met (by decide +kernel) rfl (fun Y h hq => ?_)
  have h : zOk (l, rm_X6_factor, 5, 0, 0) Y G cX6_factor RX6 (some .long) := h
  rw [f_X6_factor] at hf
  refine z_sub (lv' := [(0, .ref (G.1 1067)), (1, .int x1), (2, .int x2), (3, .int x3)]) [0, 1, 2, 3] rfl ?_
  refine z_iload_n h dX6_factor_0 rfl 1 rfl ?_
  obtain ⟨v1, σ2, e2, hf⟩ := obd_out hf
  refine z_cSv h (n := 1) (c_X6_isCase l G e2) rfl wd_582 wd_583 wd_5 wd_584 (by decide +kernel) ⟨rfl, rfl⟩ rfl rfl rfl dX6_factor_1 ⟨Nat.zero_le _, Nat.zero_le _⟩ ?_
  refine z_if_eq h (tgt := 25) dX6_factor_4 (by decide) (fun g3 => ?_) (fun g3 => ?_)
  · have hf := it_pos g3 hf
    refine z_ldc2 h (v := (-4000000000000000002 : Int64)) wd_534 dX6_factor_25 ?_
    exact z_lret h (rt_J hf hq) dX6_factor_28
  · have hf := it_neg g3 hf
    refine z_iload_n h dX6_factor_7 rfl 2 rfl ?_
    refine z_iconst h (v := (0 : Int32)) dX6_factor_8 ic_0 ?_
    refine z_iconst h (v := (1 : Int32)) dX6_factor_9 ic_1 ?_
    obtain ⟨v4, σ5, e5, hf⟩ := obd_out hf
    refine z_cSv h (n := 3) (c_X6_in l G e5) rfl wd_156 wd_157 wd_5 wd_158 (by decide +kernel) ⟨rfl, rfl⟩ rfl rfl rfl dX6_factor_10 ⟨Nat.zero_le _, Nat.zero_le _⟩ ?_
    refine z_if_eq h (tgt := 25) dX6_factor_13 (by decide) (fun g6 => ?_) (fun g6 => ?_)
    · have hf := it_pos g6 hf
      refine z_ldc2 h (v := (-4000000000000000002 : Int64)) wd_534 dX6_factor_25 ?_
      exact z_lret h (rt_J hf hq) dX6_factor_28
    · have hf := it_neg g6 hf
      refine z_iload_n h dX6_factor_16 rfl 3 rfl ?_
      refine z_iconst h (v := (0 : Int32)) dX6_factor_17 ic_0 ?_
      refine z_iconst h (v := (1 : Int32)) dX6_factor_18 ic_1 ?_
      obtain ⟨v7, σ8, e8, hf⟩ := obd_out hf
      refine z_cSv h (n := 3) (c_X6_in l G e8) rfl wd_156 wd_157 wd_5 wd_158 (by decide +kernel) ⟨rfl, rfl⟩ rfl rfl rfl dX6_factor_19 ⟨Nat.zero_le _, Nat.zero_le _⟩ ?_
      refine z_if_ne h (tgt := 29) dX6_factor_22 (by decide) (fun g9 => ?_) (fun g9 => ?_)
      · have hf := it_neg g9 hf
        refine z_aload_n h dX6_factor_29 rfl 0 rfl ?_
        refine z_iload_n h dX6_factor_30 rfl 1 rfl ?_
        obtain ⟨v10, σ11, e11, hf⟩ := obd_out hf
        refine z_cVv h (n := 1) (c_X6_refusal l G e11) zC6 tg_1067 ln_1067 rfl rfl wd_703 wd_704 wd_705 wd_5 wd_706 (by decide +kernel) ⟨rfl, rfl⟩ rfl rfl rfl dX6_factor_31 ⟨Nat.zero_le _, Nat.zero_le _⟩ ?_
        refine z_istore h dX6_factor_34 (lv' := [(4, .int v10), (0, .ref (G.1 1067)), (1, .int x1), (2, .int x2), (3, .int x3)]) rfl rfl ?_
        refine z_iload h dX6_factor_36 0 rfl ?_
        refine z_if_eq h (tgt := 51) dX6_factor_38 (by decide) (fun g12 => ?_) (fun g12 => ?_)
        · have hf := it_pos g12 hf
          refine z_iload_n h dX6_factor_51 rfl 4 rfl ?_
          refine z_if_ne h (tgt := 68) dX6_factor_52 (by decide) (fun g13 => ?_) (fun g13 => ?_)
          · have hf := it_neg g13 hf
            refine z_aload_n h dX6_factor_68 rfl 1 rfl ?_
            refine z_gfR h zC6 (d := 1099) (c := 1067) tg_1067 ln_1067 46 rfl ft_6_46 rf_1067_46 wd_122 dX6_factor_69 ?_
            refine z_iconst h (v := (2 : Int32)) dX6_factor_72 ic_2 ?_
            refine z_iload_n h dX6_factor_73 rfl 2 rfl ?_
            refine z_imul h dX6_factor_74 ?_
            refine z_iload_n h dX6_factor_75 rfl 3 rfl ?_
            refine z_iadd h dX6_factor_76 ?_
            obtain ⟨g14, hf⟩ := ck_out hf
            refine z_lald h (c := 1099) tg_1099 ln_1099 g14 dX6_factor_77 ?_
            exact z_lret h (rt_J hf hq) dX6_factor_78
          · have hf := it_pos g13 hf
            refine z_aload_n h dX6_factor_55 rfl 1 rfl ?_
            refine z_gfR h zC6 (d := 1098) (c := 1067) tg_1067 ln_1067 45 rfl ft_6_45 rf_1067_45 wd_121 dX6_factor_56 ?_
            refine z_iconst h (v := (2 : Int32)) dX6_factor_59 ic_2 ?_
            refine z_iload_n h dX6_factor_60 rfl 2 rfl ?_
            refine z_imul h dX6_factor_61 ?_
            refine z_iload_n h dX6_factor_62 rfl 3 rfl ?_
            refine z_iadd h dX6_factor_63 ?_
            obtain ⟨g15, hf⟩ := ck_out hf
            refine z_lald h (c := 1098) tg_1098 ln_1098 g15 dX6_factor_64 ?_
            refine z_goto h (tgt := 78) dX6_factor_65 (by decide) ?_
            exact z_lret h (rt_J hf hq) dX6_factor_78
        · have hf := it_neg g12 hf
          refine z_ldc2 h (v := (-4000000000000000000 : Int64)) wd_702 dX6_factor_41 ?_
          refine z_iload h dX6_factor_44 0 rfl ?_
          refine z_i2l h dX6_factor_46 ?_
          refine z_ladd h dX6_factor_47 ?_
          refine z_goto h (tgt := 78) dX6_factor_48 (by decide) ?_
          exact z_lret h (rt_J hf hq) dX6_factor_78
      · have hf := it_pos g9 hf
        refine z_ldc2 h (v := (-4000000000000000002 : Int64)) wd_534 dX6_factor_25 ?_
        exact z_lret h (rt_J hf hq) dX6_factor_28
theorem dX6_near_0 : decode cX6_near 0 = .ok (.iload_n 1, 1) := by decide +kernel
theorem dX6_near_1 : decode cX6_near 1 = .ok (.invokestatic 329, 3) := by decide +kernel
theorem dX6_near_4 : decode cX6_near 4 = .ok (.ifCond .eq 12, 3) := by decide +kernel
theorem dX6_near_7 : decode cX6_near 7 = .ok (.iload_n 2, 1) := by decide +kernel
theorem dX6_near_8 : decode cX6_near 8 = .ok (.iconst 0, 1) := by decide +kernel
theorem dX6_near_9 : decode cX6_near 9 = .ok (.iconst 1, 1) := by decide +kernel
theorem dX6_near_10 : decode cX6_near 10 = .ok (.invokestatic 137, 3) := by decide +kernel
theorem dX6_near_13 : decode cX6_near 13 = .ok (.ifCond .ne 6, 3) := by decide +kernel
theorem dX6_near_16 : decode cX6_near 16 = .ok (.bipush (-2), 2) := by decide +kernel
theorem dX6_near_18 : decode cX6_near 18 = .ok (.ireturn, 1) := by decide +kernel
theorem dX6_near_19 : decode cX6_near 19 = .ok (.aload_n 0, 1) := by decide +kernel
theorem dX6_near_20 : decode cX6_near 20 = .ok (.iload_n 1, 1) := by decide +kernel
theorem dX6_near_21 : decode cX6_near 21 = .ok (.invokevirtual 334, 3) := by decide +kernel
theorem dX6_near_24 : decode cX6_near 24 = .ok (.istore_n 3, 1) := by decide +kernel
theorem dX6_near_25 : decode cX6_near 25 = .ok (.iload_n 3, 1) := by decide +kernel
theorem dX6_near_26 : decode cX6_near 26 = .ok (.ifCond .eq 7, 3) := by decide +kernel
theorem dX6_near_29 : decode cX6_near 29 = .ok (.iload_n 3, 1) := by decide +kernel
theorem dX6_near_30 : decode cX6_near 30 = .ok (.goto 29, 3) := by decide +kernel
theorem dX6_near_33 : decode cX6_near 33 = .ok (.aload_n 0, 1) := by decide +kernel
theorem dX6_near_34 : decode cX6_near 34 = .ok (.getfield 110, 3) := by decide +kernel
theorem dX6_near_37 : decode cX6_near 37 = .ok (.iconst 2, 1) := by decide +kernel
theorem dX6_near_38 : decode cX6_near 38 = .ok (.iload_n 1, 1) := by decide +kernel
theorem dX6_near_39 : decode cX6_near 39 = .ok (.imul, 1) := by decide +kernel
theorem dX6_near_40 : decode cX6_near 40 = .ok (.iload_n 2, 1) := by decide +kernel
theorem dX6_near_41 : decode cX6_near 41 = .ok (.iadd, 1) := by decide +kernel
theorem dX6_near_42 : decode cX6_near 42 = .ok (.laload, 1) := by decide +kernel
theorem dX6_near_43 : decode cX6_near 43 = .ok (.l2f, 1) := by decide +kernel
theorem dX6_near_44 : decode cX6_near 44 = .ok (.aload_n 0, 1) := by decide +kernel
theorem dX6_near_45 : decode cX6_near 45 = .ok (.getfield 113, 3) := by decide +kernel
theorem dX6_near_48 : decode cX6_near 48 = .ok (.iconst 2, 1) := by decide +kernel
theorem dX6_near_49 : decode cX6_near 49 = .ok (.iload_n 1, 1) := by decide +kernel
theorem dX6_near_50 : decode cX6_near 50 = .ok (.imul, 1) := by decide +kernel
theorem dX6_near_51 : decode cX6_near 51 = .ok (.iload_n 2, 1) := by decide +kernel
theorem dX6_near_52 : decode cX6_near 52 = .ok (.iadd, 1) := by decide +kernel
theorem dX6_near_53 : decode cX6_near 53 = .ok (.laload, 1) := by decide +kernel
theorem dX6_near_54 : decode cX6_near 54 = .ok (.l2f, 1) := by decide +kernel
theorem dX6_near_55 : decode cX6_near 55 = .ok (.fdiv, 1) := by decide +kernel
theorem dX6_near_56 : decode cX6_near 56 = .ok (.invokestatic 339, 3) := by decide +kernel
theorem dX6_near_59 : decode cX6_near 59 = .ok (.ireturn, 1) := by decide +kernel
abbrev rm_X6_near : Room := { frames := 6, cells := 0, slots := 0, locals := 215 }
noncomputable def f_X6_near (N : Nat) (x1 : Int32) (x2 : Int32) (σ : ZS) : Option (Int32 × ZS) := obd (f_X6_isCase N x1 σ) fun v1 σ2 => (if v1 = 0 then some ((-2 : Int32), σ2) else obd (f_X6_in N x2 (0 : Int32) (1 : Int32) σ2) fun v4 σ5 => (if v4 = 0 then some ((-2 : Int32), σ5) else obd (f_X6_refusal N x1 σ5) fun v7 σ8 => (if v7 = 0 then ck (inb (((2 : Int32) * x1) + x2) 6) (ck (inb (((2 : Int32) * x1) + x2) 6) (ck (nn32 (FP.fdiv (FP.l2f (gJ σ8 1098 ((((2 : Int32) * x1) + x2).toNatClampNeg))) (FP.l2f (gJ σ8 1099 ((((2 : Int32) * x1) + x2).toNatClampNeg))))) (obd (f_Jxf58ca_floatToIntBits_5c35a N (FP.fdiv (FP.l2f (gJ σ8 1098 ((((2 : Int32) * x1) + x2).toNatClampNeg))) (FP.l2f (gJ σ8 1099 ((((2 : Int32) * x1) + x2).toNatClampNeg)))) σ8) fun v13 σ14 => some (v13, σ14)))) else some (v7, σ8))))
set_option maxHeartbeats 4000000 in
set_option maxRecDepth 100000 in
theorem c_X6_near (l : Launch) (G : ZG) {N : Nat} {x1 : Int32} {x2 : Int32} {σ σ' : ZS} {r : Int32} (hf : f_X6_near N x1 x2 σ = some (r, σ')) : zMet l G yX6_near cX6_near 4 (some .int) rm_X6_near [.ref (G.1 1067), .int x1, .int x2] σ (some (.int r)) σ' := by
  refine z_met (by decide +kernel) rfl (fun Y h hq => ?_)
  have h : zOk (l, rm_X6_near, 4, 0, 0) Y G cX6_near RX6 (some .int) := h
  rw [f_X6_near] at hf
  refine z_sub (lv' := [(0, .ref (G.1 1067)), (1, .int x1), (2, .int x2)]) [0, 1, 2] rfl ?_
  refine z_iload_n h dX6_near_0 rfl 1 rfl ?_
  obtain ⟨v1, σ2, e2, hf⟩ := obd_out hf
  refine z_cSv h (n := 1) (c_X6_isCase l G e2) rfl wd_582 wd_583 wd_5 wd_584 (by decide +kernel) ⟨rfl, rfl⟩ rfl rfl rfl dX6_near_1 ⟨Nat.zero_le _, Nat.zero_le _⟩ ?_
  refine z_if_eq h (tgt := 16) dX6_near_4 (by decide) (fun g3 => ?_) (fun g3 => ?_)
  · have hf := it_pos g3 hf
    refine z_bipush h (v := (-2 : Int32)) dX6_near_16 bp_m2 ?_
    exact z_iret h (rt_I hf hq) dX6_near_18
  · have hf := it_neg g3 hf
    refine z_iload_n h dX6_near_7 rfl 2 rfl ?_
    refine z_iconst h (v := (0 : Int32)) dX6_near_8 ic_0 ?_
    refine z_iconst h (v := (1 : Int32)) dX6_near_9 ic_1 ?_
    obtain ⟨v4, σ5, e5, hf⟩ := obd_out hf
    refine z_cSv h (n := 3) (c_X6_in l G e5) rfl wd_156 wd_157 wd_5 wd_158 (by decide +kernel) ⟨rfl, rfl⟩ rfl rfl rfl dX6_near_10 ⟨Nat.zero_le _, Nat.zero_le _⟩ ?_
    refine z_if_ne h (tgt := 19) dX6_near_13 (by decide) (fun g6 => ?_) (fun g6 => ?_)
    · have hf := it_neg g6 hf
      refine z_aload_n h dX6_near_19 rfl 0 rfl ?_
      refine z_iload_n h dX6_near_20 rfl 1 rfl ?_
      obtain ⟨v7, σ8, e8, hf⟩ := obd_out hf
      refine z_cVv h (n := 1) (c_X6_refusal l G e8) zC6 tg_1067 ln_1067 rfl rfl wd_703 wd_704 wd_705 wd_5 wd_706 (by decide +kernel) ⟨rfl, rfl⟩ rfl rfl rfl dX6_near_21 ⟨Nat.zero_le _, Nat.zero_le _⟩ ?_
      refine z_istore_n h dX6_near_24 rfl (lv' := [(3, .int v7), (0, .ref (G.1 1067)), (1, .int x1), (2, .int x2)]) rfl rfl ?_
      refine z_iload_n h dX6_near_25 rfl 0 rfl ?_
      refine z_if_eq h (tgt := 33) dX6_near_26 (by decide) (fun g9 => ?_) (fun g9 => ?_)
      · have hf := it_pos g9 hf
        refine z_aload_n h dX6_near_33 rfl 1 rfl ?_
        refine z_gfR h zC6 (d := 1098) (c := 1067) tg_1067 ln_1067 45 rfl ft_6_45 rf_1067_45 wd_121 dX6_near_34 ?_
        refine z_iconst h (v := (2 : Int32)) dX6_near_37 ic_2 ?_
        refine z_iload_n h dX6_near_38 rfl 2 rfl ?_
        refine z_imul h dX6_near_39 ?_
        refine z_iload_n h dX6_near_40 rfl 3 rfl ?_
        refine z_iadd h dX6_near_41 ?_
        obtain ⟨g10, hf⟩ := ck_out hf
        refine z_lald h (c := 1098) tg_1098 ln_1098 g10 dX6_near_42 ?_
        refine z_l2f h dX6_near_43 ?_
        refine z_aload_n h dX6_near_44 rfl 1 rfl ?_
        refine z_gfR h zC6 (d := 1099) (c := 1067) tg_1067 ln_1067 46 rfl ft_6_46 rf_1067_46 wd_122 dX6_near_45 ?_
        refine z_iconst h (v := (2 : Int32)) dX6_near_48 ic_2 ?_
        refine z_iload_n h dX6_near_49 rfl 2 rfl ?_
        refine z_imul h dX6_near_50 ?_
        refine z_iload_n h dX6_near_51 rfl 3 rfl ?_
        refine z_iadd h dX6_near_52 ?_
        obtain ⟨g11, hf⟩ := ck_out hf
        refine z_lald h (c := 1099) tg_1099 ln_1099 g11 dX6_near_53 ?_
        refine z_l2f h dX6_near_54 ?_
        obtain ⟨g12, hf⟩ := ck_out hf
        refine z_fdiv h dX6_near_55 g12 ?_
        obtain ⟨v13, σ14, e14, hf⟩ := obd_out hf
        refine z_cSv h (n := 1) (c_Jxf58ca_floatToIntBits_5c35a l G e14) rfl wd_724 wd_725 wd_726 wd_727 (by decide +kernel) ⟨rfl, rfl⟩ rfl rfl rfl dX6_near_56 ⟨Nat.zero_le _, Nat.zero_le _⟩ ?_
        exact z_iret h (rt_I hf hq) dX6_near_59
      · have hf := it_neg g9 hf
        refine z_iload_n h dX6_near_29 rfl 0 rfl ?_
        refine z_goto h (tgt := 59) dX6_near_30 (by decide) ?_
        exact z_iret h (rt_I hf hq) dX6_near_59
    · have hf := it_pos g6 hf
      refine z_bipush h (v := (-2 : Int32)) dX6_near_16 bp_m2 ?_
      exact z_iret h (rt_I hf hq) dX6_near_18
