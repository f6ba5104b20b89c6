theorem dX1_reduce_0 : decode cX1_reduce 0 = .ok (.aload_n 0, 1) := by decide +kernel
theorem dX1_reduce_1 : decode cX1_reduce 1 = .ok (.getfield 13, 3) := by decide +kernel
theorem dX1_reduce_4 : decode cX1_reduce 4 = .ok (.aload_n 0, 1) := by decide +kernel
theorem dX1_reduce_5 : decode cX1_reduce 5 = .ok (.getfield 7, 3) := by decide +kernel
theorem dX1_reduce_8 : decode cX1_reduce 8 = .ok (.invokestatic 16, 3) := by decide +kernel
theorem dX1_reduce_11 : decode cX1_reduce 11 = .ok (.lstore_n 1, 1) := by decide +kernel
theorem dX1_reduce_12 : decode cX1_reduce 12 = .ok (.lload_n 1, 1) := by decide +kernel
theorem dX1_reduce_13 : decode cX1_reduce 13 = .ok (.lconst 1, 1) := by decide +kernel
theorem dX1_reduce_14 : decode cX1_reduce 14 = .ok (.lcmp, 1) := by decide +kernel
theorem dX1_reduce_15 : decode cX1_reduce 15 = .ok (.ifCond .le 23, 3) := by decide +kernel
theorem dX1_reduce_18 : decode cX1_reduce 18 = .ok (.aload_n 0, 1) := by decide +kernel
theorem dX1_reduce_19 : decode cX1_reduce 19 = .ok (.dup, 1) := by decide +kernel
theorem dX1_reduce_20 : decode cX1_reduce 20 = .ok (.getfield 13, 3) := by decide +kernel
theorem dX1_reduce_23 : decode cX1_reduce 23 = .ok (.lload_n 1, 1) := by decide +kernel
theorem dX1_reduce_24 : decode cX1_reduce 24 = .ok (.ldiv, 1) := by decide +kernel
theorem dX1_reduce_25 : decode cX1_reduce 25 = .ok (.putfield 13, 3) := by decide +kernel
theorem dX1_reduce_28 : decode cX1_reduce 28 = .ok (.aload_n 0, 1) := by decide +kernel
theorem dX1_reduce_29 : decode cX1_reduce 29 = .ok (.dup, 1) := by decide +kernel
theorem dX1_reduce_30 : decode cX1_reduce 30 = .ok (.getfield 7, 3) := by decide +kernel
theorem dX1_reduce_33 : decode cX1_reduce 33 = .ok (.lload_n 1, 1) := by decide +kernel
theorem dX1_reduce_34 : decode cX1_reduce 34 = .ok (.ldiv, 1) := by decide +kernel
theorem dX1_reduce_35 : decode cX1_reduce 35 = .ok (.putfield 7, 3) := by decide +kernel
theorem dX1_reduce_38 : decode cX1_reduce 38 = .ok (.return_, 1) := by decide +kernel
abbrev rm_X1_reduce : Room := { frames := 2, cells := 0, slots := 0, locals := 67 }
noncomputable def f_X1_reduce (N : Nat) (a0 : Nat) (σ : ZS) : Option (Unit × ZS) := ck (isc a0 1) (ck (isc a0 1) (obd (f_X5_gcd N (gJ σ a0 0) (gJ σ a0 1) σ) fun v3 σ4 => (if (1 : Int64) < v3 then ck (isc a0 1) (ck (!(v3 == 0)) (bd ((gJ σ4 a0 0) / v3) fun v8 => ck (isc a0 1) (bd (sJ σ4 a0 0 v8) fun σ10 => ck (isc a0 1) (ck (!(v3 == 0)) (bd ((gJ σ10 a0 1) / v3) fun v13 => ck (isc a0 1) (bd (sJ σ10 a0 1 v13) fun σ15 => some ((), σ15))))))) else some ((), σ4))))
set_option maxHeartbeats 4000000 in
set_option maxRecDepth 100000 in
theorem c_X1_reduce (l : Launch) (G : ZG) {N : Nat} {a0 : Nat} {σ σ' : ZS} {r : Unit} (hf : f_X1_reduce N a0 σ = some (r, σ')) : zMet l G yX1_reduce cX1_reduce 3 none rm_X1_reduce [.ref (G.1 a0)] σ none σ' := by
  refine z_met (by decide +kernel) rfl (fun Y h hq => ?_)
  have h : zOk (l, rm_X1_reduce, 3, 0, 0) Y G cX1_reduce RX1 none := h
  rw [f_X1_reduce] at hf
  refine z_sub (lv' := [(0, .ref (G.1 a0))]) [0] rfl ?_
  refine z_aload_n h dX1_reduce_0 rfl 0 rfl ?_
  obtain ⟨g1, hf⟩ := ck_out hf
  refine z_gfJ h zC1 (isc_tg g1) (isc_ln g1) 0 rfl ft_1_0 wd_521 dX1_reduce_1 ?_
  refine z_aload_n h dX1_reduce_4 rfl 0 rfl ?_
  obtain ⟨g2, hf⟩ := ck_out hf
  refine z_gfJ h zC1 (isc_tg g2) (isc_ln g2) 1 rfl ft_1_1 wd_82 dX1_reduce_5 ?_
  obtain ⟨v3, σ4, e4, hf⟩ := obd_out hf
  refine z_cSNv h (n := 2) (c_X5_gcd l G e4) rfl (by decide +kernel) wd_335 wd_2 wd_336 (by decide +kernel) ⟨rfl, rfl⟩ rfl rfl rfl dX1_reduce_8 ⟨Nat.zero_le _, Nat.zero_le _⟩ ?_
  refine z_lstore_n h dX1_reduce_11 rfl (lv' := [(1, .long v3), (0, .ref (G.1 a0))]) rfl rfl ?_
  refine z_lload_n h dX1_reduce_12 rfl 0 rfl ?_
  refine z_lconst h (v := (1 : Int64)) dX1_reduce_13 lc_1 ?_
  refine z_lif_le h (tgt := 38) dX1_reduce_14 dX1_reduce_15 (by decide) (fun g5 => ?_) (fun g5 => ?_)
  · have hf := it_neg g5 hf
    exact z_vret h (rt_V hf hq) dX1_reduce_38
  · have hf := it_pos g5 hf
    refine z_aload_n h dX1_reduce_18 rfl 1 rfl ?_
    refine z_dup h dX1_reduce_19 rfl ?_
    obtain ⟨g6, hf⟩ := ck_out hf
    refine z_gfJ h zC1 (isc_tg g6) (isc_ln g6) 0 rfl ft_1_0 wd_521 dX1_reduce_20 ?_
    refine z_lload_n h dX1_reduce_23 rfl 0 rfl ?_
    obtain ⟨g7, hf⟩ := ck_out hf
    refine z_ldiv h dX1_reduce_24 (nz_of g7) ?_
    refine z_topJ (fun v8 ev8 => ?_)
    have hf := bd_to ev8 hf
    obtain ⟨g9, hf⟩ := ck_out hf
    refine z_pfJ h zC1 (isc_tg g9) (isc_ln g9) 0 rfl ft_1_0 wd_521 rfl (ty := .long) (by decide +kernel) rfl rfl dX1_reduce_25 ?_
    refine z_gen (fun σ10 eσ10 => ?_)
    have hf := bd_to eσ10 hf
    refine z_aload_n h dX1_reduce_28 rfl 1 rfl ?_
    refine z_dup h dX1_reduce_29 rfl ?_
    obtain ⟨g11, hf⟩ := ck_out hf
    refine z_gfJ h zC1 (isc_tg g11) (isc_ln g11) 1 rfl ft_1_1 wd_82 dX1_reduce_30 ?_
    refine z_lload_n h dX1_reduce_33 rfl 0 rfl ?_
    obtain ⟨g12, hf⟩ := ck_out hf
    refine z_ldiv h dX1_reduce_34 (nz_of g12) ?_
    refine z_topJ (fun v13 ev13 => ?_)
    have hf := bd_to ev13 hf
    obtain ⟨g14, hf⟩ := ck_out hf
    refine z_pfJ h zC1 (isc_tg g14) (isc_ln g14) 1 rfl ft_1_1 wd_82 rfl (ty := .long) (by decide +kernel) rfl rfl dX1_reduce_35 ?_
    refine z_gen (fun σ15 eσ15 => ?_)
    have hf := bd_to eσ15 hf
    exact z_vret h (rt_V hf hq) dX1_reduce_38
theorem dX1_lowestTerm_0 : decode cX1_lowestTerm 0 = .ok (.aload_n 0, 1) := by decide +kernel
theorem dX1_lowestTerm_1 : decode cX1_lowestTerm 1 = .ok (.invokevirtual 22, 3) := by decide +kernel
theorem dX1_lowestTerm_4 : decode cX1_lowestTerm 4 = .ok (.iload_n 1, 1) := by decide +kernel
theorem dX1_lowestTerm_5 : decode cX1_lowestTerm 5 = .ok (.ifCond .ne 10, 3) := by decide +kernel
theorem dX1_lowestTerm_8 : decode cX1_lowestTerm 8 = .ok (.aload_n 0, 1) := by decide +kernel
theorem dX1_lowestTerm_9 : decode cX1_lowestTerm 9 = .ok (.getfield 13, 3) := by decide +kernel
theorem dX1_lowestTerm_12 : decode cX1_lowestTerm 12 = .ok (.goto 7, 3) := by decide +kernel
theorem dX1_lowestTerm_15 : decode cX1_lowestTerm 15 = .ok (.aload_n 0, 1) := by decide +kernel
theorem dX1_lowestTerm_16 : decode cX1_lowestTerm 16 = .ok (.getfield 7, 3) := by decide +kernel
theorem dX1_lowestTerm_19 : decode cX1_lowestTerm 19 = .ok (.lreturn, 1) := by decide +kernel
abbrev rm_X1_lowestTerm : Room := { frames := 3, cells := 0, slots := 0, locals := 97 }
noncomputable def f_X1_lowestTerm (N : Nat) (a0 : Nat) (x1 : Int32) (σ : ZS) : Option (Int64 × ZS) := ck (isc a0 1) (obd (f_X1_reduce N a0 σ) fun _ σ3 => (if x1 = 0 then ck (isc a0 1) (some (gJ σ3 a0 0, σ3)) else ck (isc a0 1) (some (gJ σ3 a0 1, σ3))))
set_option maxHeartbeats 4000000 in
set_option maxRecDepth 100000 in
theorem c_X1_lowestTerm (l : Launch) (G : ZG) {N : Nat} {a0 : Nat} {x1 : Int32} {σ σ' : ZS} {r : Int64} (hf : f_X1_lowestTerm N a0 x1 σ = some (r, σ')) : zMet l G yX1_lowestTerm cX1_lowestTerm 2 (some .long) rm_X1_lowestTerm [.ref (G.1 a0), .int x1] σ (some (.long r)) σ' := by
  refine z_met (by decide +kernel) rfl (fun Y h hq => ?_)
  have h : zOk (l, rm_X1_lowestTerm, 2, 0, 0) Y G cX1_lowestTerm RX1 (some .long) := h
  rw [f_X1_lowestTerm] at hf
  refine z_sub (lv' := [(0, .ref (G.1 a0)), (1, .int x1)]) [0, 1] rfl ?_
  refine z_aload_n h dX1_lowestTerm_0 rfl 0 rfl ?_
  obtain ⟨g1, hf⟩ := ck_out hf
  obtain ⟨v2, σ3, e3, hf⟩ := obd_out hf
  refine z_cV0 h (n := 0) (c_X1_reduce l G e3) zC1 (isc_tg g1) (isc_ln g1) rfl rfl wd_526 wd_527 wd_528 wd_25 wd_529 (by decide +kernel) ⟨rfl, rfl⟩ rfl rfl rfl dX1_lowestTerm_1 ⟨Nat.zero_le _, Nat.zero_le _⟩ ?_
  refine z_iload_n h dX1_lowestTerm_4 rfl 1 rfl ?_
  refine z_if_ne h (tgt := 15) dX1_lowestTerm_5 (by decide) (fun g4 => ?_) (fun g4 => ?_)
  · have hf := it_neg g4 hf
    refine z_aload_n h dX1_lowestTerm_15 rfl 0 rfl ?_
    obtain ⟨g5, hf⟩ := ck_out hf
    refine z_gfJ h zC1 (isc_tg g5) (isc_ln g5) 1 rfl ft_1_1 wd_82 dX1_lowestTerm_16 ?_
    exact z_lret h (rt_J hf hq) dX1_lowestTerm_19
  · have hf := it_pos g4 hf
    refine z_aload_n h dX1_lowestTerm_8 rfl 0 rfl ?_
    obtain ⟨g6, hf⟩ := ck_out hf
    refine z_gfJ h zC1 (isc_tg g6) (isc_ln g6) 0 rfl ft_1_0 wd_521 dX1_lowestTerm_9 ?_
    refine z_goto h (tgt := 19) dX1_lowestTerm_12 (by decide) ?_
    exact z_lret h (rt_J hf hq) dX1_lowestTerm_19
theorem dX1_put_0 : decode cX1_put 0 = .ok (.aload_n 0, 1) := by decide +kernel
theorem dX1_put_1 : decode cX1_put 1 = .ok (.lload_n 3, 1) := by decide +kernel
theorem dX1_put_2 : decode cX1_put 2 = .ok (.lconst 0, 1) := by decide +kernel
theorem dX1_put_3 : decode cX1_put 3 = .ok (.lcmp, 1) := by decide +kernel
theorem dX1_put_4 : decode cX1_put 4 = .ok (.ifCond .ge 8, 3) := by decide +kernel
theorem dX1_put_7 : decode cX1_put 7 = .ok (.lload_n 1, 1) := by decide +kernel
theorem dX1_put_8 : decode cX1_put 8 = .ok (.lneg, 1) := by decide +kernel
theorem dX1_put_9 : decode cX1_put 9 = .ok (.goto 4, 3) := by decide +kernel
theorem dX1_put_12 : decode cX1_put 12 = .ok (.lload_n 1, 1) := by decide +kernel
theorem dX1_put_13 : decode cX1_put 13 = .ok (.putfield 13, 3) := by decide +kernel
theorem dX1_put_16 : decode cX1_put 16 = .ok (.aload_n 0, 1) := by decide +kernel
theorem dX1_put_17 : decode cX1_put 17 = .ok (.lload_n 3, 1) := by decide +kernel
theorem dX1_put_18 : decode cX1_put 18 = .ok (.lconst 0, 1) := by decide +kernel
theorem dX1_put_19 : decode cX1_put 19 = .ok (.lcmp, 1) := by decide +kernel
theorem dX1_put_20 : decode cX1_put 20 = .ok (.ifCond .ge 8, 3) := by decide +kernel
theorem dX1_put_23 : decode cX1_put 23 = .ok (.lload_n 3, 1) := by decide +kernel
theorem dX1_put_24 : decode cX1_put 24 = .ok (.lneg, 1) := by decide +kernel
theorem dX1_put_25 : decode cX1_put 25 = .ok (.goto 4, 3) := by decide +kernel
theorem dX1_put_28 : decode cX1_put 28 = .ok (.lload_n 3, 1) := by decide +kernel
theorem dX1_put_29 : decode cX1_put 29 = .ok (.putfield 7, 3) := by decide +kernel
theorem dX1_put_32 : decode cX1_put 32 = .ok (.return_, 1) := by decide +kernel
abbrev rm_X1_put : Room := { frames := 0, cells := 0, slots := 0, locals := 0 }
noncomputable def f_X1_put_b13 (N : Nat) (a0 : Nat) (x3 : Int64) (s0 : Nat) (s1 : Int64) (σ : ZS) : Option (Unit × ZS) := ck (isc s0 1) (bd (sJ σ s0 0 s1) fun σ3 => (if x3 < (0 : Int64) then bd (-x3) fun v7 => ck (isc a0 1) (bd (sJ σ3 a0 1 v7) fun σ9 => some ((), σ9)) else ck (isc a0 1) (bd (sJ σ3 a0 1 x3) fun σ6 => some ((), σ6))))
noncomputable def f_X1_put (N : Nat) (a0 : Nat) (x1 : Int64) (x3 : Int64) (σ : ZS) : Option (Unit × ZS) := (if x3 < (0 : Int64) then f_X1_put_b13 N a0 x3 a0 (-x1) σ else f_X1_put_b13 N a0 x3 a0 x1 σ)
set_option maxHeartbeats 4000000 in
set_option maxRecDepth 100000 in
theorem k_X1_put_b13 {l : Launch} {Y : ZY} {G : ZG} {σ' : ZS} (h : zOk (l, rm_X1_put, 5, 0, 0) Y G cX1_put RX1 none) (hq : zRet (l, rm_X1_put, 5, 0, 0) Y G none σ') (N : Nat) (a0 : Nat) (x3 : Int64) (s0 : Nat) (s1 : Int64) (σ : ZS) (hf : f_X1_put_b13 N a0 x3 s0 s1 σ = some ((), σ')) : Z (l, rm_X1_put, 5, 0, 0) Y G σ [(0, .ref (G.1 a0)), (3, .long x3)] [.long s1, .ref (G.1 s0)] 13 := by
  rw [f_X1_put_b13] at hf
  obtain ⟨g2, hf⟩ := ck_out hf
  refine z_pfJ h zC1 (isc_tg g2) (isc_ln g2) 0 rfl ft_1_0 wd_521 rfl (ty := .long) (by decide +kernel) rfl rfl dX1_put_13 ?_
  refine z_gen (fun σ3 eσ3 => ?_)
  have hf := bd_to eσ3 hf
  refine z_aload_n h dX1_put_16 rfl 0 rfl ?_
  refine z_lload_n h dX1_put_17 rfl 1 rfl ?_
  refine z_lconst h (v := (0 : Int64)) dX1_put_18 lc_0 ?_
  refine z_lif_ge h (tgt := 28) dX1_put_19 dX1_put_20 (by decide) (fun g4 => ?_) (fun g4 => ?_)
  · have hf := it_neg g4 hf
    refine z_lload_n h dX1_put_28 rfl 1 rfl ?_
    obtain ⟨g5, hf⟩ := ck_out hf
    refine z_pfJ h zC1 (isc_tg g5) (isc_ln g5) 1 rfl ft_1_1 wd_82 rfl (ty := .long) (by decide +kernel) rfl rfl dX1_put_29 ?_
    refine z_gen (fun σ6 eσ6 => ?_)
    have hf := bd_to eσ6 hf
    exact z_vret h (rt_V hf hq) dX1_put_32
  · have hf := it_pos g4 hf
    refine z_lload_n h dX1_put_23 rfl 1 rfl ?_
    refine z_lneg h dX1_put_24 ?_
    refine z_goto h (tgt := 29) dX1_put_25 (by decide) ?_
    refine z_topJ (fun v7 ev7 => ?_)
    have hf := bd_to ev7 hf
    obtain ⟨g8, hf⟩ := ck_out hf
    refine z_pfJ h zC1 (isc_tg g8) (isc_ln g8) 1 rfl ft_1_1 wd_82 rfl (ty := .long) (by decide +kernel) rfl rfl dX1_put_29 ?_
    refine z_gen (fun σ9 eσ9 => ?_)
    have hf := bd_to eσ9 hf
    exact z_vret h (rt_V hf hq) dX1_put_32
set_option maxHeartbeats 4000000 in
set_option maxRecDepth 100000 in
theorem c_X1_put (l : Launch) (G : ZG) {N : Nat} {a0 : Nat} {x1 : Int64} {x3 : Int64} {σ σ' : ZS} {r : Unit} (hf : f_X1_put N a0 x1 x3 σ = some (r, σ')) : zMet l G yX1_put cX1_put 5 none rm_X1_put [.ref (G.1 a0), .long x1, .long x3] σ none σ' := by
  refine z_met (by decide +kernel) rfl (fun Y h hq => ?_)
  have h : zOk (l, rm_X1_put, 5, 0, 0) Y G cX1_put RX1 none := h
  rw [f_X1_put] at hf
  refine z_sub (lv' := [(0, .ref (G.1 a0)), (1, .long x1), (3, .long x3)]) [0, 1, 2] rfl ?_
  refine z_aload_n h dX1_put_0 rfl 0 rfl ?_
  refine z_lload_n h dX1_put_1 rfl 2 rfl ?_
  refine z_lconst h (v := (0 : Int64)) dX1_put_2 lc_0 ?_
  refine z_lif_ge h (tgt := 12) dX1_put_3 dX1_put_4 (by decide) (fun g1 => ?_) (fun g1 => ?_)
  · have hf := it_neg g1 hf
    refine z_lload_n h dX1_put_12 rfl 1 rfl ?_
    exact z_sub [0, 2] rfl (k_X1_put_b13 h hq N a0 x3 a0 x1 _ hf)
  · have hf := it_pos g1 hf
    refine z_lload_n h dX1_put_7 rfl 1 rfl ?_
    refine z_lneg h dX1_put_8 ?_
    refine z_goto h (tgt := 13) dX1_put_9 (by decide) ?_
    exact z_sub [0, 2] rfl (k_X1_put_b13 h hq N a0 x3 a0 (-x1) _ hf)
theorem dX1_isBelow_0 : decode cX1_isBelow 0 = .ok (.aload_n 0, 1) := by decide +kernel
theorem dX1_isBelow_1 : decode cX1_isBelow 1 = .ok (.getfield 13, 3) := by decide +kernel
theorem dX1_isBelow_4 : decode cX1_isBelow 4 = .ok (.lstore_n 2, 1) := by decide +kernel
theorem dX1_isBelow_5 : decode cX1_isBelow 5 = .ok (.aload_n 0, 1) := by decide +kernel
theorem dX1_isBelow_6 : decode cX1_isBelow 6 = .ok (.getfield 7, 3) := by decide +kernel
theorem dX1_isBelow_9 : decode cX1_isBelow 9 = .ok (.lstore 4, 2) := by decide +kernel
theorem dX1_isBelow_11 : decode cX1_isBelow 11 = .ok (.aload_n 1, 1) := by decide +kernel
theorem dX1_isBelow_12 : decode cX1_isBelow 12 = .ok (.getfield 13, 3) := by decide +kernel
theorem dX1_isBelow_15 : decode cX1_isBelow 15 = .ok (.lstore 6, 2) := by decide +kernel
theorem dX1_isBelow_17 : decode cX1_isBelow 17 = .ok (.aload_n 1, 1) := by decide +kernel
theorem dX1_isBelow_18 : decode cX1_isBelow 18 = .ok (.getfield 7, 3) := by decide +kernel
theorem dX1_isBelow_21 : decode cX1_isBelow 21 = .ok (.lstore 8, 2) := by decide +kernel
theorem dX1_isBelow_23 : decode cX1_isBelow 23 = .ok (.iconst 0, 1) := by decide +kernel
theorem dX1_isBelow_24 : decode cX1_isBelow 24 = .ok (.istore 10, 2) := by decide +kernel
theorem dX1_isBelow_26 : decode cX1_isBelow 26 = .ok (.iload 10, 2) := by decide +kernel
theorem dX1_isBelow_28 : decode cX1_isBelow 28 = .ok (.sipush 200, 3) := by decide +kernel
theorem dX1_isBelow_31 : decode cX1_isBelow 31 = .ok (.if_icmp .ge 114, 3) := by decide +kernel
theorem dX1_isBelow_34 : decode cX1_isBelow 34 = .ok (.lload 4, 2) := by decide +kernel
theorem dX1_isBelow_36 : decode cX1_isBelow 36 = .ok (.lconst 0, 1) := by decide +kernel
theorem dX1_isBelow_37 : decode cX1_isBelow 37 = .ok (.lcmp, 1) := by decide +kernel
theorem dX1_isBelow_38 : decode cX1_isBelow 38 = .ok (.ifCond .le 107, 3) := by decide +kernel
theorem dX1_isBelow_41 : decode cX1_isBelow 41 = .ok (.lload 8, 2) := by decide +kernel
theorem dX1_isBelow_43 : decode cX1_isBelow 43 = .ok (.lconst 0, 1) := by decide +kernel
theorem dX1_isBelow_44 : decode cX1_isBelow 44 = .ok (.lcmp, 1) := by decide +kernel
theorem dX1_isBelow_45 : decode cX1_isBelow 45 = .ok (.ifCond .le 100, 3) := by decide +kernel
theorem dX1_isBelow_48 : decode cX1_isBelow 48 = .ok (.lload_n 2, 1) := by decide +kernel
theorem dX1_isBelow_49 : decode cX1_isBelow 49 = .ok (.lload 4, 2) := by decide +kernel
theorem dX1_isBelow_51 : decode cX1_isBelow 51 = .ok (.invokestatic 25, 3) := by decide +kernel
theorem dX1_isBelow_54 : decode cX1_isBelow 54 = .ok (.lstore 11, 2) := by decide +kernel
theorem dX1_isBelow_56 : decode cX1_isBelow 56 = .ok (.lload 6, 2) := by decide +kernel
theorem dX1_isBelow_58 : decode cX1_isBelow 58 = .ok (.lload 8, 2) := by decide +kernel
theorem dX1_isBelow_60 : decode cX1_isBelow 60 = .ok (.invokestatic 25, 3) := by decide +kernel
theorem dX1_isBelow_63 : decode cX1_isBelow 63 = .ok (.lstore 13, 2) := by decide +kernel
theorem dX1_isBelow_65 : decode cX1_isBelow 65 = .ok (.lload 11, 2) := by decide +kernel
theorem dX1_isBelow_67 : decode cX1_isBelow 67 = .ok (.lload 13, 2) := by decide +kernel
theorem dX1_isBelow_69 : decode cX1_isBelow 69 = .ok (.lcmp, 1) := by decide +kernel
theorem dX1_isBelow_70 : decode cX1_isBelow 70 = .ok (.ifCond .eq 17, 3) := by decide +kernel
theorem dX1_isBelow_73 : decode cX1_isBelow 73 = .ok (.lload 11, 2) := by decide +kernel
theorem dX1_isBelow_75 : decode cX1_isBelow 75 = .ok (.lload 13, 2) := by decide +kernel
theorem dX1_isBelow_77 : decode cX1_isBelow 77 = .ok (.lcmp, 1) := by decide +kernel
theorem dX1_isBelow_78 : decode cX1_isBelow 78 = .ok (.ifCond .ge 7, 3) := by decide +kernel
theorem dX1_isBelow_81 : decode cX1_isBelow 81 = .ok (.iconst 1, 1) := by decide +kernel
theorem dX1_isBelow_82 : decode cX1_isBelow 82 = .ok (.goto 4, 3) := by decide +kernel
theorem dX1_isBelow_85 : decode cX1_isBelow 85 = .ok (.iconst 0, 1) := by decide +kernel
theorem dX1_isBelow_86 : decode cX1_isBelow 86 = .ok (.ireturn, 1) := by decide +kernel
theorem dX1_isBelow_87 : decode cX1_isBelow 87 = .ok (.lload_n 2, 1) := by decide +kernel
theorem dX1_isBelow_88 : decode cX1_isBelow 88 = .ok (.lload 11, 2) := by decide +kernel
theorem dX1_isBelow_90 : decode cX1_isBelow 90 = .ok (.lload 4, 2) := by decide +kernel
theorem dX1_isBelow_92 : decode cX1_isBelow 92 = .ok (.lmul, 1) := by decide +kernel
theorem dX1_isBelow_93 : decode cX1_isBelow 93 = .ok (.lsub, 1) := by decide +kernel
theorem dX1_isBelow_94 : decode cX1_isBelow 94 = .ok (.lstore 15, 2) := by decide +kernel
theorem dX1_isBelow_96 : decode cX1_isBelow 96 = .ok (.lload 6, 2) := by decide +kernel
theorem dX1_isBelow_98 : decode cX1_isBelow 98 = .ok (.lload 13, 2) := by decide +kernel
theorem dX1_isBelow_100 : decode cX1_isBelow 100 = .ok (.lload 8, 2) := by decide +kernel
theorem dX1_isBelow_102 : decode cX1_isBelow 102 = .ok (.lmul, 1) := by decide +kernel
theorem dX1_isBelow_103 : decode cX1_isBelow 103 = .ok (.lsub, 1) := by decide +kernel
theorem dX1_isBelow_104 : decode cX1_isBelow 104 = .ok (.lstore 17, 2) := by decide +kernel
theorem dX1_isBelow_106 : decode cX1_isBelow 106 = .ok (.lload 17, 2) := by decide +kernel
theorem dX1_isBelow_108 : decode cX1_isBelow 108 = .ok (.lconst 0, 1) := by decide +kernel
theorem dX1_isBelow_109 : decode cX1_isBelow 109 = .ok (.lcmp, 1) := by decide +kernel
theorem dX1_isBelow_110 : decode cX1_isBelow 110 = .ok (.ifCond .ne 5, 3) := by decide +kernel
theorem dX1_isBelow_113 : decode cX1_isBelow 113 = .ok (.iconst 0, 1) := by decide +kernel
theorem dX1_isBelow_114 : decode cX1_isBelow 114 = .ok (.ireturn, 1) := by decide +kernel
theorem dX1_isBelow_115 : decode cX1_isBelow 115 = .ok (.lload 15, 2) := by decide +kernel
theorem dX1_isBelow_117 : decode cX1_isBelow 117 = .ok (.lconst 0, 1) := by decide +kernel
theorem dX1_isBelow_118 : decode cX1_isBelow 118 = .ok (.lcmp, 1) := by decide +kernel
theorem dX1_isBelow_119 : decode cX1_isBelow 119 = .ok (.ifCond .ne 5, 3) := by decide +kernel
theorem dX1_isBelow_122 : decode cX1_isBelow 122 = .ok (.iconst 1, 1) := by decide +kernel
theorem dX1_isBelow_123 : decode cX1_isBelow 123 = .ok (.ireturn, 1) := by decide +kernel
theorem dX1_isBelow_124 : decode cX1_isBelow 124 = .ok (.lload 8, 2) := by decide +kernel
theorem dX1_isBelow_126 : decode cX1_isBelow 126 = .ok (.lstore_n 2, 1) := by decide +kernel
theorem dX1_isBelow_127 : decode cX1_isBelow 127 = .ok (.lload 4, 2) := by decide +kernel
theorem dX1_isBelow_129 : decode cX1_isBelow 129 = .ok (.lstore 6, 2) := by decide +kernel
theorem dX1_isBelow_131 : decode cX1_isBelow 131 = .ok (.lload 17, 2) := by decide +kernel
theorem dX1_isBelow_133 : decode cX1_isBelow 133 = .ok (.lstore 4, 2) := by decide +kernel
theorem dX1_isBelow_135 : decode cX1_isBelow 135 = .ok (.lload 15, 2) := by decide +kernel
theorem dX1_isBelow_137 : decode cX1_isBelow 137 = .ok (.lstore 8, 2) := by decide +kernel
theorem dX1_isBelow_139 : decode cX1_isBelow 139 = .ok (.iinc 10 1, 3) := by decide +kernel
theorem dX1_isBelow_142 : decode cX1_isBelow 142 = .ok (.goto (-116), 3) := by decide +kernel
theorem dX1_isBelow_145 : decode cX1_isBelow 145 = .ok (.iconst 0, 1) := by decide +kernel
theorem dX1_isBelow_146 : decode cX1_isBelow 146 = .ok (.ireturn, 1) := by decide +kernel
abbrev rm_X1_isBelow : Room := { frames := 1, cells := 0, slots := 0, locals := 33 }
noncomputable def f_X1_isBelow_h26 (N : Nat) : Nat → Int64 → Int64 → Int64 → Int64 → Int32 → ZS → Option (Int32 × ZS)
  | 0, _, _, _, _, _, _ => none
  | n + 1, x2, x4, x6, x8, x10, σ => (if (200 : Int32) ≤ x10 then some ((0 : Int32), σ) else (if (0 : Int64) < x4 then (if (0 : Int64) < x8 then obd (f_J9_floorDiv_f86c9 N x2 x4 σ) fun v12 σ13 => obd (f_J9_floorDiv_f86c9 N x6 x8 σ13) fun v14 σ15 => (if v12 = v14 then bd (x2 - (v12 * x4)) fun v17 => bd (x6 - (v14 * x8)) fun v18 => (if v18 = (0 : Int64) then some ((0 : Int32), σ15) else (if v17 = (0 : Int64) then some ((1 : Int32), σ15) else bd (x10 + (1 : Int32)) fun v21 => f_X1_isBelow_h26 N n x8 v18 x4 v17 v21 σ15)) else (if v12 < v14 then some ((1 : Int32), σ15) else some ((0 : Int32), σ15))) else some ((0 : Int32), σ)) else some ((0 : Int32), σ)))
noncomputable def f_X1_isBelow (N : Nat) (a0 : Nat) (a1 : Nat) (σ : ZS) : Option (Int32 × ZS) := ck (isc a0 1) (bd (gJ σ a0 0) fun v2 => ck (isc a0 1) (bd (gJ σ a0 1) fun v4 => ck (isc a1 1) (bd (gJ σ a1 0) fun v6 => ck (isc a1 1) (bd (gJ σ a1 1) fun v8 => f_X1_isBelow_h26 N N v2 v4 v6 v8 (0 : Int32) σ))))
set_option maxHeartbeats 4000000 in
set_option maxRecDepth 100000 in
theorem k_X1_isBelow_h26 {l : Launch} {Y : ZY} {G : ZG} {r : Int32} {σ' : ZS} (h : zOk (l, rm_X1_isBelow, 19, 0, 0) Y G cX1_isBelow RX1 (some .boolean)) (hq : zRet (l, rm_X1_isBelow, 19, 0, 0) Y G (some (.int r)) σ') (N : Nat) : ∀ (n : Nat) (x2 : Int64) (x4 : Int64) (x6 : Int64) (x8 : Int64) (x10 : Int32) (σ : ZS), f_X1_isBelow_h26 N n x2 x4 x6 x8 x10 σ = some (r, σ') → Z (l, rm_X1_isBelow, 19, 0, 0) Y G σ [(2, .long x2), (4, .long x4), (6, .long x6), (8, .long x8), (10, .int x10)] [] 26 := by
  intro n
  induction n with
  | zero =>
    intro x2 x4 x6 x8 x10 σ hf
    rw [f_X1_isBelow_h26] at hf
    cases hf
  | succ n ih =>
    intro x2 x4 x6 x8 x10 σ hf
    rw [f_X1_isBelow_h26] at hf
    refine z_iload h dX1_isBelow_26 4 rfl ?_
    refine z_sipush h (v := (200 : Int32)) dX1_isBelow_28 sp_200 ?_
    refine z_icmp_ge h (tgt := 145) dX1_isBelow_31 (by decide) (fun g9 => ?_) (fun g9 => ?_)
    · have hf := it_pos g9 hf
      refine z_iconst h (v := (0 : Int32)) dX1_isBelow_145 ic_0 ?_
      exact z_zret h rfl (rt_I hf hq) dX1_isBelow_146
    · have hf := it_neg g9 hf
      refine z_lload h dX1_isBelow_34 1 rfl ?_
      refine z_lconst h (v := (0 : Int64)) dX1_isBelow_36 lc_0 ?_
      refine z_lif_le h (tgt := 145) dX1_isBelow_37 dX1_isBelow_38 (by decide) (fun g10 => ?_) (fun g10 => ?_)
      · have hf := it_neg g10 hf
        refine z_iconst h (v := (0 : Int32)) dX1_isBelow_145 ic_0 ?_
        exact z_zret h rfl (rt_I hf hq) dX1_isBelow_146
      · have hf := it_pos g10 hf
        refine z_lload h dX1_isBelow_41 3 rfl ?_
        refine z_lconst h (v := (0 : Int64)) dX1_isBelow_43 lc_0 ?_
        refine z_lif_le h (tgt := 145) dX1_isBelow_44 dX1_isBelow_45 (by decide) (fun g11 => ?_) (fun g11 => ?_)
        · have hf := it_neg g11 hf
          refine z_iconst h (v := (0 : Int32)) dX1_isBelow_145 ic_0 ?_
          exact z_zret h rfl (rt_I hf hq) dX1_isBelow_146
        · have hf := it_pos g11 hf
          refine z_lload_n h dX1_isBelow_48 rfl 0 rfl ?_
          refine z_lload h dX1_isBelow_49 1 rfl ?_
          obtain ⟨v12, σ13, e13, hf⟩ := obd_out hf
          refine z_cSv h (n := 2) (c_J9_floorDiv_f86c9 l G e13) rfl wd_601 wd_602 wd_603 wd_604 (by decide +kernel) ⟨rfl, rfl⟩ rfl rfl rfl dX1_isBelow_51 ⟨Nat.zero_le _, Nat.zero_le _⟩ ?_
          refine z_lstore h dX1_isBelow_54 (lv' := [(11, .long v12), (2, .long x2), (4, .long x4), (6, .long x6), (8, .long x8), (10, .int x10)]) rfl rfl ?_
          refine z_lload h dX1_isBelow_56 3 rfl ?_
          refine z_lload h dX1_isBelow_58 4 rfl ?_
          obtain ⟨v14, σ15, e15, hf⟩ := obd_out hf
          refine z_cSv h (n := 2) (c_J9_floorDiv_f86c9 l G e15) rfl wd_601 wd_602 wd_603 wd_604 (by decide +kernel) ⟨rfl, rfl⟩ rfl rfl rfl dX1_isBelow_60 ⟨Nat.zero_le _, Nat.zero_le _⟩ ?_
          refine z_lstore h dX1_isBelow_63 (lv' := [(13, .long v14), (11, .long v12), (2, .long x2), (4, .long x4), (6, .long x6), (8, .long x8), (10, .int x10)]) rfl rfl ?_
          refine z_lload h dX1_isBelow_65 1 rfl ?_
          refine z_lload h dX1_isBelow_67 0 rfl ?_
          refine z_lif_eq h (tgt := 87) dX1_isBelow_69 dX1_isBelow_70 (by decide) (fun g16 => ?_) (fun g16 => ?_)
          · have hf := it_pos g16 hf
            refine z_lload_n h dX1_isBelow_87 rfl 2 rfl ?_
            refine z_lload h dX1_isBelow_88 1 rfl ?_
            refine z_lload h dX1_isBelow_90 3 rfl ?_
            refine z_lmul h dX1_isBelow_92 ?_
            refine z_lsub h dX1_isBelow_93 ?_
            refine z_topJ (fun v17 ev17 => ?_)
            have hf := bd_to ev17 hf
            refine z_lstore h dX1_isBelow_94 (lv' := [(15, .long v17), (13, .long v14), (11, .long v12), (2, .long x2), (4, .long x4), (6, .long x6), (8, .long x8), (10, .int x10)]) rfl rfl ?_
            refine z_lload h dX1_isBelow_96 5 rfl ?_
            refine z_lload h dX1_isBelow_98 1 rfl ?_
            refine z_lload h dX1_isBelow_100 6 rfl ?_
            refine z_lmul h dX1_isBelow_102 ?_
            refine z_lsub h dX1_isBelow_103 ?_
            refine z_topJ (fun v18 ev18 => ?_)
            have hf := bd_to ev18 hf
            refine z_lstore h dX1_isBelow_104 (lv' := [(17, .long v18), (15, .long v17), (13, .long v14), (11, .long v12), (2, .long x2), (4, .long x4), (6, .long x6), (8, .long x8), (10, .int x10)]) rfl rfl ?_
            refine z_lload h dX1_isBelow_106 0 rfl ?_
            refine z_lconst h (v := (0 : Int64)) dX1_isBelow_108 lc_0 ?_
            refine z_lif_ne h (tgt := 115) dX1_isBelow_109 dX1_isBelow_110 (by decide) (fun g19 => ?_) (fun g19 => ?_)
            · have hf := it_neg g19 hf
              refine z_lload h dX1_isBelow_115 1 rfl ?_
              refine z_lconst h (v := (0 : Int64)) dX1_isBelow_117 lc_0 ?_
              refine z_lif_ne h (tgt := 124) dX1_isBelow_118 dX1_isBelow_119 (by decide) (fun g20 => ?_) (fun g20 => ?_)
              · have hf := it_neg g20 hf
                refine z_lload h dX1_isBelow_124 7 rfl ?_
                refine z_lstore_n h dX1_isBelow_126 rfl (lv' := [(2, .long x8), (17, .long v18), (15, .long v17), (13, .long v14), (11, .long v12), (4, .long x4), (6, .long x6), (8, .long x8), (10, .int x10)]) rfl rfl ?_
                refine z_lload h dX1_isBelow_127 5 rfl ?_
                refine z_lstore h dX1_isBelow_129 (lv' := [(6, .long x4), (2, .long x8), (17, .long v18), (15, .long v17), (13, .long v14), (11, .long v12), (4, .long x4), (8, .long x8), (10, .int x10)]) rfl rfl ?_
                refine z_lload h dX1_isBelow_131 2 rfl ?_
                refine z_lstore h dX1_isBelow_133 (lv' := [(4, .long v18), (6, .long x4), (2, .long x8), (17, .long v18), (15, .long v17), (13, .long v14), (11, .long v12), (8, .long x8), (10, .int x10)]) rfl rfl ?_
                refine z_lload h dX1_isBelow_135 4 rfl ?_
                refine z_lstore h dX1_isBelow_137 (lv' := [(8, .long v17), (4, .long v18), (6, .long x4), (2, .long x8), (17, .long v18), (15, .long v17), (13, .long v14), (11, .long v12), (10, .int x10)]) rfl rfl ?_
                obtain ⟨v21, ev21, hf⟩ := bd_ex hf
                refine z_iinc h (v := v21) (lv' := [(10, .int v21), (8, .long v17), (4, .long v18), (6, .long x4), (2, .long x8), (17, .long v18), (15, .long v17), (13, .long v14), (11, .long v12)]) dX1_isBelow_139 8 rfl (by rw [ev21]; rfl) rfl rfl ?_
                refine z_goto h (tgt := 26) dX1_isBelow_142 (by decide) ?_
                exact z_sub [4, 2, 3, 1, 0] rfl (ih _ _ _ _ _ _ hf)
              · have hf := it_pos g20 hf
                refine z_iconst h (v := (1 : Int32)) dX1_isBelow_122 ic_1 ?_
                exact z_zret h rfl (rt_I hf hq) dX1_isBelow_123
            · have hf := it_pos g19 hf
              refine z_iconst h (v := (0 : Int32)) dX1_isBelow_113 ic_0 ?_
              exact z_zret h rfl (rt_I hf hq) dX1_isBelow_114
          · have hf := it_neg g16 hf
            refine z_lload h dX1_isBelow_73 1 rfl ?_
            refine z_lload h dX1_isBelow_75 0 rfl ?_
            refine z_lif_ge h (tgt := 85) dX1_isBelow_77 dX1_isBelow_78 (by decide) (fun g22 => ?_) (fun g22 => ?_)
            · have hf := it_neg g22 hf
              refine z_iconst h (v := (0 : Int32)) dX1_isBelow_85 ic_0 ?_
              exact z_zret h rfl (rt_I hf hq) dX1_isBelow_86
            · have hf := it_pos g22 hf
              refine z_iconst h (v := (1 : Int32)) dX1_isBelow_81 ic_1 ?_
              refine z_goto h (tgt := 86) dX1_isBelow_82 (by decide) ?_
              exact z_zret h rfl (rt_I hf hq) dX1_isBelow_86
set_option maxHeartbeats 4000000 in
set_option maxRecDepth 100000 in
theorem c_X1_isBelow (l : Launch) (G : ZG) {N : Nat} {a0 : Nat} {a1 : Nat} {σ σ' : ZS} {r : Int32} (hf : f_X1_isBelow N a0 a1 σ = some (r, σ')) : zMet l G yX1_isBelow cX1_isBelow 19 (some .boolean) rm_X1_isBelow [.ref (G.1 a0), .ref (G.1 a1)] σ (some (.int r)) σ' := by
  refine z_met (by decide +kernel) rfl (fun Y h hq => ?_)
  have h : zOk (l, rm_X1_isBelow, 19, 0, 0) Y G cX1_isBelow RX1 (some .boolean) := h
  rw [f_X1_isBelow] at hf
  refine z_sub (lv' := [(0, .ref (G.1 a0)), (1, .ref (G.1 a1))]) [0, 1] rfl ?_
  refine z_aload_n h dX1_isBelow_0 rfl 0 rfl ?_
  obtain ⟨g1, hf⟩ := ck_out hf
  refine z_gfJ h zC1 (isc_tg g1) (isc_ln g1) 0 rfl ft_1_0 wd_521 dX1_isBelow_1 ?_
  refine z_topJ (fun v2 ev2 => ?_)
  have hf := bd_to ev2 hf
  refine z_lstore_n h dX1_isBelow_4 rfl (lv' := [(2, .long v2), (0, .ref (G.1 a0)), (1, .ref (G.1 a1))]) rfl rfl ?_
  refine z_aload_n h dX1_isBelow_5 rfl 1 rfl ?_
  obtain ⟨g3, hf⟩ := ck_out hf
  refine z_gfJ h zC1 (isc_tg g3) (isc_ln g3) 1 rfl ft_1_1 wd_82 dX1_isBelow_6 ?_
  refine z_topJ (fun v4 ev4 => ?_)
  have hf := bd_to ev4 hf
  refine z_lstore h dX1_isBelow_9 (lv' := [(4, .long v4), (2, .long v2), (0, .ref (G.1 a0)), (1, .ref (G.1 a1))]) rfl rfl ?_
  refine z_aload_n h dX1_isBelow_11 rfl 3 rfl ?_
  obtain ⟨g5, hf⟩ := ck_out hf
  refine z_gfJ h zC1 (isc_tg g5) (isc_ln g5) 0 rfl ft_1_0 wd_521 dX1_isBelow_12 ?_
  refine z_topJ (fun v6 ev6 => ?_)
  have hf := bd_to ev6 hf
  refine z_lstore h dX1_isBelow_15 (lv' := [(6, .long v6), (4, .long v4), (2, .long v2), (0, .ref (G.1 a0)), (1, .ref (G.1 a1))]) rfl rfl ?_
  refine z_aload_n h dX1_isBelow_17 rfl 4 rfl ?_
  obtain ⟨g7, hf⟩ := ck_out hf
  refine z_gfJ h zC1 (isc_tg g7) (isc_ln g7) 1 rfl ft_1_1 wd_82 dX1_isBelow_18 ?_
  refine z_topJ (fun v8 ev8 => ?_)
  have hf := bd_to ev8 hf
  refine z_lstore h dX1_isBelow_21 (lv' := [(8, .long v8), (6, .long v6), (4, .long v4), (2, .long v2), (0, .ref (G.1 a0)), (1, .ref (G.1 a1))]) rfl rfl ?_
  refine z_iconst h (v := (0 : Int32)) dX1_isBelow_23 ic_0 ?_
  refine z_istore h dX1_isBelow_24 (lv' := [(10, .int (0 : Int32)), (8, .long v8), (6, .long v6), (4, .long v4), (2, .long v2), (0, .ref (G.1 a0)), (1, .ref (G.1 a1))]) rfl rfl ?_
  exact z_sub [4, 3, 2, 1, 0] rfl (k_X1_isBelow_h26 h hq N _ _ _ _ _ _ _ hf)
theorem dX1_copyFrom_0 : decode cX1_copyFrom 0 = .ok (.aload_n 0, 1) := by decide +kernel
theorem dX1_copyFrom_1 : decode cX1_copyFrom 1 = .ok (.aload_n 1, 1) := by decide +kernel
theorem dX1_copyFrom_2 : decode cX1_copyFrom 2 = .ok (.getfield 13, 3) := by decide +kernel
theorem dX1_copyFrom_5 : decode cX1_copyFrom 5 = .ok (.putfield 13, 3) := by decide +kernel
theorem dX1_copyFrom_8 : decode cX1_copyFrom 8 = .ok (.aload_n 0, 1) := by decide +kernel
theorem dX1_copyFrom_9 : decode cX1_copyFrom 9 = .ok (.aload_n 1, 1) := by decide +kernel
theorem dX1_copyFrom_10 : decode cX1_copyFrom 10 = .ok (.getfield 7, 3) := by decide +kernel
theorem dX1_copyFrom_13 : decode cX1_copyFrom 13 = .ok (.putfield 7, 3) := by decide +kernel
theorem dX1_copyFrom_16 : decode cX1_copyFrom 16 = .ok (.return_, 1) := by decide +kernel
abbrev rm_X1_copyFrom : Room := { frames := 0, cells := 0, slots := 0, locals := 0 }
noncomputable def f_X1_copyFrom (N : Nat) (a0 : Nat) (a1 : Nat) (σ : ZS) : Option (Unit × ZS) := ck (isc a1 1) (bd (gJ σ a1 0) fun v2 => ck (isc a0 1) (bd (sJ σ a0 0 v2) fun σ4 => ck (isc a1 1) (bd (gJ σ4 a1 1) fun v6 => ck (isc a0 1) (bd (sJ σ4 a0 1 v6) fun σ8 => some ((), σ8)))))
set_option maxHeartbeats 4000000 in
set_option maxRecDepth 100000 in
theorem c_X1_copyFrom (l : Launch) (G : ZG) {N : Nat} {a0 : Nat} {a1 : Nat} {σ σ' : ZS} {r : Unit} (hf : f_X1_copyFrom N a0 a1 σ = some (r, σ')) : zMet l G yX1_copyFrom cX1_copyFrom 2 none rm_X1_copyFrom [.ref (G.1 a0), .ref (G.1 a1)] σ none σ' := by
  refine z_met (by decide +kernel) rfl (fun Y h hq => ?_)
  have h : zOk (l, rm_X1_copyFrom, 2, 0, 0) Y G cX1_copyFrom RX1 none := h
  rw [f_X1_copyFrom] at hf
  refine z_sub (lv' := [(0, .ref (G.1 a0)), (1, .ref (G.1 a1))]) [0, 1] rfl ?_
  refine z_aload_n h dX1_copyFrom_0 rfl 0 rfl ?_
  refine z_aload_n h dX1_copyFrom_1 rfl 1 rfl ?_
  obtain ⟨g1, hf⟩ := ck_out hf
  refine z_gfJ h zC1 (isc_tg g1) (isc_ln g1) 0 rfl ft_1_0 wd_521 dX1_copyFrom_2 ?_
  refine z_topJ (fun v2 ev2 => ?_)
  have hf := bd_to ev2 hf
  obtain ⟨g3, hf⟩ := ck_out hf
  refine z_pfJ h zC1 (isc_tg g3) (isc_ln g3) 0 rfl ft_1_0 wd_521 rfl (ty := .long) (by decide +kernel) rfl rfl dX1_copyFrom_5 ?_
  refine z_gen (fun σ4 eσ4 => ?_)
  have hf := bd_to eσ4 hf
  refine z_aload_n h dX1_copyFrom_8 rfl 0 rfl ?_
  refine z_aload_n h dX1_copyFrom_9 rfl 1 rfl ?_
  obtain ⟨g5, hf⟩ := ck_out hf
  refine z_gfJ h zC1 (isc_tg g5) (isc_ln g5) 1 rfl ft_1_1 wd_82 dX1_copyFrom_10 ?_
  refine z_topJ (fun v6 ev6 => ?_)
  have hf := bd_to ev6 hf
  obtain ⟨g7, hf⟩ := ck_out hf
  refine z_pfJ h zC1 (isc_tg g7) (isc_ln g7) 1 rfl ft_1_1 wd_82 rfl (ty := .long) (by decide +kernel) rfl rfl dX1_copyFrom_13 ?_
  refine z_gen (fun σ8 eσ8 => ?_)
  have hf := bd_to eσ8 hf
  exact z_vret h (rt_V hf hq) dX1_copyFrom_16
theorem dX1_isWhole_0 : decode cX1_isWhole 0 = .ok (.aload_n 0, 1) := by decide +kernel
theorem dX1_isWhole_1 : decode cX1_isWhole 1 = .ok (.getfield 13, 3) := by decide +kernel
theorem dX1_isWhole_4 : decode cX1_isWhole 4 = .ok (.iload_n 1, 1) := by decide +kernel
theorem dX1_isWhole_5 : decode cX1_isWhole 5 = .ok (.i2l, 1) := by decide +kernel
theorem dX1_isWhole_6 : decode cX1_isWhole 6 = .ok (.aload_n 0, 1) := by decide +kernel
theorem dX1_isWhole_7 : decode cX1_isWhole 7 = .ok (.getfield 7, 3) := by decide +kernel
theorem dX1_isWhole_10 : decode cX1_isWhole 10 = .ok (.lmul, 1) := by decide +kernel
theorem dX1_isWhole_11 : decode cX1_isWhole 11 = .ok (.lcmp, 1) := by decide +kernel
theorem dX1_isWhole_12 : decode cX1_isWhole 12 = .ok (.ifCond .ne 7, 3) := by decide +kernel
theorem dX1_isWhole_15 : decode cX1_isWhole 15 = .ok (.iconst 1, 1) := by decide +kernel
theorem dX1_isWhole_16 : decode cX1_isWhole 16 = .ok (.goto 4, 3) := by decide +kernel
theorem dX1_isWhole_19 : decode cX1_isWhole 19 = .ok (.iconst 0, 1) := by decide +kernel
theorem dX1_isWhole_20 : decode cX1_isWhole 20 = .ok (.ireturn, 1) := by decide +kernel
abbrev rm_X1_isWhole : Room := { frames := 0, cells := 0, slots := 0, locals := 0 }
noncomputable def f_X1_isWhole (N : Nat) (a0 : Nat) (x1 : Int32) (σ : ZS) : Option (Int32 × ZS) := ck (isc a0 1) (ck (isc a0 1) ((if (gJ σ a0 0) = ((x1.toInt64) * (gJ σ a0 1)) then some ((1 : Int32), σ) else some ((0 : Int32), σ))))
set_option maxHeartbeats 4000000 in
set_option maxRecDepth 100000 in
theorem c_X1_isWhole (l : Launch) (G : ZG) {N : Nat} {a0 : Nat} {x1 : Int32} {σ σ' : ZS} {r : Int32} (hf : f_X1_isWhole N a0 x1 σ = some (r, σ')) : zMet l G yX1_isWhole cX1_isWhole 2 (some .boolean) rm_X1_isWhole [.ref (G.1 a0), .int x1] σ (some (.int r)) σ' := by
  refine z_met (by decide +kernel) rfl (fun Y h hq => ?_)
  have h : zOk (l, rm_X1_isWhole, 2, 0, 0) Y G cX1_isWhole RX1 (some .boolean) := h
  rw [f_X1_isWhole] at hf
  refine z_sub (lv' := [(0, .ref (G.1 a0)), (1, .int x1)]) [0, 1] rfl ?_
  refine z_aload_n h dX1_isWhole_0 rfl 0 rfl ?_
  obtain ⟨g1, hf⟩ := ck_out hf
  refine z_gfJ h zC1 (isc_tg g1) (isc_ln g1) 0 rfl ft_1_0 wd_521 dX1_isWhole_1 ?_
  refine z_iload_n h dX1_isWhole_4 rfl 1 rfl ?_
  refine z_i2l h dX1_isWhole_5 ?_
  refine z_aload_n h dX1_isWhole_6 rfl 0 rfl ?_
  obtain ⟨g2, hf⟩ := ck_out hf
  refine z_gfJ h zC1 (isc_tg g2) (isc_ln g2) 1 rfl ft_1_1 wd_82 dX1_isWhole_7 ?_
  refine z_lmul h dX1_isWhole_10 ?_
  refine z_lif_ne h (tgt := 19) dX1_isWhole_11 dX1_isWhole_12 (by decide) (fun g3 => ?_) (fun g3 => ?_)
  · have hf := it_neg g3 hf
    refine z_iconst h (v := (0 : Int32)) dX1_isWhole_19 ic_0 ?_
    exact z_zret h rfl (rt_I hf hq) dX1_isWhole_20
  · have hf := it_pos g3 hf
    refine z_iconst h (v := (1 : Int32)) dX1_isWhole_15 ic_1 ?_
    refine z_goto h (tgt := 20) dX1_isWhole_16 (by decide) ?_
    exact z_zret h rfl (rt_I hf hq) dX1_isWhole_20
theorem dX1_isSame_0 : decode cX1_isSame 0 = .ok (.aload_n 0, 1) := by decide +kernel
theorem dX1_isSame_1 : decode cX1_isSame 1 = .ok (.aload_n 1, 1) := by decide +kernel
theorem dX1_isSame_2 : decode cX1_isSame 2 = .ok (.invokevirtual 30, 3) := by decide +kernel
theorem dX1_isSame_5 : decode cX1_isSame 5 = .ok (.ifCond .ne 15, 3) := by decide +kernel
theorem dX1_isSame_8 : decode cX1_isSame 8 = .ok (.aload_n 1, 1) := by decide +kernel
theorem dX1_isSame_9 : decode cX1_isSame 9 = .ok (.aload_n 0, 1) := by decide +kernel
theorem dX1_isSame_10 : decode cX1_isSame 10 = .ok (.invokevirtual 30, 3) := by decide +kernel
theorem dX1_isSame_13 : decode cX1_isSame 13 = .ok (.ifCond .ne 7, 3) := by decide +kernel
theorem dX1_isSame_16 : decode cX1_isSame 16 = .ok (.iconst 1, 1) := by decide +kernel
theorem dX1_isSame_17 : decode cX1_isSame 17 = .ok (.goto 4, 3) := by decide +kernel
theorem dX1_isSame_20 : decode cX1_isSame 20 = .ok (.iconst 0, 1) := by decide +kernel
theorem dX1_isSame_21 : decode cX1_isSame 21 = .ok (.ireturn, 1) := by decide +kernel
abbrev rm_X1_isSame : Room := { frames := 2, cells := 0, slots := 0, locals := 79 }
noncomputable def f_X1_isSame (N : Nat) (a0 : Nat) (a1 : Nat) (σ : ZS) : Option (Int32 × ZS) := ck (isc a0 1) (obd (f_X1_isBelow N a0 a1 σ) fun v2 σ3 => (if v2 = 0 then ck (isc a1 1) (obd (f_X1_isBelow N a1 a0 σ3) fun v6 σ7 => (if v6 = 0 then some ((1 : Int32), σ7) else some ((0 : Int32), σ7))) else some ((0 : Int32), σ3)))
set_option maxHeartbeats 4000000 in
set_option maxRecDepth 100000 in
theorem c_X1_isSame (l : Launch) (G : ZG) {N : Nat} {a0 : Nat} {a1 : Nat} {σ σ' : ZS} {r : Int32} (hf : f_X1_isSame N a0 a1 σ = some (r, σ')) : zMet l G yX1_isSame cX1_isSame 2 (some .boolean) rm_X1_isSame [.ref (G.1 a0), .ref (G.1 a1)] σ (some (.int r)) σ' := by
  refine z_met (by decide +kernel) rfl (fun Y h hq => ?_)
  have h : zOk (l, rm_X1_isSame, 2, 0, 0) Y G cX1_isSame RX1 (some .boolean) := h
  rw [f_X1_isSame] at hf
  refine z_sub (lv' := [(0, .ref (G.1 a0)), (1, .ref (G.1 a1))]) [0, 1] rfl ?_
  refine z_aload_n h dX1_isSame_0 rfl 0 rfl ?_
  refine z_aload_n h dX1_isSame_1 rfl 1 rfl ?_
  obtain ⟨g1, hf⟩ := ck_out hf
  obtain ⟨v2, σ3, e3, hf⟩ := obd_out hf
  refine z_cVv h (n := 1) (c_X1_isBelow l G e3) zC1 (isc_tg g1) (isc_ln g1) rfl rfl wd_834 wd_598 wd_599 wd_25 wd_600 (by decide +kernel) ⟨rfl, rfl⟩ rfl rfl rfl dX1_isSame_2 ⟨Nat.zero_le _, Nat.zero_le _⟩ ?_
  refine z_if_ne h (tgt := 20) dX1_isSame_5 (by decide) (fun g4 => ?_) (fun g4 => ?_)
  · have hf := it_neg g4 hf
    refine z_iconst h (v := (0 : Int32)) dX1_isSame_20 ic_0 ?_
    exact z_zret h rfl (rt_I hf hq) dX1_isSame_21
  · have hf := it_pos g4 hf
    refine z_aload_n h dX1_isSame_8 rfl 1 rfl ?_
    refine z_aload_n h dX1_isSame_9 rfl 0 rfl ?_
    obtain ⟨g5, hf⟩ := ck_out hf
    obtain ⟨v6, σ7, e7, hf⟩ := obd_out hf
    refine z_cVv h (n := 1) (c_X1_isBelow l G e7) zC1 (isc_tg g5) (isc_ln g5) rfl rfl wd_834 wd_598 wd_599 wd_25 wd_600 (by decide +kernel) ⟨rfl, rfl⟩ rfl rfl rfl dX1_isSame_10 ⟨Nat.zero_le _, Nat.zero_le _⟩ ?_
    refine z_if_ne h (tgt := 20) dX1_isSame_13 (by decide) (fun g8 => ?_) (fun g8 => ?_)
    · have hf := it_neg g8 hf
      refine z_iconst h (v := (0 : Int32)) dX1_isSame_20 ic_0 ?_
      exact z_zret h rfl (rt_I hf hq) dX1_isSame_21
    · have hf := it_pos g8 hf
      refine z_iconst h (v := (1 : Int32)) dX1_isSame_16 ic_1 ?_
      refine z_goto h (tgt := 21) dX1_isSame_17 (by decide) ?_
      exact z_zret h rfl (rt_I hf hq) dX1_isSame_21
theorem dX1_asFloat_0 : decode cX1_asFloat 0 = .ok (.aload_n 0, 1) := by decide +kernel
theorem dX1_asFloat_1 : decode cX1_asFloat 1 = .ok (.invokevirtual 22, 3) := by decide +kernel
theorem dX1_asFloat_4 : decode cX1_asFloat 4 = .ok (.aload_n 0, 1) := by decide +kernel
theorem dX1_asFloat_5 : decode cX1_asFloat 5 = .ok (.getfield 7, 3) := by decide +kernel
theorem dX1_asFloat_8 : decode cX1_asFloat 8 = .ok (.lconst 0, 1) := by decide +kernel
theorem dX1_asFloat_9 : decode cX1_asFloat 9 = .ok (.lcmp, 1) := by decide +kernel
theorem dX1_asFloat_10 : decode cX1_asFloat 10 = .ok (.ifCond .le 17, 3) := by decide +kernel
theorem dX1_asFloat_13 : decode cX1_asFloat 13 = .ok (.aload_n 0, 1) := by decide +kernel
theorem dX1_asFloat_14 : decode cX1_asFloat 14 = .ok (.getfield 13, 3) := by decide +kernel
theorem dX1_asFloat_17 : decode cX1_asFloat 17 = .ok (.l2f, 1) := by decide +kernel
theorem dX1_asFloat_18 : decode cX1_asFloat 18 = .ok (.aload_n 0, 1) := by decide +kernel
theorem dX1_asFloat_19 : decode cX1_asFloat 19 = .ok (.getfield 7, 3) := by decide +kernel
theorem dX1_asFloat_22 : decode cX1_asFloat 22 = .ok (.l2f, 1) := by decide +kernel
theorem dX1_asFloat_23 : decode cX1_asFloat 23 = .ok (.fdiv, 1) := by decide +kernel
theorem dX1_asFloat_24 : decode cX1_asFloat 24 = .ok (.goto 4, 3) := by decide +kernel
theorem dX1_asFloat_27 : decode cX1_asFloat 27 = .ok (.fconst 0, 1) := by decide +kernel
theorem dX1_asFloat_28 : decode cX1_asFloat 28 = .ok (.freturn, 1) := by decide +kernel
abbrev rm_X1_asFloat : Room := { frames := 3, cells := 0, slots := 0, locals := 97 }
noncomputable def f_X1_asFloat (N : Nat) (a0 : Nat) (σ : ZS) : Option (UInt32 × ZS) := ck (isc a0 1) (obd (f_X1_reduce N a0 σ) fun _ σ3 => ck (isc a0 1) ((if (0 : Int64) < (gJ σ3 a0 1) then ck (isc a0 1) (ck (isc a0 1) (ck (nn32 (FP.fdiv (FP.l2f (gJ σ3 a0 0)) (FP.l2f (gJ σ3 a0 1)))) (some (FP.fdiv (FP.l2f (gJ σ3 a0 0)) (FP.l2f (gJ σ3 a0 1)), σ3)))) else some (FP.fconst0, σ3))))
set_option maxHeartbeats 4000000 in
set_option maxRecDepth 100000 in
theorem c_X1_asFloat (l : Launch) (G : ZG) {N : Nat} {a0 : Nat} {σ σ' : ZS} {r : UInt32} (hf : f_X1_asFloat N a0 σ = some (r, σ')) : zMet l G yX1_asFloat cX1_asFloat 1 (some .float) rm_X1_asFloat [.ref (G.1 a0)] σ (some (.float r)) σ' := by
  refine z_met (by decide +kernel) rfl (fun Y h hq => ?_)
  have h : zOk (l, rm_X1_asFloat, 1, 0, 0) Y G cX1_asFloat RX1 (some .float) := h
  rw [f_X1_asFloat] at hf
  refine z_sub (lv' := [(0, .ref (G.1 a0))]) [0] rfl ?_
  refine z_aload_n h dX1_asFloat_0 rfl 0 rfl ?_
  obtain ⟨g1, hf⟩ := ck_out hf
  obtain ⟨v2, σ3, e3, hf⟩ := obd_out hf
  refine z_cV0 h (n := 0) (c_X1_reduce l G e3) zC1 (isc_tg g1) (isc_ln g1) rfl rfl wd_526 wd_527 wd_528 wd_25 wd_529 (by decide +kernel) ⟨rfl, rfl⟩ rfl rfl rfl dX1_asFloat_1 ⟨Nat.zero_le _, Nat.zero_le _⟩ ?_
  refine z_aload_n h dX1_asFloat_4 rfl 0 rfl ?_
  obtain ⟨g4, hf⟩ := ck_out hf
  refine z_gfJ h zC1 (isc_tg g4) (isc_ln g4) 1 rfl ft_1_1 wd_82 dX1_asFloat_5 ?_
  refine z_lconst h (v := (0 : Int64)) dX1_asFloat_8 lc_0 ?_
  refine z_lif_le h (tgt := 27) dX1_asFloat_9 dX1_asFloat_10 (by decide) (fun g5 => ?_) (fun g5 => ?_)
  · have hf := it_neg g5 hf
    refine z_fconst0 h dX1_asFloat_27 ?_
    exact z_fret h (rt_F hf hq) dX1_asFloat_28
  · have hf := it_pos g5 hf
    refine z_aload_n h dX1_asFloat_13 rfl 0 rfl ?_
    obtain ⟨g6, hf⟩ := ck_out hf
    refine z_gfJ h zC1 (isc_tg g6) (isc_ln g6) 0 rfl ft_1_0 wd_521 dX1_asFloat_14 ?_
    refine z_l2f h dX1_asFloat_17 ?_
    refine z_aload_n h dX1_asFloat_18 rfl 0 rfl ?_
    obtain ⟨g7, hf⟩ := ck_out hf
    refine z_gfJ h zC1 (isc_tg g7) (isc_ln g7) 1 rfl ft_1_1 wd_82 dX1_asFloat_19 ?_
    refine z_l2f h dX1_asFloat_22 ?_
    obtain ⟨g8, hf⟩ := ck_out hf
    refine z_fdiv h dX1_asFloat_23 g8 ?_
    refine z_goto h (tgt := 28) dX1_asFloat_24 (by decide) ?_
    exact z_fret h (rt_F hf hq) dX1_asFloat_28
