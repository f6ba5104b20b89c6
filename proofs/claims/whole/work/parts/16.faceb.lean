theorem dX5_spare_0 : decode cX5_spare 0 = .ok (.aload_n 0, 1) := by decide +kernel
theorem dX5_spare_1 : decode cX5_spare 1 = .ok (.iload_n 2, 1) := by decide +kernel
theorem dX5_spare_2 : decode cX5_spare 2 = .ok (.invokevirtual 85, 3) := by decide +kernel
theorem dX5_spare_5 : decode cX5_spare 5 = .ok (.ifCond .ne 5, 3) := by decide +kernel
theorem dX5_spare_8 : decode cX5_spare 8 = .ok (.iconst (-1), 1) := by decide +kernel
theorem dX5_spare_9 : decode cX5_spare 9 = .ok (.ireturn, 1) := by decide +kernel
theorem dX5_spare_10 : decode cX5_spare 10 = .ok (.aload_n 0, 1) := by decide +kernel
theorem dX5_spare_11 : decode cX5_spare 11 = .ok (.invokevirtual 124, 3) := by decide +kernel
theorem dX5_spare_14 : decode cX5_spare 14 = .ok (.aload_n 0, 1) := by decide +kernel
theorem dX5_spare_15 : decode cX5_spare 15 = .ok (.iload_n 1, 1) := by decide +kernel
theorem dX5_spare_16 : decode cX5_spare 16 = .ok (.iconst 0, 1) := by decide +kernel
theorem dX5_spare_17 : decode cX5_spare 17 = .ok (.invokevirtual 190, 3) := by decide +kernel
theorem dX5_spare_20 : decode cX5_spare 20 = .ok (.istore_n 3, 1) := by decide +kernel
theorem dX5_spare_21 : decode cX5_spare 21 = .ok (.iload_n 3, 1) := by decide +kernel
theorem dX5_spare_22 : decode cX5_spare 22 = .ok (.ifCond .eq 5, 3) := by decide +kernel
theorem dX5_spare_25 : decode cX5_spare 25 = .ok (.iload_n 3, 1) := by decide +kernel
theorem dX5_spare_26 : decode cX5_spare 26 = .ok (.ireturn, 1) := by decide +kernel
theorem dX5_spare_27 : decode cX5_spare 27 = .ok (.aload_n 0, 1) := by decide +kernel
theorem dX5_spare_28 : decode cX5_spare 28 = .ok (.getfield 23, 3) := by decide +kernel
theorem dX5_spare_31 : decode cX5_spare 31 = .ok (.iload_n 1, 1) := by decide +kernel
theorem dX5_spare_32 : decode cX5_spare 32 = .ok (.iload_n 2, 1) := by decide +kernel
theorem dX5_spare_33 : decode cX5_spare 33 = .ok (.invokevirtual 228, 3) := by decide +kernel
theorem dX5_spare_36 : decode cX5_spare 36 = .ok (.ireturn, 1) := by decide +kernel
abbrev rm_X5_spare : Room := { frames := 27, cells := 0, slots := 0, locals := 771 }
noncomputable def f_X5_spare (N : Nat) (x1 : Int32) (x2 : Int32) (σ : ZS) : Option (Int32 × ZS) := obd (f_X5_isBar N x2 σ) fun v1 σ2 => (if v1 = 0 then some ((-1 : Int32), σ2) else obd (f_X5_refresh N σ2) fun _ σ5 => obd (f_X5_limitError N x1 (0 : Int32) σ5) fun v6 σ7 => (if v6 = 0 then obd (f_X0_spareStrength N x1 x2 σ7) fun v9 σ10 => some (v9, σ10) else some (v6, σ7)))
set_option maxHeartbeats 4000000 in
set_option maxRecDepth 100000 in
theorem c_X5_spare (l : Launch) (G : ZG) {N : Nat} {x1 : Int32} {x2 : Int32} {σ σ' : ZS} {r : Int32} (hf : f_X5_spare N x1 x2 σ = some (r, σ')) : zMet l G yX5_spare cX5_spare 4 (some .int) rm_X5_spare [.ref (G.1 0), .int x1, .int x2] σ (some (.int r)) σ' := by
  refine z_met (by decide +kernel) rfl (fun Y h hq => ?_)
  have h : zOk (l, rm_X5_spare, 4, 0, 0) Y G cX5_spare RX5 (some .int) := h
  rw [f_X5_spare] at hf
  refine z_sub (lv' := [(0, .ref (G.1 0)), (1, .int x1), (2, .int x2)]) [0, 1, 2] rfl ?_
  refine z_aload_n h dX5_spare_0 rfl 0 rfl ?_
  refine z_iload_n h dX5_spare_1 rfl 2 rfl ?_
  obtain ⟨v1, σ2, e2, hf⟩ := obd_out hf
  refine z_cVv h (n := 1) (c_X5_isBar l G e2) zC5 tg_0 ln_0 rfl rfl wd_205 wd_206 wd_207 wd_2 wd_208 (by decide +kernel) ⟨rfl, rfl⟩ rfl rfl rfl dX5_spare_2 ⟨Nat.zero_le _, Nat.zero_le _⟩ ?_
  refine z_if_ne h (tgt := 10) dX5_spare_5 (by decide) (fun g3 => ?_) (fun g3 => ?_)
  · have hf := it_neg g3 hf
    refine z_aload_n h dX5_spare_10 rfl 0 rfl ?_
    obtain ⟨v4, σ5, e5, hf⟩ := obd_out hf
    refine z_cV0 h (n := 0) (c_X5_refresh l G e5) zC5 tg_0 ln_0 rfl rfl wd_278 wd_279 wd_280 wd_2 wd_281 (by decide +kernel) ⟨rfl, rfl⟩ rfl rfl rfl dX5_spare_11 ⟨Nat.zero_le _, Nat.zero_le _⟩ ?_
    refine z_aload_n h dX5_spare_14 rfl 0 rfl ?_
    refine z_iload_n h dX5_spare_15 rfl 1 rfl ?_
    refine z_iconst h (v := (0 : Int32)) dX5_spare_16 ic_0 ?_
    obtain ⟨v6, σ7, e7, hf⟩ := obd_out hf
    refine z_cVv h (n := 2) (c_X5_limitError l G e7) zC5 tg_0 ln_0 rfl rfl wd_693 wd_694 wd_695 wd_2 wd_696 (by decide +kernel) ⟨rfl, rfl⟩ rfl rfl rfl dX5_spare_17 ⟨Nat.zero_le _, Nat.zero_le _⟩ ?_
    refine z_istore_n h dX5_spare_20 rfl (lv' := [(3, .int v6), (0, .ref (G.1 0)), (1, .int x1), (2, .int x2)]) rfl rfl ?_
    refine z_iload_n h dX5_spare_21 rfl 0 rfl ?_
    refine z_if_eq h (tgt := 27) dX5_spare_22 (by decide) (fun g8 => ?_) (fun g8 => ?_)
    · have hf := it_pos g8 hf
      refine z_aload_n h dX5_spare_27 rfl 1 rfl ?_
      refine z_gfR h zC5 (d := 7) (c := 0) tg_0 ln_0 4 rfl ft_5_4 rf_0_4 wd_20 dX5_spare_28 ?_
      refine z_iload_n h dX5_spare_31 rfl 2 rfl ?_
      refine z_iload_n h dX5_spare_32 rfl 3 rfl ?_
      obtain ⟨v9, σ10, e10, hf⟩ := obd_out hf
      refine z_cVv h (n := 2) (c_X0_spareStrength l G e10) zC0 tg_7 ln_7 rfl rfl wd_825 wd_826 wd_827 wd_19 wd_828 (by decide +kernel) ⟨rfl, rfl⟩ rfl rfl rfl dX5_spare_33 ⟨Nat.zero_le _, Nat.zero_le _⟩ ?_
      exact z_iret h (rt_I hf hq) dX5_spare_36
    · have hf := it_neg g8 hf
      refine z_iload_n h dX5_spare_25 rfl 0 rfl ?_
      exact z_iret h (rt_I hf hq) dX5_spare_26
  · have hf := it_pos g3 hf
    refine z_iconst h (v := (-1 : Int32)) dX5_spare_8 ic_m1 ?_
    exact z_iret h (rt_I hf hq) dX5_spare_9
theorem dX5_weakest_0 : decode cX5_weakest 0 = .ok (.aload_n 0, 1) := by decide +kernel
theorem dX5_weakest_1 : decode cX5_weakest 1 = .ok (.invokevirtual 124, 3) := by decide +kernel
theorem dX5_weakest_4 : decode cX5_weakest 4 = .ok (.aload_n 0, 1) := by decide +kernel
theorem dX5_weakest_5 : decode cX5_weakest 5 = .ok (.iload_n 1, 1) := by decide +kernel
theorem dX5_weakest_6 : decode cX5_weakest 6 = .ok (.iconst 0, 1) := by decide +kernel
theorem dX5_weakest_7 : decode cX5_weakest 7 = .ok (.invokevirtual 190, 3) := by decide +kernel
theorem dX5_weakest_10 : decode cX5_weakest 10 = .ok (.istore_n 2, 1) := by decide +kernel
theorem dX5_weakest_11 : decode cX5_weakest 11 = .ok (.iload_n 2, 1) := by decide +kernel
theorem dX5_weakest_12 : decode cX5_weakest 12 = .ok (.ifCond .eq 5, 3) := by decide +kernel
theorem dX5_weakest_15 : decode cX5_weakest 15 = .ok (.iload_n 2, 1) := by decide +kernel
theorem dX5_weakest_16 : decode cX5_weakest 16 = .ok (.ireturn, 1) := by decide +kernel
theorem dX5_weakest_17 : decode cX5_weakest 17 = .ok (.aload_n 0, 1) := by decide +kernel
theorem dX5_weakest_18 : decode cX5_weakest 18 = .ok (.getfield 23, 3) := by decide +kernel
theorem dX5_weakest_21 : decode cX5_weakest 21 = .ok (.iload_n 1, 1) := by decide +kernel
theorem dX5_weakest_22 : decode cX5_weakest 22 = .ok (.invokevirtual 231, 3) := by decide +kernel
theorem dX5_weakest_25 : decode cX5_weakest 25 = .ok (.ireturn, 1) := by decide +kernel
abbrev rm_X5_weakest : Room := { frames := 27, cells := 0, slots := 0, locals := 771 }
noncomputable def f_X5_weakest (N : Nat) (x1 : Int32) (σ : ZS) : Option (Int32 × ZS) := obd (f_X5_refresh N σ) fun _ σ2 => obd (f_X5_limitError N x1 (0 : Int32) σ2) fun v3 σ4 => (if v3 = 0 then obd (f_X0_weakestBar N x1 σ4) fun v6 σ7 => some (v6, σ7) else some (v3, σ4))
set_option maxHeartbeats 4000000 in
set_option maxRecDepth 100000 in
theorem c_X5_weakest (l : Launch) (G : ZG) {N : Nat} {x1 : Int32} {σ σ' : ZS} {r : Int32} (hf : f_X5_weakest N x1 σ = some (r, σ')) : zMet l G yX5_weakest cX5_weakest 3 (some .int) rm_X5_weakest [.ref (G.1 0), .int x1] σ (some (.int r)) σ' := by
  refine z_met (by decide +kernel) rfl (fun Y h hq => ?_)
  have h : zOk (l, rm_X5_weakest, 3, 0, 0) Y G cX5_weakest RX5 (some .int) := h
  rw [f_X5_weakest] at hf
  refine z_sub (lv' := [(0, .ref (G.1 0)), (1, .int x1)]) [0, 1] rfl ?_
  refine z_aload_n h dX5_weakest_0 rfl 0 rfl ?_
  obtain ⟨v1, σ2, e2, hf⟩ := obd_out hf
  refine z_cV0 h (n := 0) (c_X5_refresh l G e2) zC5 tg_0 ln_0 rfl rfl wd_278 wd_279 wd_280 wd_2 wd_281 (by decide +kernel) ⟨rfl, rfl⟩ rfl rfl rfl dX5_weakest_1 ⟨Nat.zero_le _, Nat.zero_le _⟩ ?_
  refine z_aload_n h dX5_weakest_4 rfl 0 rfl ?_
  refine z_iload_n h dX5_weakest_5 rfl 1 rfl ?_
  refine z_iconst h (v := (0 : Int32)) dX5_weakest_6 ic_0 ?_
  obtain ⟨v3, σ4, e4, hf⟩ := obd_out hf
  refine z_cVv h (n := 2) (c_X5_limitError l G e4) zC5 tg_0 ln_0 rfl rfl wd_693 wd_694 wd_695 wd_2 wd_696 (by decide +kernel) ⟨rfl, rfl⟩ rfl rfl rfl dX5_weakest_7 ⟨Nat.zero_le _, Nat.zero_le _⟩ ?_
  refine z_istore_n h dX5_weakest_10 rfl (lv' := [(2, .int v3), (0, .ref (G.1 0)), (1, .int x1)]) rfl rfl ?_
  refine z_iload_n h dX5_weakest_11 rfl 0 rfl ?_
  refine z_if_eq h (tgt := 17) dX5_weakest_12 (by decide) (fun g5 => ?_) (fun g5 => ?_)
  · have hf := it_pos g5 hf
    refine z_aload_n h dX5_weakest_17 rfl 1 rfl ?_
    refine z_gfR h zC5 (d := 7) (c := 0) tg_0 ln_0 4 rfl ft_5_4 rf_0_4 wd_20 dX5_weakest_18 ?_
    refine z_iload_n h dX5_weakest_21 rfl 2 rfl ?_
    obtain ⟨v6, σ7, e7, hf⟩ := obd_out hf
    refine z_cVv h (n := 1) (c_X0_weakestBar l G e7) zC0 tg_7 ln_7 rfl rfl wd_843 wd_844 wd_845 wd_19 wd_846 (by decide +kernel) ⟨rfl, rfl⟩ rfl rfl rfl dX5_weakest_22 ⟨Nat.zero_le _, Nat.zero_le _⟩ ?_
    exact z_iret h (rt_I hf hq) dX5_weakest_25
  · have hf := it_neg g5 hf
    refine z_iload_n h dX5_weakest_15 rfl 0 rfl ?_
    exact z_iret h (rt_I hf hq) dX5_weakest_16
theorem dX5_image_0 : decode cX5_image 0 = .ok (.iload_n 1, 1) := by decide +kernel
theorem dX5_image_1 : decode cX5_image 1 = .ok (.iconst 0, 1) := by decide +kernel
theorem dX5_image_2 : decode cX5_image 2 = .ok (.iconst 1, 1) := by decide +kernel
theorem dX5_image_3 : decode cX5_image 3 = .ok (.invokestatic 46, 3) := by decide +kernel
theorem dX5_image_6 : decode cX5_image 6 = .ok (.ifCond .ne 6, 3) := by decide +kernel
theorem dX5_image_9 : decode cX5_image 9 = .ok (.bipush (-2), 2) := by decide +kernel
theorem dX5_image_11 : decode cX5_image 11 = .ok (.ireturn, 1) := by decide +kernel
theorem dX5_image_12 : decode cX5_image 12 = .ok (.aload_n 0, 1) := by decide +kernel
theorem dX5_image_13 : decode cX5_image 13 = .ok (.getfield 16, 3) := by decide +kernel
theorem dX5_image_16 : decode cX5_image 16 = .ok (.iload_n 1, 1) := by decide +kernel
theorem dX5_image_17 : decode cX5_image 17 = .ok (.aaload, 1) := by decide +kernel
theorem dX5_image_18 : decode cX5_image 18 = .ok (.aload_n 0, 1) := by decide +kernel
theorem dX5_image_19 : decode cX5_image 19 = .ok (.getfield 12, 3) := by decide +kernel
theorem dX5_image_22 : decode cX5_image 22 = .ok (.invokevirtual 234, 3) := by decide +kernel
theorem dX5_image_25 : decode cX5_image 25 = .ok (.aload_n 0, 1) := by decide +kernel
theorem dX5_image_26 : decode cX5_image 26 = .ok (.dup, 1) := by decide +kernel
theorem dX5_image_27 : decode cX5_image 27 = .ok (.getfield 143, 3) := by decide +kernel
theorem dX5_image_30 : decode cX5_image 30 = .ok (.iconst 1, 1) := by decide +kernel
theorem dX5_image_31 : decode cX5_image 31 = .ok (.iload_n 1, 1) := by decide +kernel
theorem dX5_image_32 : decode cX5_image 32 = .ok (.ishl, 1) := by decide +kernel
theorem dX5_image_33 : decode cX5_image 33 = .ok (.ior, 1) := by decide +kernel
theorem dX5_image_34 : decode cX5_image 34 = .ok (.putfield 143, 3) := by decide +kernel
theorem dX5_image_37 : decode cX5_image 37 = .ok (.iconst 1, 1) := by decide +kernel
theorem dX5_image_38 : decode cX5_image 38 = .ok (.ireturn, 1) := by decide +kernel
abbrev rm_X5_image : Room := { frames := 3, cells := 0, slots := 0, locals := 94 }
noncomputable def f_X5_image (N : Nat) (x1 : Int32) (σ : ZS) : Option (Int32 × ZS) := obd (f_X5_within N x1 (0 : Int32) (1 : Int32) σ) fun v1 σ2 => (if v1 = 0 then some ((-2 : Int32), σ2) else ck (inb x1 2) (ck (isc (3 + x1.toNatClampNeg) 2) (obd (f_X2_copyFrom N (3 + x1.toNatClampNeg) 2 σ2) fun _ σ7 => bd ((gI σ7 0 6) ||| ((1 : Int32) <<< (x1 &&& 31))) fun v8 => bd (sI σ7 0 6 v8) fun σ9 => some ((1 : Int32), σ9))))
set_option maxHeartbeats 4000000 in
set_option maxRecDepth 100000 in
theorem c_X5_image (l : Launch) (G : ZG) {N : Nat} {x1 : Int32} {σ σ' : ZS} {r : Int32} (hf : f_X5_image N x1 σ = some (r, σ')) : zMet l G yX5_image cX5_image 2 (some .int) rm_X5_image [.ref (G.1 0), .int x1] σ (some (.int r)) σ' := by
  refine z_met (by decide +kernel) rfl (fun Y h hq => ?_)
  have h : zOk (l, rm_X5_image, 2, 0, 0) Y G cX5_image RX5 (some .int) := h
  rw [f_X5_image] at hf
  refine z_sub (lv' := [(0, .ref (G.1 0)), (1, .int x1)]) [0, 1] rfl ?_
  refine z_iload_n h dX5_image_0 rfl 1 rfl ?_
  refine z_iconst h (v := (0 : Int32)) dX5_image_1 ic_0 ?_
  refine z_iconst h (v := (1 : Int32)) dX5_image_2 ic_1 ?_
  obtain ⟨v1, σ2, e2, hf⟩ := obd_out hf
  refine z_cSv h (n := 3) (c_X5_within l G e2) rfl wd_133 wd_134 wd_2 wd_135 (by decide +kernel) ⟨rfl, rfl⟩ rfl rfl rfl dX5_image_3 ⟨Nat.zero_le _, Nat.zero_le _⟩ ?_
  refine z_if_ne h (tgt := 12) dX5_image_6 (by decide) (fun g3 => ?_) (fun g3 => ?_)
  · have hf := it_neg g3 hf
    refine z_aload_n h dX5_image_12 rfl 0 rfl ?_
    refine z_gfR h zC5 (d := 1) (c := 0) tg_0 ln_0 1 rfl ft_5_1 rf_0_1 wd_16 dX5_image_13 ?_
    refine z_iload_n h dX5_image_16 rfl 1 rfl ?_
    obtain ⟨g4, hf⟩ := ck_out hf
    refine z_aald h (c := 1) (d := 3 + x1.toNatClampNeg) tg_1 rfl ln_1 rfl g4 dX5_image_17 ?_
    refine z_aload_n h dX5_image_18 rfl 0 rfl ?_
    refine z_gfR h zC5 (d := 2) (c := 0) tg_0 ln_0 0 rfl ft_5_0 rf_0_0 wd_15 dX5_image_19 ?_
    obtain ⟨g5, hf⟩ := ck_out hf
    obtain ⟨v6, σ7, e7, hf⟩ := obd_out hf
    refine z_cV0 h (n := 1) (c_X2_copyFrom l G e7) zC2 (isc_tg g5) (isc_ln g5) rfl rfl wd_855 wd_856 wd_857 wd_14 wd_858 (by decide +kernel) ⟨rfl, rfl⟩ rfl rfl rfl dX5_image_22 ⟨Nat.zero_le _, Nat.zero_le _⟩ ?_
    refine z_aload_n h dX5_image_25 rfl 0 rfl ?_
    refine z_dup h dX5_image_26 rfl ?_
    refine z_gfI h zC5 (c := 0) tg_0 ln_0 6 rfl ft_5_6 wd_277 dX5_image_27 ?_
    refine z_iconst h (v := (1 : Int32)) dX5_image_30 ic_1 ?_
    refine z_iload_n h dX5_image_31 rfl 1 rfl ?_
    refine z_ishl h dX5_image_32 ?_
    refine z_ior h dX5_image_33 ?_
    refine z_topI (fun v8 ev8 => ?_)
    have hf := bd_to ev8 hf
    refine z_pfI h zC5 (c := 0) tg_0 ln_0 6 rfl ft_5_6 wd_277 rfl (ty := .int) (by decide +kernel) rfl rfl dX5_image_34 ?_
    refine z_gen (fun σ9 eσ9 => ?_)
    have hf := bd_to eσ9 hf
    refine z_iconst h (v := (1 : Int32)) dX5_image_37 ic_1 ?_
    exact z_iret h (rt_I hf hq) dX5_image_38
  · have hf := it_pos g3 hf
    refine z_bipush h (v := (-2 : Int32)) dX5_image_9 bp_m2 ?_
    exact z_iret h (rt_I hf hq) dX5_image_11
theorem dX5_restore_0 : decode cX5_restore 0 = .ok (.iload_n 1, 1) := by decide +kernel
theorem dX5_restore_1 : decode cX5_restore 1 = .ok (.iconst 0, 1) := by decide +kernel
theorem dX5_restore_2 : decode cX5_restore 2 = .ok (.iconst 1, 1) := by decide +kernel
theorem dX5_restore_3 : decode cX5_restore 3 = .ok (.invokestatic 46, 3) := by decide +kernel
theorem dX5_restore_6 : decode cX5_restore 6 = .ok (.ifCond .ne 6, 3) := by decide +kernel
theorem dX5_restore_9 : decode cX5_restore 9 = .ok (.bipush (-2), 2) := by decide +kernel
theorem dX5_restore_11 : decode cX5_restore 11 = .ok (.ireturn, 1) := by decide +kernel
theorem dX5_restore_12 : decode cX5_restore 12 = .ok (.aload_n 0, 1) := by decide +kernel
theorem dX5_restore_13 : decode cX5_restore 13 = .ok (.getfield 143, 3) := by decide +kernel
theorem dX5_restore_16 : decode cX5_restore 16 = .ok (.iload_n 1, 1) := by decide +kernel
theorem dX5_restore_17 : decode cX5_restore 17 = .ok (.ishr, 1) := by decide +kernel
theorem dX5_restore_18 : decode cX5_restore 18 = .ok (.iconst 1, 1) := by decide +kernel
theorem dX5_restore_19 : decode cX5_restore 19 = .ok (.iand, 1) := by decide +kernel
theorem dX5_restore_20 : decode cX5_restore 20 = .ok (.ifCond .ne 6, 3) := by decide +kernel
theorem dX5_restore_23 : decode cX5_restore 23 = .ok (.bipush (-5), 2) := by decide +kernel
theorem dX5_restore_25 : decode cX5_restore 25 = .ok (.ireturn, 1) := by decide +kernel
theorem dX5_restore_26 : decode cX5_restore 26 = .ok (.aload_n 0, 1) := by decide +kernel
theorem dX5_restore_27 : decode cX5_restore 27 = .ok (.getfield 12, 3) := by decide +kernel
theorem dX5_restore_30 : decode cX5_restore 30 = .ok (.aload_n 0, 1) := by decide +kernel
theorem dX5_restore_31 : decode cX5_restore 31 = .ok (.getfield 16, 3) := by decide +kernel
theorem dX5_restore_34 : decode cX5_restore 34 = .ok (.iload_n 1, 1) := by decide +kernel
theorem dX5_restore_35 : decode cX5_restore 35 = .ok (.aaload, 1) := by decide +kernel
theorem dX5_restore_36 : decode cX5_restore 36 = .ok (.invokevirtual 234, 3) := by decide +kernel
theorem dX5_restore_39 : decode cX5_restore 39 = .ok (.aload_n 0, 1) := by decide +kernel
theorem dX5_restore_40 : decode cX5_restore 40 = .ok (.invokevirtual 58, 3) := by decide +kernel
theorem dX5_restore_43 : decode cX5_restore 43 = .ok (.iconst 1, 1) := by decide +kernel
theorem dX5_restore_44 : decode cX5_restore 44 = .ok (.ireturn, 1) := by decide +kernel
abbrev rm_X5_restore : Room := { frames := 3, cells := 0, slots := 0, locals := 94 }
noncomputable def f_X5_restore (N : Nat) (x1 : Int32) (σ : ZS) : Option (Int32 × ZS) := obd (f_X5_within N x1 (0 : Int32) (1 : Int32) σ) fun v1 σ2 => (if v1 = 0 then some ((-2 : Int32), σ2) else (if (((gI σ2 0 6) >>> (x1 &&& 31)) &&& (1 : Int32)) = 0 then some ((-5 : Int32), σ2) else ck (inb x1 2) (obd (f_X2_copyFrom N 2 (3 + x1.toNatClampNeg) σ2) fun _ σ7 => obd (f_X5_forgetShape N σ7) fun _ σ9 => some ((1 : Int32), σ9))))
set_option maxHeartbeats 4000000 in
set_option maxRecDepth 100000 in
theorem c_X5_restore (l : Launch) (G : ZG) {N : Nat} {x1 : Int32} {σ σ' : ZS} {r : Int32} (hf : f_X5_restore N x1 σ = some (r, σ')) : zMet l G yX5_restore cX5_restore 2 (some .int) rm_X5_restore [.ref (G.1 0), .int x1] σ (some (.int r)) σ' := by
  refine z_met (by decide +kernel) rfl (fun Y h hq => ?_)
  have h : zOk (l, rm_X5_restore, 2, 0, 0) Y G cX5_restore RX5 (some .int) := h
  rw [f_X5_restore] at hf
  refine z_sub (lv' := [(0, .ref (G.1 0)), (1, .int x1)]) [0, 1] rfl ?_
  refine z_iload_n h dX5_restore_0 rfl 1 rfl ?_
  refine z_iconst h (v := (0 : Int32)) dX5_restore_1 ic_0 ?_
  refine z_iconst h (v := (1 : Int32)) dX5_restore_2 ic_1 ?_
  obtain ⟨v1, σ2, e2, hf⟩ := obd_out hf
  refine z_cSv h (n := 3) (c_X5_within l G e2) rfl wd_133 wd_134 wd_2 wd_135 (by decide +kernel) ⟨rfl, rfl⟩ rfl rfl rfl dX5_restore_3 ⟨Nat.zero_le _, Nat.zero_le _⟩ ?_
  refine z_if_ne h (tgt := 12) dX5_restore_6 (by decide) (fun g3 => ?_) (fun g3 => ?_)
  · have hf := it_neg g3 hf
    refine z_aload_n h dX5_restore_12 rfl 0 rfl ?_
    refine z_gfI h zC5 (c := 0) tg_0 ln_0 6 rfl ft_5_6 wd_277 dX5_restore_13 ?_
    refine z_iload_n h dX5_restore_16 rfl 1 rfl ?_
    refine z_ishr h dX5_restore_17 ?_
    refine z_iconst h (v := (1 : Int32)) dX5_restore_18 ic_1 ?_
    refine z_iand h dX5_restore_19 ?_
    refine z_if_ne h (tgt := 26) dX5_restore_20 (by decide) (fun g4 => ?_) (fun g4 => ?_)
    · have hf := it_neg g4 hf
      refine z_aload_n h dX5_restore_26 rfl 0 rfl ?_
      refine z_gfR h zC5 (d := 2) (c := 0) tg_0 ln_0 0 rfl ft_5_0 rf_0_0 wd_15 dX5_restore_27 ?_
      refine z_aload_n h dX5_restore_30 rfl 0 rfl ?_
      refine z_gfR h zC5 (d := 1) (c := 0) tg_0 ln_0 1 rfl ft_5_1 rf_0_1 wd_16 dX5_restore_31 ?_
      refine z_iload_n h dX5_restore_34 rfl 1 rfl ?_
      obtain ⟨g5, hf⟩ := ck_out hf
      refine z_aald h (c := 1) (d := 3 + x1.toNatClampNeg) tg_1 rfl ln_1 rfl g5 dX5_restore_35 ?_
      obtain ⟨v6, σ7, e7, hf⟩ := obd_out hf
      refine z_cV0 h (n := 1) (c_X2_copyFrom l G e7) zC2 tg_2 ln_2 rfl rfl wd_855 wd_856 wd_857 wd_14 wd_858 (by decide +kernel) ⟨rfl, rfl⟩ rfl rfl rfl dX5_restore_36 ⟨Nat.zero_le _, Nat.zero_le _⟩ ?_
      refine z_aload_n h dX5_restore_39 rfl 0 rfl ?_
      obtain ⟨v8, σ9, e9, hf⟩ := obd_out hf
      refine z_cV0 h (n := 0) (c_X5_forgetShape l G e9) zC5 tg_0 ln_0 rfl rfl wd_141 wd_142 wd_143 wd_2 wd_144 (by decide +kernel) ⟨rfl, rfl⟩ rfl rfl rfl dX5_restore_40 ⟨Nat.zero_le _, Nat.zero_le _⟩ ?_
      refine z_iconst h (v := (1 : Int32)) dX5_restore_43 ic_1 ?_
      exact z_iret h (rt_I hf hq) dX5_restore_44
    · have hf := it_pos g4 hf
      refine z_bipush h (v := (-5 : Int32)) dX5_restore_23 bp_m5 ?_
      exact z_iret h (rt_I hf hq) dX5_restore_25
  · have hf := it_pos g3 hf
    refine z_bipush h (v := (-2 : Int32)) dX5_restore_9 bp_m2 ?_
    exact z_iret h (rt_I hf hq) dX5_restore_11
