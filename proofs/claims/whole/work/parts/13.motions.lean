theorem dX4_looseness_0 : decode cX4_looseness 0 = .ok (.aload_n 0, 1) := by decide +kernel
theorem dX4_looseness_1 : decode cX4_looseness 1 = .ok (.getfield 25, 3) := by decide +kernel
theorem dX4_looseness_4 : decode cX4_looseness 4 = .ok (.aload_n 0, 1) := by decide +kernel
theorem dX4_looseness_5 : decode cX4_looseness 5 = .ok (.getfield 29, 3) := by decide +kernel
theorem dX4_looseness_8 : decode cX4_looseness 8 = .ok (.isub, 1) := by decide +kernel
theorem dX4_looseness_9 : decode cX4_looseness 9 = .ok (.ireturn, 1) := by decide +kernel
abbrev rm_X4_looseness : Room := { frames := 0, cells := 0, slots := 0, locals := 0 }
noncomputable def f_X4_looseness (N : Nat) (σ : ZS) : Option (Int32 × ZS) := some ((gI σ 5 3) - (gI σ 5 4), σ)
set_option maxHeartbeats 4000000 in
set_option maxRecDepth 100000 in
theorem c_X4_looseness (l : Launch) (G : ZG) {N : Nat} {σ σ' : ZS} {r : Int32} (hf : f_X4_looseness N σ = some (r, σ')) : zMet l G yX4_looseness cX4_looseness 1 (some .int) rm_X4_looseness [.ref (G.1 5)] σ (some (.int r)) σ' := by
  refine z_met (by decide +kernel) rfl (fun Y h hq => ?_)
  have h : zOk (l, rm_X4_looseness, 1, 0, 0) Y G cX4_looseness RX4 (some .int) := h
  rw [f_X4_looseness] at hf
  refine z_sub (lv' := [(0, .ref (G.1 5))]) [0] rfl ?_
  refine z_aload_n h dX4_looseness_0 rfl 0 rfl ?_
  refine z_gfI h zC4 (c := 5) tg_5 ln_5 3 rfl ft_4_3 wd_286 dX4_looseness_1 ?_
  refine z_aload_n h dX4_looseness_4 rfl 0 rfl ?_
  refine z_gfI h zC4 (c := 5) tg_5 ln_5 4 rfl ft_4_4 wd_345 dX4_looseness_5 ?_
  refine z_isub h dX4_looseness_8 ?_
  exact z_iret h (rt_I hf hq) dX4_looseness_9
theorem dX4_width_0 : decode cX4_width 0 = .ok (.aload_n 0, 1) := by decide +kernel
theorem dX4_width_1 : decode cX4_width 1 = .ok (.getfield 32, 3) := by decide +kernel
theorem dX4_width_4 : decode cX4_width 4 = .ok (.aload_n 0, 1) := by decide +kernel
theorem dX4_width_5 : decode cX4_width 5 = .ok (.getfield 35, 3) := by decide +kernel
theorem dX4_width_8 : decode cX4_width 8 = .ok (.iadd, 1) := by decide +kernel
theorem dX4_width_9 : decode cX4_width 9 = .ok (.ireturn, 1) := by decide +kernel
abbrev rm_X4_width : Room := { frames := 0, cells := 0, slots := 0, locals := 0 }
noncomputable def f_X4_width (N : Nat) (σ : ZS) : Option (Int32 × ZS) := some ((gI σ 5 5) + (gI σ 5 6), σ)
set_option maxHeartbeats 4000000 in
set_option maxRecDepth 100000 in
theorem c_X4_width (l : Launch) (G : ZG) {N : Nat} {σ σ' : ZS} {r : Int32} (hf : f_X4_width N σ = some (r, σ')) : zMet l G yX4_width cX4_width 1 (some .int) rm_X4_width [.ref (G.1 5)] σ (some (.int r)) σ' := by
  refine z_met (by decide +kernel) rfl (fun Y h hq => ?_)
  have h : zOk (l, rm_X4_width, 1, 0, 0) Y G cX4_width RX4 (some .int) := h
  rw [f_X4_width] at hf
  refine z_sub (lv' := [(0, .ref (G.1 5))]) [0] rfl ?_
  refine z_aload_n h dX4_width_0 rfl 0 rfl ?_
  refine z_gfI h zC4 (c := 5) tg_5 ln_5 5 rfl ft_4_5 wd_288 dX4_width_1 ?_
  refine z_aload_n h dX4_width_4 rfl 0 rfl ?_
  refine z_gfI h zC4 (c := 5) tg_5 ln_5 6 rfl ft_4_6 wd_287 dX4_width_5 ?_
  refine z_iadd h dX4_width_8 ?_
  exact z_iret h (rt_I hf hq) dX4_width_9
theorem dX4_rowWith_0 : decode cX4_rowWith 0 = .ok (.iload_n 2, 1) := by decide +kernel
theorem dX4_rowWith_1 : decode cX4_rowWith 1 = .ok (.istore 4, 2) := by decide +kernel
theorem dX4_rowWith_3 : decode cX4_rowWith 3 = .ok (.iload 4, 2) := by decide +kernel
theorem dX4_rowWith_5 : decode cX4_rowWith 5 = .ok (.iload_n 2, 1) := by decide +kernel
theorem dX4_rowWith_6 : decode cX4_rowWith 6 = .ok (.iload_n 3, 1) := by decide +kernel
theorem dX4_rowWith_7 : decode cX4_rowWith 7 = .ok (.iadd, 1) := by decide +kernel
theorem dX4_rowWith_8 : decode cX4_rowWith 8 = .ok (.if_icmp .ge 26, 3) := by decide +kernel
theorem dX4_rowWith_11 : decode cX4_rowWith 11 = .ok (.aload_n 0, 1) := by decide +kernel
theorem dX4_rowWith_12 : decode cX4_rowWith 12 = .ok (.getfield 13, 3) := by decide +kernel
theorem dX4_rowWith_15 : decode cX4_rowWith 15 = .ok (.iload 4, 2) := by decide +kernel
theorem dX4_rowWith_17 : decode cX4_rowWith 17 = .ok (.aaload, 1) := by decide +kernel
theorem dX4_rowWith_18 : decode cX4_rowWith 18 = .ok (.iload_n 1, 1) := by decide +kernel
theorem dX4_rowWith_19 : decode cX4_rowWith 19 = .ok (.laload, 1) := by decide +kernel
theorem dX4_rowWith_20 : decode cX4_rowWith 20 = .ok (.lconst 0, 1) := by decide +kernel
theorem dX4_rowWith_21 : decode cX4_rowWith 21 = .ok (.lcmp, 1) := by decide +kernel
theorem dX4_rowWith_22 : decode cX4_rowWith 22 = .ok (.ifCond .eq 6, 3) := by decide +kernel
theorem dX4_rowWith_25 : decode cX4_rowWith 25 = .ok (.iload 4, 2) := by decide +kernel
theorem dX4_rowWith_27 : decode cX4_rowWith 27 = .ok (.ireturn, 1) := by decide +kernel
theorem dX4_rowWith_28 : decode cX4_rowWith 28 = .ok (.iinc 4 1, 3) := by decide +kernel
theorem dX4_rowWith_31 : decode cX4_rowWith 31 = .ok (.goto (-28), 3) := by decide +kernel
theorem dX4_rowWith_34 : decode cX4_rowWith 34 = .ok (.bipush (-6), 2) := by decide +kernel
theorem dX4_rowWith_36 : decode cX4_rowWith 36 = .ok (.ireturn, 1) := by decide +kernel
abbrev rm_X4_rowWith : Room := { frames := 0, cells := 0, slots := 0, locals := 0 }
noncomputable def f_X4_rowWith_h3 (N : Nat) (x1 : Int32) (x2 : Int32) (x3 : Int32) : Nat → Int32 → ZS → Option (Int32 × ZS)
  | 0, _, _ => none
  | n + 1, x4, σ => (if (x2 + x3) ≤ x4 then some ((-6 : Int32), σ) else ck (inb x4 78) (ck (tg (65 + x4.toNatClampNeg) == 2) (ck (inb x1 (ln (65 + x4.toNatClampNeg))) ((if (gJ σ (65 + x4.toNatClampNeg) (x1.toNatClampNeg)) = (0 : Int64) then bd (x4 + (1 : Int32)) fun v6 => f_X4_rowWith_h3 N x1 x2 x3 n v6 σ else some (x4, σ))))))
noncomputable def f_X4_rowWith (N : Nat) (x1 : Int32) (x2 : Int32) (x3 : Int32) (σ : ZS) : Option (Int32 × ZS) := f_X4_rowWith_h3 N x1 x2 x3 N x2 σ
set_option maxHeartbeats 4000000 in
set_option maxRecDepth 100000 in
theorem k_X4_rowWith_h3 {l : Launch} {Y : ZY} {G : ZG} {r : Int32} {σ' : ZS} (h : zOk (l, rm_X4_rowWith, 5, 0, 0) Y G cX4_rowWith RX4 (some .int)) (hq : zRet (l, rm_X4_rowWith, 5, 0, 0) Y G (some (.int r)) σ') (N : Nat) (x1 : Int32) (x2 : Int32) (x3 : Int32) : ∀ (n : Nat) (x4 : Int32) (σ : ZS), f_X4_rowWith_h3 N x1 x2 x3 n x4 σ = some (r, σ') → Z (l, rm_X4_rowWith, 5, 0, 0) Y G σ [(0, .ref (G.1 5)), (1, .int x1), (2, .int x2), (3, .int x3), (4, .int x4)] [] 3 := by
  intro n
  induction n with
  | zero =>
    intro x4 σ hf
    rw [f_X4_rowWith_h3] at hf
    cases hf
  | succ n ih =>
    intro x4 σ hf
    rw [f_X4_rowWith_h3] at hf
    refine z_iload h dX4_rowWith_3 4 rfl ?_
    refine z_iload_n h dX4_rowWith_5 rfl 2 rfl ?_
    refine z_iload_n h dX4_rowWith_6 rfl 3 rfl ?_
    refine z_iadd h dX4_rowWith_7 ?_
    refine z_icmp_ge h (tgt := 34) dX4_rowWith_8 (by decide) (fun g1 => ?_) (fun g1 => ?_)
    · have hf := it_pos g1 hf
      refine z_bipush h (v := (-6 : Int32)) dX4_rowWith_34 bp_m6 ?_
      exact z_iret h (rt_I hf hq) dX4_rowWith_36
    · have hf := it_neg g1 hf
      refine z_aload_n h dX4_rowWith_11 rfl 0 rfl ?_
      refine z_gfR h zC4 (d := 16) (c := 5) tg_5 ln_5 0 rfl ft_4_0 rf_5_0 wd_74 dX4_rowWith_12 ?_
      refine z_iload h dX4_rowWith_15 4 rfl ?_
      obtain ⟨g2, hf⟩ := ck_out hf
      refine z_aald h (c := 16) (d := 65 + x4.toNatClampNeg) tg_16 rfl ln_16 rfl g2 dX4_rowWith_17 ?_
      refine z_iload_n h dX4_rowWith_18 rfl 1 rfl ?_
      obtain ⟨g3, hf⟩ := ck_out hf
      obtain ⟨g4, hf⟩ := ck_out hf
      refine z_lald h (eq_of_beq g3) rfl g4 dX4_rowWith_19 ?_
      refine z_lconst h (v := (0 : Int64)) dX4_rowWith_20 lc_0 ?_
      refine z_lif_eq h (tgt := 28) dX4_rowWith_21 dX4_rowWith_22 (by decide) (fun g5 => ?_) (fun g5 => ?_)
      · have hf := it_pos g5 hf
        obtain ⟨v6, ev6, hf⟩ := bd_ex hf
        refine z_iinc h (v := v6) (lv' := [(4, .int v6), (0, .ref (G.1 5)), (1, .int x1), (2, .int x2), (3, .int x3)]) dX4_rowWith_28 4 rfl (by rw [ev6]; rfl) rfl rfl ?_
        refine z_goto h (tgt := 3) dX4_rowWith_31 (by decide) ?_
        exact z_sub [1, 2, 3, 4, 0] rfl (ih _ _ hf)
      · have hf := it_neg g5 hf
        refine z_iload h dX4_rowWith_25 4 rfl ?_
        exact z_iret h (rt_I hf hq) dX4_rowWith_27
set_option maxHeartbeats 4000000 in
set_option maxRecDepth 100000 in
theorem c_X4_rowWith (l : Launch) (G : ZG) {N : Nat} {x1 : Int32} {x2 : Int32} {x3 : Int32} {σ σ' : ZS} {r : Int32} (hf : f_X4_rowWith N x1 x2 x3 σ = some (r, σ')) : zMet l G yX4_rowWith cX4_rowWith 5 (some .int) rm_X4_rowWith [.ref (G.1 5), .int x1, .int x2, .int x3] σ (some (.int r)) σ' := by
  refine z_met (by decide +kernel) rfl (fun Y h hq => ?_)
  have h : zOk (l, rm_X4_rowWith, 5, 0, 0) Y G cX4_rowWith RX4 (some .int) := h
  rw [f_X4_rowWith] at hf
  refine z_sub (lv' := [(0, .ref (G.1 5)), (1, .int x1), (2, .int x2), (3, .int x3)]) [0, 1, 2, 3] rfl ?_
  refine z_iload_n h dX4_rowWith_0 rfl 2 rfl ?_
  refine z_istore h dX4_rowWith_1 (lv' := [(4, .int x2), (0, .ref (G.1 5)), (1, .int x1), (2, .int x2), (3, .int x3)]) rfl rfl ?_
  exact z_sub [1, 2, 3, 4, 0] rfl (k_X4_rowWith_h3 h hq N x1 x2 x3 _ _ _ hf)
theorem dX4_simplify_0 : decode cX4_simplify 0 = .ok (.aload_n 0, 1) := by decide +kernel
theorem dX4_simplify_1 : decode cX4_simplify 1 = .ok (.invokevirtual 115, 3) := by decide +kernel
theorem dX4_simplify_4 : decode cX4_simplify 4 = .ok (.istore_n 2, 1) := by decide +kernel
theorem dX4_simplify_5 : decode cX4_simplify 5 = .ok (.lconst 0, 1) := by decide +kernel
theorem dX4_simplify_6 : decode cX4_simplify 6 = .ok (.lstore_n 3, 1) := by decide +kernel
theorem dX4_simplify_7 : decode cX4_simplify 7 = .ok (.iconst 0, 1) := by decide +kernel
theorem dX4_simplify_8 : decode cX4_simplify 8 = .ok (.istore 5, 2) := by decide +kernel
theorem dX4_simplify_10 : decode cX4_simplify 10 = .ok (.iload 5, 2) := by decide +kernel
theorem dX4_simplify_12 : decode cX4_simplify 12 = .ok (.iload_n 2, 1) := by decide +kernel
theorem dX4_simplify_13 : decode cX4_simplify 13 = .ok (.if_icmp .ge 24, 3) := by decide +kernel
theorem dX4_simplify_16 : decode cX4_simplify 16 = .ok (.lload_n 3, 1) := by decide +kernel
theorem dX4_simplify_17 : decode cX4_simplify 17 = .ok (.lconst 1, 1) := by decide +kernel
theorem dX4_simplify_18 : decode cX4_simplify 18 = .ok (.lcmp, 1) := by decide +kernel
theorem dX4_simplify_19 : decode cX4_simplify 19 = .ok (.ifCond .eq 18, 3) := by decide +kernel
theorem dX4_simplify_22 : decode cX4_simplify 22 = .ok (.lload_n 3, 1) := by decide +kernel
theorem dX4_simplify_23 : decode cX4_simplify 23 = .ok (.aload_n 1, 1) := by decide +kernel
theorem dX4_simplify_24 : decode cX4_simplify 24 = .ok (.iload 5, 2) := by decide +kernel
theorem dX4_simplify_26 : decode cX4_simplify 26 = .ok (.laload, 1) := by decide +kernel
theorem dX4_simplify_27 : decode cX4_simplify 27 = .ok (.invokestatic 119, 3) := by decide +kernel
theorem dX4_simplify_30 : decode cX4_simplify 30 = .ok (.lstore_n 3, 1) := by decide +kernel
theorem dX4_simplify_31 : decode cX4_simplify 31 = .ok (.iinc 5 1, 3) := by decide +kernel
theorem dX4_simplify_34 : decode cX4_simplify 34 = .ok (.goto (-24), 3) := by decide +kernel
theorem dX4_simplify_37 : decode cX4_simplify 37 = .ok (.lload_n 3, 1) := by decide +kernel
theorem dX4_simplify_38 : decode cX4_simplify 38 = .ok (.lconst 1, 1) := by decide +kernel
theorem dX4_simplify_39 : decode cX4_simplify 39 = .ok (.lcmp, 1) := by decide +kernel
theorem dX4_simplify_40 : decode cX4_simplify 40 = .ok (.ifCond .le 26, 3) := by decide +kernel
theorem dX4_simplify_43 : decode cX4_simplify 43 = .ok (.iconst 0, 1) := by decide +kernel
theorem dX4_simplify_44 : decode cX4_simplify 44 = .ok (.istore 5, 2) := by decide +kernel
theorem dX4_simplify_46 : decode cX4_simplify 46 = .ok (.iload 5, 2) := by decide +kernel
theorem dX4_simplify_48 : decode cX4_simplify 48 = .ok (.iload_n 2, 1) := by decide +kernel
theorem dX4_simplify_49 : decode cX4_simplify 49 = .ok (.if_icmp .ge 17, 3) := by decide +kernel
theorem dX4_simplify_52 : decode cX4_simplify 52 = .ok (.aload_n 1, 1) := by decide +kernel
theorem dX4_simplify_53 : decode cX4_simplify 53 = .ok (.iload 5, 2) := by decide +kernel
theorem dX4_simplify_55 : decode cX4_simplify 55 = .ok (.dup2, 1) := by decide +kernel
theorem dX4_simplify_56 : decode cX4_simplify 56 = .ok (.laload, 1) := by decide +kernel
theorem dX4_simplify_57 : decode cX4_simplify 57 = .ok (.lload_n 3, 1) := by decide +kernel
theorem dX4_simplify_58 : decode cX4_simplify 58 = .ok (.ldiv, 1) := by decide +kernel
theorem dX4_simplify_59 : decode cX4_simplify 59 = .ok (.lastore, 1) := by decide +kernel
theorem dX4_simplify_60 : decode cX4_simplify 60 = .ok (.iinc 5 1, 3) := by decide +kernel
theorem dX4_simplify_63 : decode cX4_simplify 63 = .ok (.goto (-17), 3) := by decide +kernel
theorem dX4_simplify_66 : decode cX4_simplify 66 = .ok (.return_, 1) := by decide +kernel
abbrev rm_X4_simplify : Room := { frames := 2, cells := 0, slots := 0, locals := 67 }
noncomputable def f_X4_simplify_h46 (N : Nat) (a1 : Nat) (x2 : Int32) (x3 : Int64) : Nat → Int32 → ZS → Option (Unit × ZS)
  | 0, _, _ => none
  | n + 1, x5, σ => (if x2 ≤ x5 then some ((), σ) else ck (tg a1 == 2) (ck (inb x5 (ln a1)) (ck (!(x3 == 0)) (bd ((gJ σ a1 (x5.toNatClampNeg)) / x3) fun v9 => ck (tg a1 == 2) (ck (inb x5 (ln a1)) (bd (sJ σ a1 (x5.toNatClampNeg) v9) fun σ12 => bd (x5 + (1 : Int32)) fun v13 => f_X4_simplify_h46 N a1 x2 x3 n v13 σ12))))))
noncomputable def f_X4_simplify_b37 (N : Nat) (a1 : Nat) (x2 : Int32) (x3 : Int64) (σ : ZS) : Option (Unit × ZS) := (if (1 : Int64) < x3 then f_X4_simplify_h46 N a1 x2 x3 N (0 : Int32) σ else some ((), σ))
noncomputable def f_X4_simplify_h10 (N : Nat) (a1 : Nat) (x2 : Int32) : Nat → Int64 → Int32 → ZS → Option (Unit × ZS)
  | 0, _, _, _ => none
  | n + 1, x3, x5, σ => (if x2 ≤ x5 then f_X4_simplify_b37 N a1 x2 x3 σ else (if x3 = (1 : Int64) then f_X4_simplify_b37 N a1 x2 x3 σ else ck (tg a1 == 2) (ck (inb x5 (ln a1)) (obd (f_X5_gcd N x3 (gJ σ a1 (x5.toNatClampNeg)) σ) fun v17 σ18 => bd (x5 + (1 : Int32)) fun v19 => f_X4_simplify_h10 N a1 x2 n v17 v19 σ18))))
noncomputable def f_X4_simplify (N : Nat) (a1 : Nat) (σ : ZS) : Option (Unit × ZS) := obd (f_X4_width N σ) fun v1 σ2 => f_X4_simplify_h10 N a1 v1 N (0 : Int64) (0 : Int32) σ2
set_option maxHeartbeats 4000000 in
set_option maxRecDepth 100000 in
theorem k_X4_simplify_h46 {l : Launch} {Y : ZY} {G : ZG} {σ' : ZS} (h : zOk (l, rm_X4_simplify, 6, 0, 0) Y G cX4_simplify RX4 none) (hq : zRet (l, rm_X4_simplify, 6, 0, 0) Y G none σ') (N : Nat) (a1 : Nat) (x2 : Int32) (x3 : Int64) : ∀ (n : Nat) (x5 : Int32) (σ : ZS), f_X4_simplify_h46 N a1 x2 x3 n x5 σ = some ((), σ') → Z (l, rm_X4_simplify, 6, 0, 0) Y G σ [(1, .ref (G.1 a1)), (2, .int x2), (3, .long x3), (5, .int x5)] [] 46 := by
  intro n
  induction n with
  | zero =>
    intro x5 σ hf
    rw [f_X4_simplify_h46] at hf
    cases hf
  | succ n ih =>
    intro x5 σ hf
    rw [f_X4_simplify_h46] at hf
    refine z_iload h dX4_simplify_46 3 rfl ?_
    refine z_iload_n h dX4_simplify_48 rfl 1 rfl ?_
    refine z_icmp_ge h (tgt := 66) dX4_simplify_49 (by decide) (fun g5 => ?_) (fun g5 => ?_)
    · have hf := it_pos g5 hf
      exact z_vret h (rt_V hf hq) dX4_simplify_66
    · have hf := it_neg g5 hf
      refine z_aload_n h dX4_simplify_52 rfl 0 rfl ?_
      refine z_iload h dX4_simplify_53 3 rfl ?_
      refine z_dup2_11 h dX4_simplify_55 rfl rfl ?_
      obtain ⟨g6, hf⟩ := ck_out hf
      obtain ⟨g7, hf⟩ := ck_out hf
      refine z_lald h (eq_of_beq g6) rfl g7 dX4_simplify_56 ?_
      refine z_lload_n h dX4_simplify_57 rfl 2 rfl ?_
      obtain ⟨g8, hf⟩ := ck_out hf
      refine z_ldiv h dX4_simplify_58 (nz_of g8) ?_
      refine z_topJ (fun v9 ev9 => ?_)
      have hf := bd_to ev9 hf
      obtain ⟨g10, hf⟩ := ck_out hf
      obtain ⟨g11, hf⟩ := ck_out hf
      refine z_last h (eq_of_beq g10) rfl g11 dX4_simplify_59 ?_
      refine z_gen (fun σ12 eσ12 => ?_)
      have hf := bd_to eσ12 hf
      obtain ⟨v13, ev13, hf⟩ := bd_ex hf
      refine z_iinc h (v := v13) (lv' := [(5, .int v13), (1, .ref (G.1 a1)), (2, .int x2), (3, .long x3)]) dX4_simplify_60 3 rfl (by rw [ev13]; rfl) rfl rfl ?_
      refine z_goto h (tgt := 46) dX4_simplify_63 (by decide) ?_
      exact z_sub [1, 2, 3, 0] rfl (ih _ _ hf)
set_option maxHeartbeats 4000000 in
set_option maxRecDepth 100000 in
theorem k_X4_simplify_b37 {l : Launch} {Y : ZY} {G : ZG} {σ' : ZS} (h : zOk (l, rm_X4_simplify, 6, 0, 0) Y G cX4_simplify RX4 none) (hq : zRet (l, rm_X4_simplify, 6, 0, 0) Y G none σ') (N : Nat) (a1 : Nat) (x2 : Int32) (x3 : Int64) (σ : ZS) (hf : f_X4_simplify_b37 N a1 x2 x3 σ = some ((), σ')) : Z (l, rm_X4_simplify, 6, 0, 0) Y G σ [(1, .ref (G.1 a1)), (2, .int x2), (3, .long x3)] [] 37 := by
  rw [f_X4_simplify_b37] at hf
  refine z_lload_n h dX4_simplify_37 rfl 2 rfl ?_
  refine z_lconst h (v := (1 : Int64)) dX4_simplify_38 lc_1 ?_
  refine z_lif_le h (tgt := 66) dX4_simplify_39 dX4_simplify_40 (by decide) (fun g4 => ?_) (fun g4 => ?_)
  · have hf := it_neg g4 hf
    exact z_vret h (rt_V hf hq) dX4_simplify_66
  · have hf := it_pos g4 hf
    refine z_iconst h (v := (0 : Int32)) dX4_simplify_43 ic_0 ?_
    refine z_istore h dX4_simplify_44 (lv' := [(5, .int (0 : Int32)), (1, .ref (G.1 a1)), (2, .int x2), (3, .long x3)]) rfl rfl ?_
    exact z_sub [1, 2, 3, 0] rfl (k_X4_simplify_h46 h hq N a1 x2 x3 _ _ _ hf)
set_option maxHeartbeats 4000000 in
set_option maxRecDepth 100000 in
theorem k_X4_simplify_h10 {l : Launch} {Y : ZY} {G : ZG} {σ' : ZS} (h : zOk (l, rm_X4_simplify, 6, 0, 0) Y G cX4_simplify RX4 none) (hq : zRet (l, rm_X4_simplify, 6, 0, 0) Y G none σ') (N : Nat) (a1 : Nat) (x2 : Int32) : ∀ (n : Nat) (x3 : Int64) (x5 : Int32) (σ : ZS), f_X4_simplify_h10 N a1 x2 n x3 x5 σ = some ((), σ') → Z (l, rm_X4_simplify, 6, 0, 0) Y G σ [(1, .ref (G.1 a1)), (2, .int x2), (3, .long x3), (5, .int x5)] [] 10 := by
  intro n
  induction n with
  | zero =>
    intro x3 x5 σ hf
    rw [f_X4_simplify_h10] at hf
    cases hf
  | succ n ih =>
    intro x3 x5 σ hf
    rw [f_X4_simplify_h10] at hf
    refine z_iload h dX4_simplify_10 3 rfl ?_
    refine z_iload_n h dX4_simplify_12 rfl 1 rfl ?_
    refine z_icmp_ge h (tgt := 37) dX4_simplify_13 (by decide) (fun g3 => ?_) (fun g3 => ?_)
    · have hf := it_pos g3 hf
      exact z_sub [0, 1, 2] rfl (k_X4_simplify_b37 h hq N a1 x2 x3 _ hf)
    · have hf := it_neg g3 hf
      refine z_lload_n h dX4_simplify_16 rfl 2 rfl ?_
      refine z_lconst h (v := (1 : Int64)) dX4_simplify_17 lc_1 ?_
      refine z_lif_eq h (tgt := 37) dX4_simplify_18 dX4_simplify_19 (by decide) (fun g14 => ?_) (fun g14 => ?_)
      · have hf := it_pos g14 hf
        exact z_sub [0, 1, 2] rfl (k_X4_simplify_b37 h hq N a1 x2 x3 _ hf)
      · have hf := it_neg g14 hf
        refine z_lload_n h dX4_simplify_22 rfl 2 rfl ?_
        refine z_aload_n h dX4_simplify_23 rfl 0 rfl ?_
        refine z_iload h dX4_simplify_24 3 rfl ?_
        obtain ⟨g15, hf⟩ := ck_out hf
        obtain ⟨g16, hf⟩ := ck_out hf
        refine z_lald h (eq_of_beq g15) rfl g16 dX4_simplify_26 ?_
        obtain ⟨v17, σ18, e18, hf⟩ := obd_out hf
        refine z_cSNv h (n := 2) (c_X5_gcd l G e18) rfl (by decide +kernel) wd_335 wd_2 wd_336 (by decide +kernel) ⟨rfl, rfl⟩ rfl rfl rfl dX4_simplify_27 ⟨Nat.zero_le _, Nat.zero_le _⟩ ?_
        refine z_lstore_n h dX4_simplify_30 rfl (lv' := [(3, .long v17), (1, .ref (G.1 a1)), (2, .int x2), (5, .int x5)]) rfl rfl ?_
        obtain ⟨v19, ev19, hf⟩ := bd_ex hf
        refine z_iinc h (v := v19) (lv' := [(5, .int v19), (3, .long v17), (1, .ref (G.1 a1)), (2, .int x2)]) dX4_simplify_31 3 rfl (by rw [ev19]; rfl) rfl rfl ?_
        refine z_goto h (tgt := 10) dX4_simplify_34 (by decide) ?_
        exact z_sub [2, 3, 1, 0] rfl (ih _ _ _ hf)
set_option maxHeartbeats 4000000 in
set_option maxRecDepth 100000 in
theorem c_X4_simplify (l : Launch) (G : ZG) {N : Nat} {a1 : Nat} {σ σ' : ZS} {r : Unit} (hf : f_X4_simplify N a1 σ = some (r, σ')) : zMet l G yX4_simplify cX4_simplify 6 none rm_X4_simplify [.ref (G.1 5), .ref (G.1 a1)] σ none σ' := by
  refine z_met (by decide +kernel) rfl (fun Y h hq => ?_)
  have h : zOk (l, rm_X4_simplify, 6, 0, 0) Y G cX4_simplify RX4 none := h
  rw [f_X4_simplify] at hf
  refine z_sub (lv' := [(0, .ref (G.1 5)), (1, .ref (G.1 a1))]) [0, 1] rfl ?_
  refine z_aload_n h dX4_simplify_0 rfl 0 rfl ?_
  obtain ⟨v1, σ2, e2, hf⟩ := obd_out hf
  refine z_cVv h (n := 0) (c_X4_width l G e2) zC4 tg_5 ln_5 rfl rfl wd_331 wd_332 wd_333 wd_64 wd_334 (by decide +kernel) ⟨rfl, rfl⟩ rfl rfl rfl dX4_simplify_1 ⟨Nat.zero_le _, Nat.zero_le _⟩ ?_
  refine z_istore_n h dX4_simplify_4 rfl (lv' := [(2, .int v1), (0, .ref (G.1 5)), (1, .ref (G.1 a1))]) rfl rfl ?_
  refine z_lconst h (v := (0 : Int64)) dX4_simplify_5 lc_0 ?_
  refine z_lstore_n h dX4_simplify_6 rfl (lv' := [(3, .long (0 : Int64)), (2, .int v1), (0, .ref (G.1 5)), (1, .ref (G.1 a1))]) rfl rfl ?_
  refine z_iconst h (v := (0 : Int32)) dX4_simplify_7 ic_0 ?_
  refine z_istore h dX4_simplify_8 (lv' := [(5, .int (0 : Int32)), (3, .long (0 : Int64)), (2, .int v1), (0, .ref (G.1 5)), (1, .ref (G.1 a1))]) rfl rfl ?_
  exact z_sub [4, 2, 1, 0] rfl (k_X4_simplify_h10 h hq N a1 v1 _ _ _ _ hf)
theorem dX4_cancel_0 : decode cX4_cancel 0 = .ok (.aload_n 1, 1) := by decide +kernel
theorem dX4_cancel_1 : decode cX4_cancel 1 = .ok (.iload_n 3, 1) := by decide +kernel
theorem dX4_cancel_2 : decode cX4_cancel 2 = .ok (.laload, 1) := by decide +kernel
theorem dX4_cancel_3 : decode cX4_cancel 3 = .ok (.aload_n 2, 1) := by decide +kernel
theorem dX4_cancel_4 : decode cX4_cancel 4 = .ok (.iload_n 3, 1) := by decide +kernel
theorem dX4_cancel_5 : decode cX4_cancel 5 = .ok (.laload, 1) := by decide +kernel
theorem dX4_cancel_6 : decode cX4_cancel 6 = .ok (.invokestatic 119, 3) := by decide +kernel
theorem dX4_cancel_9 : decode cX4_cancel 9 = .ok (.lstore 5, 2) := by decide +kernel
theorem dX4_cancel_11 : decode cX4_cancel 11 = .ok (.lload 5, 2) := by decide +kernel
theorem dX4_cancel_13 : decode cX4_cancel 13 = .ok (.lconst 0, 1) := by decide +kernel
theorem dX4_cancel_14 : decode cX4_cancel 14 = .ok (.lcmp, 1) := by decide +kernel
theorem dX4_cancel_15 : decode cX4_cancel 15 = .ok (.ifCond .ne 4, 3) := by decide +kernel
theorem dX4_cancel_18 : decode cX4_cancel 18 = .ok (.return_, 1) := by decide +kernel
theorem dX4_cancel_19 : decode cX4_cancel 19 = .ok (.aload_n 2, 1) := by decide +kernel
theorem dX4_cancel_20 : decode cX4_cancel 20 = .ok (.iload_n 3, 1) := by decide +kernel
theorem dX4_cancel_21 : decode cX4_cancel 21 = .ok (.laload, 1) := by decide +kernel
theorem dX4_cancel_22 : decode cX4_cancel 22 = .ok (.lload 5, 2) := by decide +kernel
theorem dX4_cancel_24 : decode cX4_cancel 24 = .ok (.ldiv, 1) := by decide +kernel
theorem dX4_cancel_25 : decode cX4_cancel 25 = .ok (.lstore 7, 2) := by decide +kernel
theorem dX4_cancel_27 : decode cX4_cancel 27 = .ok (.aload_n 1, 1) := by decide +kernel
theorem dX4_cancel_28 : decode cX4_cancel 28 = .ok (.iload_n 3, 1) := by decide +kernel
theorem dX4_cancel_29 : decode cX4_cancel 29 = .ok (.laload, 1) := by decide +kernel
theorem dX4_cancel_30 : decode cX4_cancel 30 = .ok (.lload 5, 2) := by decide +kernel
theorem dX4_cancel_32 : decode cX4_cancel 32 = .ok (.ldiv, 1) := by decide +kernel
theorem dX4_cancel_33 : decode cX4_cancel 33 = .ok (.lstore 9, 2) := by decide +kernel
theorem dX4_cancel_35 : decode cX4_cancel 35 = .ok (.aload_n 0, 1) := by decide +kernel
theorem dX4_cancel_36 : decode cX4_cancel 36 = .ok (.invokevirtual 115, 3) := by decide +kernel
theorem dX4_cancel_39 : decode cX4_cancel 39 = .ok (.istore 11, 2) := by decide +kernel
theorem dX4_cancel_41 : decode cX4_cancel 41 = .ok (.iconst 0, 1) := by decide +kernel
theorem dX4_cancel_42 : decode cX4_cancel 42 = .ok (.istore 12, 2) := by decide +kernel
theorem dX4_cancel_44 : decode cX4_cancel 44 = .ok (.iload 12, 2) := by decide +kernel
theorem dX4_cancel_46 : decode cX4_cancel 46 = .ok (.iload 11, 2) := by decide +kernel
theorem dX4_cancel_48 : decode cX4_cancel 48 = .ok (.if_icmp .ge 29, 3) := by decide +kernel
theorem dX4_cancel_51 : decode cX4_cancel 51 = .ok (.aload 4, 2) := by decide +kernel
theorem dX4_cancel_53 : decode cX4_cancel 53 = .ok (.iload 12, 2) := by decide +kernel
theorem dX4_cancel_55 : decode cX4_cancel 55 = .ok (.aload_n 1, 1) := by decide +kernel
theorem dX4_cancel_56 : decode cX4_cancel 56 = .ok (.iload 12, 2) := by decide +kernel
theorem dX4_cancel_58 : decode cX4_cancel 58 = .ok (.laload, 1) := by decide +kernel
theorem dX4_cancel_59 : decode cX4_cancel 59 = .ok (.lload 7, 2) := by decide +kernel
theorem dX4_cancel_61 : decode cX4_cancel 61 = .ok (.lmul, 1) := by decide +kernel
theorem dX4_cancel_62 : decode cX4_cancel 62 = .ok (.aload_n 2, 1) := by decide +kernel
theorem dX4_cancel_63 : decode cX4_cancel 63 = .ok (.iload 12, 2) := by decide +kernel
theorem dX4_cancel_65 : decode cX4_cancel 65 = .ok (.laload, 1) := by decide +kernel
theorem dX4_cancel_66 : decode cX4_cancel 66 = .ok (.lload 9, 2) := by decide +kernel
theorem dX4_cancel_68 : decode cX4_cancel 68 = .ok (.lmul, 1) := by decide +kernel
theorem dX4_cancel_69 : decode cX4_cancel 69 = .ok (.lsub, 1) := by decide +kernel
theorem dX4_cancel_70 : decode cX4_cancel 70 = .ok (.lastore, 1) := by decide +kernel
theorem dX4_cancel_71 : decode cX4_cancel 71 = .ok (.iinc 12 1, 3) := by decide +kernel
theorem dX4_cancel_74 : decode cX4_cancel 74 = .ok (.goto (-30), 3) := by decide +kernel
theorem dX4_cancel_77 : decode cX4_cancel 77 = .ok (.aload_n 0, 1) := by decide +kernel
theorem dX4_cancel_78 : decode cX4_cancel 78 = .ok (.aload 4, 2) := by decide +kernel
theorem dX4_cancel_80 : decode cX4_cancel 80 = .ok (.invokevirtual 51, 3) := by decide +kernel
theorem dX4_cancel_83 : decode cX4_cancel 83 = .ok (.return_, 1) := by decide +kernel
abbrev rm_X4_cancel : Room := { frames := 3, cells := 0, slots := 0, locals := 100 }
noncomputable def f_X4_cancel_h44 (N : Nat) (a1 : Nat) (a2 : Nat) (a4 : Nat) (x7 : Int64) (x9 : Int64) (x11 : Int32) : Nat → Int32 → ZS → Option (Unit × ZS)
  | 0, _, _ => none
  | n + 1, x12, σ => (if x11 ≤ x12 then obd (f_X4_simplify N a4 σ) fun _ σ20 => some ((), σ20) else ck (tg a1 == 2) (ck (inb x12 (ln a1)) (ck (tg a2 == 2) (ck (inb x12 (ln a2)) (bd (((gJ σ a1 (x12.toNatClampNeg)) * x7) - ((gJ σ a2 (x12.toNatClampNeg)) * x9)) fun v25 => ck (tg a4 == 2) (ck (inb x12 (ln a4)) (bd (sJ σ a4 (x12.toNatClampNeg) v25) fun σ28 => bd (x12 + (1 : Int32)) fun v29 => f_X4_cancel_h44 N a1 a2 a4 x7 x9 x11 n v29 σ28)))))))
noncomputable def f_X4_cancel (N : Nat) (a1 : Nat) (a2 : Nat) (x3 : Int32) (a4 : Nat) (σ : ZS) : Option (Unit × ZS) := ck (tg a1 == 2) (ck (inb x3 (ln a1)) (ck (tg a2 == 2) (ck (inb x3 (ln a2)) (obd (f_X5_gcd N (gJ σ a1 (x3.toNatClampNeg)) (gJ σ a2 (x3.toNatClampNeg)) σ) fun v5 σ6 => (if v5 = (0 : Int64) then some ((), σ6) else ck (tg a2 == 2) (ck (inb x3 (ln a2)) (ck (!(v5 == 0)) (bd ((gJ σ6 a2 (x3.toNatClampNeg)) / v5) fun v11 => ck (tg a1 == 2) (ck (inb x3 (ln a1)) (ck (!(v5 == 0)) (bd ((gJ σ6 a1 (x3.toNatClampNeg)) / v5) fun v15 => obd (f_X4_width N σ6) fun v16 σ17 => f_X4_cancel_h44 N a1 a2 a4 v11 v15 v16 N (0 : Int32) σ17)))))))))))
set_option maxHeartbeats 4000000 in
set_option maxRecDepth 100000 in
theorem k_X4_cancel_h44 {l : Launch} {Y : ZY} {G : ZG} {σ' : ZS} (h : zOk (l, rm_X4_cancel, 13, 0, 0) Y G cX4_cancel RX4 none) (hq : zRet (l, rm_X4_cancel, 13, 0, 0) Y G none σ') (N : Nat) (a1 : Nat) (a2 : Nat) (a4 : Nat) (x7 : Int64) (x9 : Int64) (x11 : Int32) : ∀ (n : Nat) (x12 : Int32) (σ : ZS), f_X4_cancel_h44 N a1 a2 a4 x7 x9 x11 n x12 σ = some ((), σ') → Z (l, rm_X4_cancel, 13, 0, 0) Y G σ [(0, .ref (G.1 5)), (1, .ref (G.1 a1)), (2, .ref (G.1 a2)), (4, .ref (G.1 a4)), (7, .long x7), (9, .long x9), (11, .int x11), (12, .int x12)] [] 44 := by
  intro n
  induction n with
  | zero =>
    intro x12 σ hf
    rw [f_X4_cancel_h44] at hf
    cases hf
  | succ n ih =>
    intro x12 σ hf
    rw [f_X4_cancel_h44] at hf
    refine z_iload h dX4_cancel_44 7 rfl ?_
    refine z_iload h dX4_cancel_46 6 rfl ?_
    refine z_icmp_ge h (tgt := 77) dX4_cancel_48 (by decide) (fun g18 => ?_) (fun g18 => ?_)
    · have hf := it_pos g18 hf
      refine z_aload_n h dX4_cancel_77 rfl 0 rfl ?_
      refine z_aload h dX4_cancel_78 3 rfl ?_
      obtain ⟨v19, σ20, e20, hf⟩ := obd_out hf
      refine z_cV0 h (n := 1) (c_X4_simplify l G e20) zC4 tg_5 ln_5 rfl rfl wd_327 wd_328 wd_329 wd_64 wd_330 (by decide +kernel) ⟨rfl, rfl⟩ rfl rfl rfl dX4_cancel_80 ⟨Nat.zero_le _, Nat.zero_le _⟩ ?_
      exact z_vret h (rt_V hf hq) dX4_cancel_83
    · have hf := it_neg g18 hf
      refine z_aload h dX4_cancel_51 3 rfl ?_
      refine z_iload h dX4_cancel_53 7 rfl ?_
      refine z_aload_n h dX4_cancel_55 rfl 1 rfl ?_
      refine z_iload h dX4_cancel_56 7 rfl ?_
      obtain ⟨g21, hf⟩ := ck_out hf
      obtain ⟨g22, hf⟩ := ck_out hf
      refine z_lald h (eq_of_beq g21) rfl g22 dX4_cancel_58 ?_
      refine z_lload h dX4_cancel_59 4 rfl ?_
      refine z_lmul h dX4_cancel_61 ?_
      refine z_aload_n h dX4_cancel_62 rfl 2 rfl ?_
      refine z_iload h dX4_cancel_63 7 rfl ?_
      obtain ⟨g23, hf⟩ := ck_out hf
      obtain ⟨g24, hf⟩ := ck_out hf
      refine z_lald h (eq_of_beq g23) rfl g24 dX4_cancel_65 ?_
      refine z_lload h dX4_cancel_66 5 rfl ?_
      refine z_lmul h dX4_cancel_68 ?_
      refine z_lsub h dX4_cancel_69 ?_
      refine z_topJ (fun v25 ev25 => ?_)
      have hf := bd_to ev25 hf
      obtain ⟨g26, hf⟩ := ck_out hf
      obtain ⟨g27, hf⟩ := ck_out hf
      refine z_last h (eq_of_beq g26) rfl g27 dX4_cancel_70 ?_
      refine z_gen (fun σ28 eσ28 => ?_)
      have hf := bd_to eσ28 hf
      obtain ⟨v29, ev29, hf⟩ := bd_ex hf
      refine z_iinc h (v := v29) (lv' := [(12, .int v29), (0, .ref (G.1 5)), (1, .ref (G.1 a1)), (2, .ref (G.1 a2)), (4, .ref (G.1 a4)), (7, .long x7), (9, .long x9), (11, .int x11)]) dX4_cancel_71 7 rfl (by rw [ev29]; rfl) rfl rfl ?_
      refine z_goto h (tgt := 44) dX4_cancel_74 (by decide) ?_
      exact z_sub [1, 2, 3, 4, 5, 6, 7, 0] rfl (ih _ _ hf)
set_option maxHeartbeats 4000000 in
set_option maxRecDepth 100000 in
theorem c_X4_cancel (l : Launch) (G : ZG) {N : Nat} {a1 : Nat} {a2 : Nat} {x3 : Int32} {a4 : Nat} {σ σ' : ZS} {r : Unit} (hf : f_X4_cancel N a1 a2 x3 a4 σ = some (r, σ')) : zMet l G yX4_cancel cX4_cancel 13 none rm_X4_cancel [.ref (G.1 5), .ref (G.1 a1), .ref (G.1 a2), .int x3, .ref (G.1 a4)] σ none σ' := by
  refine z_met (by decide +kernel) rfl (fun Y h hq => ?_)
  have h : zOk (l, rm_X4_cancel, 13, 0, 0) Y G cX4_cancel RX4 none := h
  rw [f_X4_cancel] at hf
  refine z_sub (lv' := [(0, .ref (G.1 5)), (1, .ref (G.1 a1)), (2, .ref (G.1 a2)), (3, .int x3), (4, .ref (G.1 a4))]) [0, 1, 2, 3, 4] rfl ?_
  refine z_aload_n h dX4_cancel_0 rfl 1 rfl ?_
  refine z_iload_n h dX4_cancel_1 rfl 3 rfl ?_
  obtain ⟨g1, hf⟩ := ck_out hf
  obtain ⟨g2, hf⟩ := ck_out hf
  refine z_lald h (eq_of_beq g1) rfl g2 dX4_cancel_2 ?_
  refine z_aload_n h dX4_cancel_3 rfl 2 rfl ?_
  refine z_iload_n h dX4_cancel_4 rfl 3 rfl ?_
  obtain ⟨g3, hf⟩ := ck_out hf
  obtain ⟨g4, hf⟩ := ck_out hf
  refine z_lald h (eq_of_beq g3) rfl g4 dX4_cancel_5 ?_
  obtain ⟨v5, σ6, e6, hf⟩ := obd_out hf
  refine z_cSNv h (n := 2) (c_X5_gcd l G e6) rfl (by decide +kernel) wd_335 wd_2 wd_336 (by decide +kernel) ⟨rfl, rfl⟩ rfl rfl rfl dX4_cancel_6 ⟨Nat.zero_le _, Nat.zero_le _⟩ ?_
  refine z_lstore h dX4_cancel_9 (lv' := [(5, .long v5), (0, .ref (G.1 5)), (1, .ref (G.1 a1)), (2, .ref (G.1 a2)), (3, .int x3), (4, .ref (G.1 a4))]) rfl rfl ?_
  refine z_lload h dX4_cancel_11 0 rfl ?_
  refine z_lconst h (v := (0 : Int64)) dX4_cancel_13 lc_0 ?_
  refine z_lif_ne h (tgt := 19) dX4_cancel_14 dX4_cancel_15 (by decide) (fun g7 => ?_) (fun g7 => ?_)
  · have hf := it_neg g7 hf
    refine z_aload_n h dX4_cancel_19 rfl 3 rfl ?_
    refine z_iload_n h dX4_cancel_20 rfl 4 rfl ?_
    obtain ⟨g8, hf⟩ := ck_out hf
    obtain ⟨g9, hf⟩ := ck_out hf
    refine z_lald h (eq_of_beq g8) rfl g9 dX4_cancel_21 ?_
    refine z_lload h dX4_cancel_22 0 rfl ?_
    obtain ⟨g10, hf⟩ := ck_out hf
    refine z_ldiv h dX4_cancel_24 (nz_of g10) ?_
    refine z_topJ (fun v11 ev11 => ?_)
    have hf := bd_to ev11 hf
    refine z_lstore h dX4_cancel_25 (lv' := [(7, .long v11), (5, .long v5), (0, .ref (G.1 5)), (1, .ref (G.1 a1)), (2, .ref (G.1 a2)), (3, .int x3), (4, .ref (G.1 a4))]) rfl rfl ?_
    refine z_aload_n h dX4_cancel_27 rfl 3 rfl ?_
    refine z_iload_n h dX4_cancel_28 rfl 5 rfl ?_
    obtain ⟨g12, hf⟩ := ck_out hf
    obtain ⟨g13, hf⟩ := ck_out hf
    refine z_lald h (eq_of_beq g12) rfl g13 dX4_cancel_29 ?_
    refine z_lload h dX4_cancel_30 1 rfl ?_
    obtain ⟨g14, hf⟩ := ck_out hf
    refine z_ldiv h dX4_cancel_32 (nz_of g14) ?_
    refine z_topJ (fun v15 ev15 => ?_)
    have hf := bd_to ev15 hf
    refine z_lstore h dX4_cancel_33 (lv' := [(9, .long v15), (7, .long v11), (5, .long v5), (0, .ref (G.1 5)), (1, .ref (G.1 a1)), (2, .ref (G.1 a2)), (3, .int x3), (4, .ref (G.1 a4))]) rfl rfl ?_
    refine z_aload_n h dX4_cancel_35 rfl 3 rfl ?_
    obtain ⟨v16, σ17, e17, hf⟩ := obd_out hf
    refine z_cVv h (n := 0) (c_X4_width l G e17) zC4 tg_5 ln_5 rfl rfl wd_331 wd_332 wd_333 wd_64 wd_334 (by decide +kernel) ⟨rfl, rfl⟩ rfl rfl rfl dX4_cancel_36 ⟨Nat.zero_le _, Nat.zero_le _⟩ ?_
    refine z_istore h dX4_cancel_39 (lv' := [(11, .int v16), (9, .long v15), (7, .long v11), (5, .long v5), (0, .ref (G.1 5)), (1, .ref (G.1 a1)), (2, .ref (G.1 a2)), (3, .int x3), (4, .ref (G.1 a4))]) rfl rfl ?_
    refine z_iconst h (v := (0 : Int32)) dX4_cancel_41 ic_0 ?_
    refine z_istore h dX4_cancel_42 (lv' := [(12, .int (0 : Int32)), (11, .int v16), (9, .long v15), (7, .long v11), (5, .long v5), (0, .ref (G.1 5)), (1, .ref (G.1 a1)), (2, .ref (G.1 a2)), (3, .int x3), (4, .ref (G.1 a4))]) rfl rfl ?_
    exact z_sub [5, 6, 7, 9, 3, 2, 1, 0] rfl (k_X4_cancel_h44 h hq N a1 a2 a4 v11 v15 v16 _ _ _ hf)
  · have hf := it_pos g7 hf
    exact z_vret h (rt_V hf hq) dX4_cancel_18
theorem dX4_joinGroups_0 : decode cX4_joinGroups 0 = .ok (.iconst 0, 1) := by decide +kernel
theorem dX4_joinGroups_1 : decode cX4_joinGroups 1 = .ok (.istore_n 3, 1) := by decide +kernel
theorem dX4_joinGroups_2 : decode cX4_joinGroups 2 = .ok (.iload_n 3, 1) := by decide +kernel
theorem dX4_joinGroups_3 : decode cX4_joinGroups 3 = .ok (.aload_n 1, 1) := by decide +kernel
theorem dX4_joinGroups_4 : decode cX4_joinGroups 4 = .ok (.getfield 67, 3) := by decide +kernel
theorem dX4_joinGroups_7 : decode cX4_joinGroups 7 = .ok (.if_icmp .ge 16, 3) := by decide +kernel
theorem dX4_joinGroups_10 : decode cX4_joinGroups 10 = .ok (.aload_n 0, 1) := by decide +kernel
theorem dX4_joinGroups_11 : decode cX4_joinGroups 11 = .ok (.getfield 16, 3) := by decide +kernel
theorem dX4_joinGroups_14 : decode cX4_joinGroups 14 = .ok (.iload_n 3, 1) := by decide +kernel
theorem dX4_joinGroups_15 : decode cX4_joinGroups 15 = .ok (.iload_n 3, 1) := by decide +kernel
theorem dX4_joinGroups_16 : decode cX4_joinGroups 16 = .ok (.iastore, 1) := by decide +kernel
theorem dX4_joinGroups_17 : decode cX4_joinGroups 17 = .ok (.iinc 3 1, 3) := by decide +kernel
theorem dX4_joinGroups_20 : decode cX4_joinGroups 20 = .ok (.goto (-18), 3) := by decide +kernel
theorem dX4_joinGroups_23 : decode cX4_joinGroups 23 = .ok (.iconst 0, 1) := by decide +kernel
theorem dX4_joinGroups_24 : decode cX4_joinGroups 24 = .ok (.istore_n 3, 1) := by decide +kernel
theorem dX4_joinGroups_25 : decode cX4_joinGroups 25 = .ok (.iload_n 3, 1) := by decide +kernel
theorem dX4_joinGroups_26 : decode cX4_joinGroups 26 = .ok (.aload_n 1, 1) := by decide +kernel
theorem dX4_joinGroups_27 : decode cX4_joinGroups 27 = .ok (.getfield 38, 3) := by decide +kernel
theorem dX4_joinGroups_30 : decode cX4_joinGroups 30 = .ok (.if_icmp .ge 93, 3) := by decide +kernel
theorem dX4_joinGroups_33 : decode cX4_joinGroups 33 = .ok (.aload_n 1, 1) := by decide +kernel
theorem dX4_joinGroups_34 : decode cX4_joinGroups 34 = .ok (.iload_n 3, 1) := by decide +kernel
theorem dX4_joinGroups_35 : decode cX4_joinGroups 35 = .ok (.invokevirtual 78, 3) := by decide +kernel
theorem dX4_joinGroups_38 : decode cX4_joinGroups 38 = .ok (.iload_n 2, 1) := by decide +kernel
theorem dX4_joinGroups_39 : decode cX4_joinGroups 39 = .ok (.if_icmp .ne 78, 3) := by decide +kernel
theorem dX4_joinGroups_42 : decode cX4_joinGroups 42 = .ok (.aload_n 0, 1) := by decide +kernel
theorem dX4_joinGroups_43 : decode cX4_joinGroups 43 = .ok (.getfield 16, 3) := by decide +kernel
theorem dX4_joinGroups_46 : decode cX4_joinGroups 46 = .ok (.aload_n 1, 1) := by decide +kernel
theorem dX4_joinGroups_47 : decode cX4_joinGroups 47 = .ok (.getfield 82, 3) := by decide +kernel
theorem dX4_joinGroups_50 : decode cX4_joinGroups 50 = .ok (.iload_n 3, 1) := by decide +kernel
theorem dX4_joinGroups_51 : decode cX4_joinGroups 51 = .ok (.iaload, 1) := by decide +kernel
theorem dX4_joinGroups_52 : decode cX4_joinGroups 52 = .ok (.iaload, 1) := by decide +kernel
theorem dX4_joinGroups_53 : decode cX4_joinGroups 53 = .ok (.istore 4, 2) := by decide +kernel
theorem dX4_joinGroups_55 : decode cX4_joinGroups 55 = .ok (.aload_n 0, 1) := by decide +kernel
theorem dX4_joinGroups_56 : decode cX4_joinGroups 56 = .ok (.getfield 16, 3) := by decide +kernel
theorem dX4_joinGroups_59 : decode cX4_joinGroups 59 = .ok (.aload_n 1, 1) := by decide +kernel
theorem dX4_joinGroups_60 : decode cX4_joinGroups 60 = .ok (.getfield 85, 3) := by decide +kernel
theorem dX4_joinGroups_63 : decode cX4_joinGroups 63 = .ok (.iload_n 3, 1) := by decide +kernel
theorem dX4_joinGroups_64 : decode cX4_joinGroups 64 = .ok (.iaload, 1) := by decide +kernel
theorem dX4_joinGroups_65 : decode cX4_joinGroups 65 = .ok (.iaload, 1) := by decide +kernel
theorem dX4_joinGroups_66 : decode cX4_joinGroups 66 = .ok (.istore 5, 2) := by decide +kernel
theorem dX4_joinGroups_68 : decode cX4_joinGroups 68 = .ok (.iconst 0, 1) := by decide +kernel
theorem dX4_joinGroups_69 : decode cX4_joinGroups 69 = .ok (.istore 6, 2) := by decide +kernel
theorem dX4_joinGroups_71 : decode cX4_joinGroups 71 = .ok (.iload 6, 2) := by decide +kernel
theorem dX4_joinGroups_73 : decode cX4_joinGroups 73 = .ok (.aload_n 1, 1) := by decide +kernel
theorem dX4_joinGroups_74 : decode cX4_joinGroups 74 = .ok (.getfield 67, 3) := by decide +kernel
theorem dX4_joinGroups_77 : decode cX4_joinGroups 77 = .ok (.if_icmp .ge 40, 3) := by decide +kernel
theorem dX4_joinGroups_80 : decode cX4_joinGroups 80 = .ok (.aload_n 0, 1) := by decide +kernel
theorem dX4_joinGroups_81 : decode cX4_joinGroups 81 = .ok (.getfield 16, 3) := by decide +kernel
theorem dX4_joinGroups_84 : decode cX4_joinGroups 84 = .ok (.iload 6, 2) := by decide +kernel
theorem dX4_joinGroups_86 : decode cX4_joinGroups 86 = .ok (.aload_n 0, 1) := by decide +kernel
theorem dX4_joinGroups_87 : decode cX4_joinGroups 87 = .ok (.getfield 16, 3) := by decide +kernel
theorem dX4_joinGroups_90 : decode cX4_joinGroups 90 = .ok (.iload 6, 2) := by decide +kernel
theorem dX4_joinGroups_92 : decode cX4_joinGroups 92 = .ok (.iaload, 1) := by decide +kernel
theorem dX4_joinGroups_93 : decode cX4_joinGroups 93 = .ok (.iload 4, 2) := by decide +kernel
theorem dX4_joinGroups_95 : decode cX4_joinGroups 95 = .ok (.if_icmp .ne 8, 3) := by decide +kernel
theorem dX4_joinGroups_98 : decode cX4_joinGroups 98 = .ok (.iload 5, 2) := by decide +kernel
theorem dX4_joinGroups_100 : decode cX4_joinGroups 100 = .ok (.goto 10, 3) := by decide +kernel
theorem dX4_joinGroups_103 : decode cX4_joinGroups 103 = .ok (.aload_n 0, 1) := by decide +kernel
theorem dX4_joinGroups_104 : decode cX4_joinGroups 104 = .ok (.getfield 16, 3) := by decide +kernel
theorem dX4_joinGroups_107 : decode cX4_joinGroups 107 = .ok (.iload 6, 2) := by decide +kernel
theorem dX4_joinGroups_109 : decode cX4_joinGroups 109 = .ok (.iaload, 1) := by decide +kernel
theorem dX4_joinGroups_110 : decode cX4_joinGroups 110 = .ok (.iastore, 1) := by decide +kernel
theorem dX4_joinGroups_111 : decode cX4_joinGroups 111 = .ok (.iinc 6 1, 3) := by decide +kernel
theorem dX4_joinGroups_114 : decode cX4_joinGroups 114 = .ok (.goto (-43), 3) := by decide +kernel
theorem dX4_joinGroups_117 : decode cX4_joinGroups 117 = .ok (.iinc 3 1, 3) := by decide +kernel
theorem dX4_joinGroups_120 : decode cX4_joinGroups 120 = .ok (.goto (-95), 3) := by decide +kernel
theorem dX4_joinGroups_123 : decode cX4_joinGroups 123 = .ok (.return_, 1) := by decide +kernel
abbrev rm_X4_joinGroups : Room := { frames := 1, cells := 0, slots := 0, locals := 29 }
noncomputable def f_X4_joinGroups_b117 (N : Nat) (kb25 : Int32 → ZS → Option (Unit × ZS)) (x2 : Int32) (x3 : Int32) (σ : ZS) : Option (Unit × ZS) := bd (x3 + (1 : Int32)) fun v6 => kb25 v6 σ
noncomputable def f_X4_joinGroups_b110 (N : Nat) (kb71 : Int32 → ZS → Option (Unit × ZS)) (x2 : Int32) (x3 : Int32) (x4 : Int32) (x5 : Int32) (x6 : Int32) (s1 : Int32) (s2 : Int32) (σ : ZS) : Option (Unit × ZS) := ck (inb s1 7) (bd (sI σ 56 (s1.toNatClampNeg) s2) fun σ18 => bd (x6 + (1 : Int32)) fun v19 => kb71 v19 σ18)
noncomputable def f_X4_joinGroups_h71 (N : Nat) (kb25 : Int32 → ZS → Option (Unit × ZS)) (x2 : Int32) (x3 : Int32) (x4 : Int32) (x5 : Int32) : Nat → Int32 → ZS → Option (Unit × ZS)
  | 0, _, _ => none
  | n + 1, x6, σ => (if (gI σ 2 0) ≤ x6 then f_X4_joinGroups_b117 N kb25 x2 x3 σ else ck (inb x6 7) ((if (gI σ 56 (x6.toNatClampNeg)) = x4 then f_X4_joinGroups_b110 N (fun x6_ σ_ => f_X4_joinGroups_h71 N kb25 x2 x3 x4 x5 n x6_ σ_) x2 x3 x4 x5 x6 x6 x5 σ else ck (inb x6 7) (f_X4_joinGroups_b110 N (fun x6_ σ_ => f_X4_joinGroups_h71 N kb25 x2 x3 x4 x5 n x6_ σ_) x2 x3 x4 x5 x6 x6 (gI σ 56 (x6.toNatClampNeg)) σ))))
noncomputable def f_X4_joinGroups_h25 (N : Nat) (x2 : Int32) : Nat → Int32 → ZS → Option (Unit × ZS)
  | 0, _, _ => none
  | n + 1, x3, σ => (if (gI σ 2 1) ≤ x3 then some ((), σ) else obd (f_X2_isVertical N x3 σ) fun v3 σ4 => (if v3 = x2 then ck (inb x3 6) (ck (inb (gI σ4 24 (x3.toNatClampNeg)) 7) (bd (gI σ4 56 ((gI σ4 24 (x3.toNatClampNeg)).toNatClampNeg)) fun v9 => ck (inb x3 6) (ck (inb (gI σ4 23 (x3.toNatClampNeg)) 7) (bd (gI σ4 56 ((gI σ4 23 (x3.toNatClampNeg)).toNatClampNeg)) fun v12 => f_X4_joinGroups_h71 N (fun x3_ σ_ => f_X4_joinGroups_h25 N x2 n x3_ σ_) x2 x3 v9 v12 N (0 : Int32) σ4)))) else f_X4_joinGroups_b117 N (fun x3_ σ_ => f_X4_joinGroups_h25 N x2 n x3_ σ_) x2 x3 σ4))
noncomputable def f_X4_joinGroups_h2 (N : Nat) (x2 : Int32) : Nat → Int32 → ZS → Option (Unit × ZS)
  | 0, _, _ => none
  | n + 1, x3, σ => (if (gI σ 2 0) ≤ x3 then f_X4_joinGroups_h25 N x2 N (0 : Int32) σ else ck (inb x3 7) (bd (sI σ 56 (x3.toNatClampNeg) x3) fun σ21 => bd (x3 + (1 : Int32)) fun v22 => f_X4_joinGroups_h2 N x2 n v22 σ21))
noncomputable def f_X4_joinGroups (N : Nat) (x2 : Int32) (σ : ZS) : Option (Unit × ZS) := f_X4_joinGroups_h2 N x2 N (0 : Int32) σ
set_option maxHeartbeats 4000000 in
set_option maxRecDepth 100000 in
theorem k_X4_joinGroups_b117 {l : Launch} {Y : ZY} {G : ZG} {σ' : ZS} (h : zOk (l, rm_X4_joinGroups, 7, 0, 0) Y G cX4_joinGroups RX4 none) (hq : zRet (l, rm_X4_joinGroups, 7, 0, 0) Y G none σ') (N : Nat) {kb25 : Int32 → ZS → Option (Unit × ZS)} (x2 : Int32) (x3 : Int32) (hb25 : ∀ (x3_ : Int32) (σ_ : ZS), kb25 x3_ σ_ = some ((), σ') → Z (l, rm_X4_joinGroups, 7, 0, 0) Y G σ_ [(0, .ref (G.1 5)), (1, .ref (G.1 2)), (2, .int x2), (3, .int x3_)] [] 25) (σ : ZS) (hf : f_X4_joinGroups_b117 N kb25 x2 x3 σ = some ((), σ')) : Z (l, rm_X4_joinGroups, 7, 0, 0) Y G σ [(0, .ref (G.1 5)), (1, .ref (G.1 2)), (2, .int x2), (3, .int x3)] [] 117 := by
  rw [f_X4_joinGroups_b117] at hf
  obtain ⟨v6, ev6, hf⟩ := bd_ex hf
  refine z_iinc h (v := v6) (lv' := [(3, .int v6), (0, .ref (G.1 5)), (1, .ref (G.1 2)), (2, .int x2)]) dX4_joinGroups_117 3 rfl (by rw [ev6]; rfl) rfl rfl ?_
  refine z_goto h (tgt := 25) dX4_joinGroups_120 (by decide) ?_
  exact z_sub [1, 2, 3, 0] rfl (hb25 _ _ hf)
set_option maxHeartbeats 4000000 in
set_option maxRecDepth 100000 in
theorem k_X4_joinGroups_b110 {l : Launch} {Y : ZY} {G : ZG} {σ' : ZS} (h : zOk (l, rm_X4_joinGroups, 7, 0, 0) Y G cX4_joinGroups RX4 none) (hq : zRet (l, rm_X4_joinGroups, 7, 0, 0) Y G none σ') (N : Nat) {kb71 : Int32 → ZS → Option (Unit × ZS)} (x2 : Int32) (x3 : Int32) (x4 : Int32) (x5 : Int32) (x6 : Int32) (s1 : Int32) (s2 : Int32) (hb71 : ∀ (x6_ : Int32) (σ_ : ZS), kb71 x6_ σ_ = some ((), σ') → Z (l, rm_X4_joinGroups, 7, 0, 0) Y G σ_ [(0, .ref (G.1 5)), (1, .ref (G.1 2)), (2, .int x2), (3, .int x3), (4, .int x4), (5, .int x5), (6, .int x6_)] [] 71) (σ : ZS) (hf : f_X4_joinGroups_b110 N kb71 x2 x3 x4 x5 x6 s1 s2 σ = some ((), σ')) : Z (l, rm_X4_joinGroups, 7, 0, 0) Y G σ [(0, .ref (G.1 5)), (1, .ref (G.1 2)), (2, .int x2), (3, .int x3), (4, .int x4), (5, .int x5), (6, .int x6)] [.int s2, .int s1, .ref (G.1 56)] 110 := by
  rw [f_X4_joinGroups_b110] at hf
  obtain ⟨g17, hf⟩ := ck_out hf
  refine z_iast h (c := 56) tg_56 ln_56 g17 dX4_joinGroups_110 ?_
  refine z_gen (fun σ18 eσ18 => ?_)
  have hf := bd_to eσ18 hf
  obtain ⟨v19, ev19, hf⟩ := bd_ex hf
  refine z_iinc h (v := v19) (lv' := [(6, .int v19), (0, .ref (G.1 5)), (1, .ref (G.1 2)), (2, .int x2), (3, .int x3), (4, .int x4), (5, .int x5)]) dX4_joinGroups_111 6 rfl (by rw [ev19]; rfl) rfl rfl ?_
  refine z_goto h (tgt := 71) dX4_joinGroups_114 (by decide) ?_
  exact z_sub [1, 2, 3, 4, 5, 6, 0] rfl (hb71 _ _ hf)
set_option maxHeartbeats 4000000 in
set_option maxRecDepth 100000 in
theorem k_X4_joinGroups_h71 {l : Launch} {Y : ZY} {G : ZG} {σ' : ZS} (h : zOk (l, rm_X4_joinGroups, 7, 0, 0) Y G cX4_joinGroups RX4 none) (hq : zRet (l, rm_X4_joinGroups, 7, 0, 0) Y G none σ') (N : Nat) {kb25 : Int32 → ZS → Option (Unit × ZS)} (x2 : Int32) (x3 : Int32) (x4 : Int32) (x5 : Int32) (hb25 : ∀ (x3_ : Int32) (σ_ : ZS), kb25 x3_ σ_ = some ((), σ') → Z (l, rm_X4_joinGroups, 7, 0, 0) Y G σ_ [(0, .ref (G.1 5)), (1, .ref (G.1 2)), (2, .int x2), (3, .int x3_)] [] 25) : ∀ (n : Nat) (x6 : Int32) (σ : ZS), f_X4_joinGroups_h71 N kb25 x2 x3 x4 x5 n x6 σ = some ((), σ') → Z (l, rm_X4_joinGroups, 7, 0, 0) Y G σ [(0, .ref (G.1 5)), (1, .ref (G.1 2)), (2, .int x2), (3, .int x3), (4, .int x4), (5, .int x5), (6, .int x6)] [] 71 := by
  intro n
  induction n with
  | zero =>
    intro x6 σ hf
    rw [f_X4_joinGroups_h71] at hf
    cases hf
  | succ n ih =>
    intro x6 σ hf
    rw [f_X4_joinGroups_h71] at hf
    refine z_iload h dX4_joinGroups_71 6 rfl ?_
    refine z_aload_n h dX4_joinGroups_73 rfl 1 rfl ?_
    refine z_gfIN h zC2 (c := 2) tg_2 ln_2 0 rfl ft_2_0 (by decide +kernel) dX4_joinGroups_74 ?_
    refine z_icmp_ge h (tgt := 117) dX4_joinGroups_77 (by decide) (fun g13 => ?_) (fun g13 => ?_)
    · have hf := it_pos g13 hf
      exact z_sub [0, 1, 2, 3] rfl (k_X4_joinGroups_b117 h hq N x2 x3 hb25 _ hf)
    · have hf := it_neg g13 hf
      refine z_aload_n h dX4_joinGroups_80 rfl 0 rfl ?_
      refine z_gfR h zC4 (d := 56) (c := 5) tg_5 ln_5 1 rfl ft_4_1 rf_5_1 wd_75 dX4_joinGroups_81 ?_
      refine z_iload h dX4_joinGroups_84 6 rfl ?_
      refine z_aload_n h dX4_joinGroups_86 rfl 0 rfl ?_
      refine z_gfR h zC4 (d := 56) (c := 5) tg_5 ln_5 1 rfl ft_4_1 rf_5_1 wd_75 dX4_joinGroups_87 ?_
      refine z_iload h dX4_joinGroups_90 6 rfl ?_
      obtain ⟨g14, hf⟩ := ck_out hf
      refine z_iald h (c := 56) tg_56 ln_56 g14 dX4_joinGroups_92 ?_
      refine z_iload h dX4_joinGroups_93 4 rfl ?_
      refine z_icmp_ne h (tgt := 103) dX4_joinGroups_95 (by decide) (fun g15 => ?_) (fun g15 => ?_)
      · have hf := it_neg g15 hf
        refine z_aload_n h dX4_joinGroups_103 rfl 0 rfl ?_
        refine z_gfR h zC4 (d := 56) (c := 5) tg_5 ln_5 1 rfl ft_4_1 rf_5_1 wd_75 dX4_joinGroups_104 ?_
        refine z_iload h dX4_joinGroups_107 6 rfl ?_
        obtain ⟨g16, hf⟩ := ck_out hf
        refine z_iald h (c := 56) tg_56 ln_56 g16 dX4_joinGroups_109 ?_
        exact z_sub [0, 1, 2, 3, 4, 5, 6] rfl (k_X4_joinGroups_b110 h hq N x2 x3 x4 x5 x6 x6 (gI σ 56 (x6.toNatClampNeg)) (fun x6_ σ_ hf_ => ih x6_ σ_ hf_) _ hf)
      · have hf := it_pos g15 hf
        refine z_iload h dX4_joinGroups_98 5 rfl ?_
        refine z_goto h (tgt := 110) dX4_joinGroups_100 (by decide) ?_
        exact z_sub [0, 1, 2, 3, 4, 5, 6] rfl (k_X4_joinGroups_b110 h hq N x2 x3 x4 x5 x6 x6 x5 (fun x6_ σ_ hf_ => ih x6_ σ_ hf_) _ hf)
set_option maxHeartbeats 4000000 in
set_option maxRecDepth 100000 in
theorem k_X4_joinGroups_h25 {l : Launch} {Y : ZY} {G : ZG} {σ' : ZS} (h : zOk (l, rm_X4_joinGroups, 7, 0, 0) Y G cX4_joinGroups RX4 none) (hq : zRet (l, rm_X4_joinGroups, 7, 0, 0) Y G none σ') (N : Nat) (x2 : Int32) : ∀ (n : Nat) (x3 : Int32) (σ : ZS), f_X4_joinGroups_h25 N x2 n x3 σ = some ((), σ') → Z (l, rm_X4_joinGroups, 7, 0, 0) Y G σ [(0, .ref (G.1 5)), (1, .ref (G.1 2)), (2, .int x2), (3, .int x3)] [] 25 := by
  intro n
  induction n with
  | zero =>
    intro x3 σ hf
    rw [f_X4_joinGroups_h25] at hf
    cases hf
  | succ n ih =>
    intro x3 σ hf
    rw [f_X4_joinGroups_h25] at hf
    refine z_iload_n h dX4_joinGroups_25 rfl 3 rfl ?_
    refine z_aload_n h dX4_joinGroups_26 rfl 1 rfl ?_
    refine z_gfIN h zC2 (c := 2) tg_2 ln_2 1 rfl ft_2_1 (by decide +kernel) dX4_joinGroups_27 ?_
    refine z_icmp_ge h (tgt := 123) dX4_joinGroups_30 (by decide) (fun g2 => ?_) (fun g2 => ?_)
    · have hf := it_pos g2 hf
      exact z_vret h (rt_V hf hq) dX4_joinGroups_123
    · have hf := it_neg g2 hf
      refine z_aload_n h dX4_joinGroups_33 rfl 1 rfl ?_
      refine z_iload_n h dX4_joinGroups_34 rfl 3 rfl ?_
      obtain ⟨v3, σ4, e4, hf⟩ := obd_out hf
      refine z_cVv h (n := 1) (c_X2_isVertical l G e4) zC2 tg_2 ln_2 rfl rfl wd_297 wd_258 wd_259 wd_14 wd_260 (by decide +kernel) ⟨rfl, rfl⟩ rfl rfl rfl dX4_joinGroups_35 ⟨Nat.zero_le _, Nat.zero_le _⟩ ?_
      refine z_iload_n h dX4_joinGroups_38 rfl 2 rfl ?_
      refine z_icmp_ne h (tgt := 117) dX4_joinGroups_39 (by decide) (fun g5 => ?_) (fun g5 => ?_)
      · have hf := it_neg g5 hf
        exact z_sub [0, 1, 2, 3] rfl (k_X4_joinGroups_b117 h hq N x2 x3 (fun x3_ σ_ hf_ => ih x3_ σ_ hf_) _ hf)
      · have hf := it_pos g5 hf
        refine z_aload_n h dX4_joinGroups_42 rfl 0 rfl ?_
        refine z_gfR h zC4 (d := 56) (c := 5) tg_5 ln_5 1 rfl ft_4_1 rf_5_1 wd_75 dX4_joinGroups_43 ?_
        refine z_aload_n h dX4_joinGroups_46 rfl 1 rfl ?_
        refine z_gfRN h zC2 (d := 24) (c := 2) tg_2 ln_2 6 rfl ft_2_6 rf_2_6 (by decide +kernel) dX4_joinGroups_47 ?_
        refine z_iload_n h dX4_joinGroups_50 rfl 3 rfl ?_
        obtain ⟨g7, hf⟩ := ck_out hf
        refine z_iald h (c := 24) tg_24 ln_24 g7 dX4_joinGroups_51 ?_
        obtain ⟨g8, hf⟩ := ck_out hf
        refine z_iald h (c := 56) tg_56 ln_56 g8 dX4_joinGroups_52 ?_
        refine z_topI (fun v9 ev9 => ?_)
        have hf := bd_to ev9 hf
        refine z_istore h dX4_joinGroups_53 (lv' := [(4, .int v9), (0, .ref (G.1 5)), (1, .ref (G.1 2)), (2, .int x2), (3, .int x3)]) rfl rfl ?_
        refine z_aload_n h dX4_joinGroups_55 rfl 1 rfl ?_
        refine z_gfR h zC4 (d := 56) (c := 5) tg_5 ln_5 1 rfl ft_4_1 rf_5_1 wd_75 dX4_joinGroups_56 ?_
        refine z_aload_n h dX4_joinGroups_59 rfl 2 rfl ?_
        refine z_gfRN h zC2 (d := 23) (c := 2) tg_2 ln_2 5 rfl ft_2_5 rf_2_5 (by decide +kernel) dX4_joinGroups_60 ?_
        refine z_iload_n h dX4_joinGroups_63 rfl 4 rfl ?_
        obtain ⟨g10, hf⟩ := ck_out hf
        refine z_iald h (c := 23) tg_23 ln_23 g10 dX4_joinGroups_64 ?_
        obtain ⟨g11, hf⟩ := ck_out hf
        refine z_iald h (c := 56) tg_56 ln_56 g11 dX4_joinGroups_65 ?_
        refine z_topI (fun v12 ev12 => ?_)
        have hf := bd_to ev12 hf
        refine z_istore h dX4_joinGroups_66 (lv' := [(5, .int v12), (4, .int v9), (0, .ref (G.1 5)), (1, .ref (G.1 2)), (2, .int x2), (3, .int x3)]) rfl rfl ?_
        refine z_iconst h (v := (0 : Int32)) dX4_joinGroups_68 ic_0 ?_
        refine z_istore h dX4_joinGroups_69 (lv' := [(6, .int (0 : Int32)), (5, .int v12), (4, .int v9), (0, .ref (G.1 5)), (1, .ref (G.1 2)), (2, .int x2), (3, .int x3)]) rfl rfl ?_
        exact z_sub [3, 4, 5, 6, 2, 1, 0] rfl (k_X4_joinGroups_h71 h hq N x2 x3 v9 v12 (fun x3_ σ_ hf_ => ih x3_ σ_ hf_) _ _ _ hf)
set_option maxHeartbeats 4000000 in
set_option maxRecDepth 100000 in
theorem k_X4_joinGroups_h2 {l : Launch} {Y : ZY} {G : ZG} {σ' : ZS} (h : zOk (l, rm_X4_joinGroups, 7, 0, 0) Y G cX4_joinGroups RX4 none) (hq : zRet (l, rm_X4_joinGroups, 7, 0, 0) Y G none σ') (N : Nat) (x2 : Int32) : ∀ (n : Nat) (x3 : Int32) (σ : ZS), f_X4_joinGroups_h2 N x2 n x3 σ = some ((), σ') → Z (l, rm_X4_joinGroups, 7, 0, 0) Y G σ [(0, .ref (G.1 5)), (1, .ref (G.1 2)), (2, .int x2), (3, .int x3)] [] 2 := by
  intro n
  induction n with
  | zero =>
    intro x3 σ hf
    rw [f_X4_joinGroups_h2] at hf
    cases hf
  | succ n ih =>
    intro x3 σ hf
    rw [f_X4_joinGroups_h2] at hf
    refine z_iload_n h dX4_joinGroups_2 rfl 3 rfl ?_
    refine z_aload_n h dX4_joinGroups_3 rfl 1 rfl ?_
    refine z_gfIN h zC2 (c := 2) tg_2 ln_2 0 rfl ft_2_0 (by decide +kernel) dX4_joinGroups_4 ?_
    refine z_icmp_ge h (tgt := 23) dX4_joinGroups_7 (by decide) (fun g1 => ?_) (fun g1 => ?_)
    · have hf := it_pos g1 hf
      refine z_iconst h (v := (0 : Int32)) dX4_joinGroups_23 ic_0 ?_
      refine z_istore_n h dX4_joinGroups_24 rfl (lv' := [(3, .int (0 : Int32)), (0, .ref (G.1 5)), (1, .ref (G.1 2)), (2, .int x2)]) rfl rfl ?_
      exact z_sub [1, 2, 3, 0] rfl (k_X4_joinGroups_h25 h hq N x2 _ _ _ hf)
    · have hf := it_neg g1 hf
      refine z_aload_n h dX4_joinGroups_10 rfl 0 rfl ?_
      refine z_gfR h zC4 (d := 56) (c := 5) tg_5 ln_5 1 rfl ft_4_1 rf_5_1 wd_75 dX4_joinGroups_11 ?_
      refine z_iload_n h dX4_joinGroups_14 rfl 3 rfl ?_
      refine z_iload_n h dX4_joinGroups_15 rfl 3 rfl ?_
      obtain ⟨g20, hf⟩ := ck_out hf
      refine z_iast h (c := 56) tg_56 ln_56 g20 dX4_joinGroups_16 ?_
      refine z_gen (fun σ21 eσ21 => ?_)
      have hf := bd_to eσ21 hf
      obtain ⟨v22, ev22, hf⟩ := bd_ex hf
      refine z_iinc h (v := v22) (lv' := [(3, .int v22), (0, .ref (G.1 5)), (1, .ref (G.1 2)), (2, .int x2)]) dX4_joinGroups_17 3 rfl (by rw [ev22]; rfl) rfl rfl ?_
      refine z_goto h (tgt := 2) dX4_joinGroups_20 (by decide) ?_
      exact z_sub [1, 2, 3, 0] rfl (ih _ _ hf)
set_option maxHeartbeats 4000000 in
set_option maxRecDepth 100000 in
theorem c_X4_joinGroups (l : Launch) (G : ZG) {N : Nat} {x2 : Int32} {σ σ' : ZS} {r : Unit} (hf : f_X4_joinGroups N x2 σ = some (r, σ')) : zMet l G yX4_joinGroups cX4_joinGroups 7 none rm_X4_joinGroups [.ref (G.1 5), .ref (G.1 2), .int x2] σ none σ' := by
  refine z_met (by decide +kernel) rfl (fun Y h hq => ?_)
  have h : zOk (l, rm_X4_joinGroups, 7, 0, 0) Y G cX4_joinGroups RX4 none := h
  rw [f_X4_joinGroups] at hf
  refine z_sub (lv' := [(0, .ref (G.1 5)), (1, .ref (G.1 2)), (2, .int x2)]) [0, 1, 2] rfl ?_
  refine z_iconst h (v := (0 : Int32)) dX4_joinGroups_0 ic_0 ?_
  refine z_istore_n h dX4_joinGroups_1 rfl (lv' := [(3, .int (0 : Int32)), (0, .ref (G.1 5)), (1, .ref (G.1 2)), (2, .int x2)]) rfl rfl ?_
  exact z_sub [1, 2, 3, 0] rfl (k_X4_joinGroups_h2 h hq N x2 _ _ _ hf)
theorem dX4_groupShifts_0 : decode cX4_groupShifts 0 = .ok (.iconst 0, 1) := by decide +kernel
theorem dX4_groupShifts_1 : decode cX4_groupShifts 1 = .ok (.istore 4, 2) := by decide +kernel
theorem dX4_groupShifts_3 : decode cX4_groupShifts 3 = .ok (.iconst 0, 1) := by decide +kernel
theorem dX4_groupShifts_4 : decode cX4_groupShifts 4 = .ok (.istore 5, 2) := by decide +kernel
theorem dX4_groupShifts_6 : decode cX4_groupShifts 6 = .ok (.iload 5, 2) := by decide +kernel
theorem dX4_groupShifts_8 : decode cX4_groupShifts 8 = .ok (.aload_n 1, 1) := by decide +kernel
theorem dX4_groupShifts_9 : decode cX4_groupShifts 9 = .ok (.getfield 67, 3) := by decide +kernel
theorem dX4_groupShifts_12 : decode cX4_groupShifts 12 = .ok (.if_icmp .ge 35, 3) := by decide +kernel
theorem dX4_groupShifts_15 : decode cX4_groupShifts 15 = .ok (.aload_n 0, 1) := by decide +kernel
theorem dX4_groupShifts_16 : decode cX4_groupShifts 16 = .ok (.getfield 16, 3) := by decide +kernel
theorem dX4_groupShifts_19 : decode cX4_groupShifts 19 = .ok (.iload 5, 2) := by decide +kernel
theorem dX4_groupShifts_21 : decode cX4_groupShifts 21 = .ok (.iaload, 1) := by decide +kernel
theorem dX4_groupShifts_22 : decode cX4_groupShifts 22 = .ok (.iload_n 2, 1) := by decide +kernel
theorem dX4_groupShifts_23 : decode cX4_groupShifts 23 = .ok (.if_icmp .ne 18, 3) := by decide +kernel
theorem dX4_groupShifts_26 : decode cX4_groupShifts 26 = .ok (.iconst 1, 1) := by decide +kernel
theorem dX4_groupShifts_27 : decode cX4_groupShifts 27 = .ok (.istore 4, 2) := by decide +kernel
theorem dX4_groupShifts_29 : decode cX4_groupShifts 29 = .ok (.aload_n 1, 1) := by decide +kernel
theorem dX4_groupShifts_30 : decode cX4_groupShifts 30 = .ok (.iload 5, 2) := by decide +kernel
theorem dX4_groupShifts_32 : decode cX4_groupShifts 32 = .ok (.iload_n 3, 1) := by decide +kernel
theorem dX4_groupShifts_33 : decode cX4_groupShifts 33 = .ok (.invokevirtual 88, 3) := by decide +kernel
theorem dX4_groupShifts_36 : decode cX4_groupShifts 36 = .ok (.ifCond .ne 5, 3) := by decide +kernel
theorem dX4_groupShifts_39 : decode cX4_groupShifts 39 = .ok (.iconst 0, 1) := by decide +kernel
theorem dX4_groupShifts_40 : decode cX4_groupShifts 40 = .ok (.ireturn, 1) := by decide +kernel
theorem dX4_groupShifts_41 : decode cX4_groupShifts 41 = .ok (.iinc 5 1, 3) := by decide +kernel
theorem dX4_groupShifts_44 : decode cX4_groupShifts 44 = .ok (.goto (-38), 3) := by decide +kernel
theorem dX4_groupShifts_47 : decode cX4_groupShifts 47 = .ok (.iload 4, 2) := by decide +kernel
theorem dX4_groupShifts_49 : decode cX4_groupShifts 49 = .ok (.ireturn, 1) := by decide +kernel
abbrev rm_X4_groupShifts : Room := { frames := 1, cells := 0, slots := 0, locals := 30 }
noncomputable def f_X4_groupShifts_b41 (N : Nat) (kb6 : Int32 → Int32 → ZS → Option (Int32 × ZS)) (x2 : Int32) (x3 : Int32) (x4 : Int32) (x5 : Int32) (σ : ZS) : Option (Int32 × ZS) := bd (x5 + (1 : Int32)) fun v5 => kb6 x4 v5 σ
noncomputable def f_X4_groupShifts_h6 (N : Nat) (x2 : Int32) (x3 : Int32) : Nat → Int32 → Int32 → ZS → Option (Int32 × ZS)
  | 0, _, _, _ => none
  | n + 1, x4, x5, σ => (if (gI σ 2 0) ≤ x5 then ck (bb x4) (some (x4, σ)) else ck (inb x5 7) ((if (gI σ 56 (x5.toNatClampNeg)) = x2 then obd (f_X2_shifts N x5 x3 σ) fun v6 σ7 => (if v6 = 0 then some ((0 : Int32), σ7) else f_X4_groupShifts_b41 N (fun x4_ x5_ σ_ => f_X4_groupShifts_h6 N x2 x3 n x4_ x5_ σ_) x2 x3 (1 : Int32) x5 σ7) else f_X4_groupShifts_b41 N (fun x4_ x5_ σ_ => f_X4_groupShifts_h6 N x2 x3 n x4_ x5_ σ_) x2 x3 x4 x5 σ)))
noncomputable def f_X4_groupShifts (N : Nat) (x2 : Int32) (x3 : Int32) (σ : ZS) : Option (Int32 × ZS) := f_X4_groupShifts_h6 N x2 x3 N (0 : Int32) (0 : Int32) σ
set_option maxHeartbeats 4000000 in
set_option maxRecDepth 100000 in
theorem k_X4_groupShifts_b41 {l : Launch} {Y : ZY} {G : ZG} {r : Int32} {σ' : ZS} (h : zOk (l, rm_X4_groupShifts, 6, 0, 0) Y G cX4_groupShifts RX4 (some .boolean)) (hq : zRet (l, rm_X4_groupShifts, 6, 0, 0) Y G (some (.int r)) σ') (N : Nat) {kb6 : Int32 → Int32 → ZS → Option (Int32 × ZS)} (x2 : Int32) (x3 : Int32) (x4 : Int32) (x5 : Int32) (hb6 : ∀ (x4_ : Int32) (x5_ : Int32) (σ_ : ZS), kb6 x4_ x5_ σ_ = some (r, σ') → Z (l, rm_X4_groupShifts, 6, 0, 0) Y G σ_ [(0, .ref (G.1 5)), (1, .ref (G.1 2)), (2, .int x2), (3, .int x3), (4, .int x4_), (5, .int x5_)] [] 6) (σ : ZS) (hf : f_X4_groupShifts_b41 N kb6 x2 x3 x4 x5 σ = some (r, σ')) : Z (l, rm_X4_groupShifts, 6, 0, 0) Y G σ [(0, .ref (G.1 5)), (1, .ref (G.1 2)), (2, .int x2), (3, .int x3), (4, .int x4), (5, .int x5)] [] 41 := by
  rw [f_X4_groupShifts_b41] at hf
  obtain ⟨v5, ev5, hf⟩ := bd_ex hf
  refine z_iinc h (v := v5) (lv' := [(5, .int v5), (0, .ref (G.1 5)), (1, .ref (G.1 2)), (2, .int x2), (3, .int x3), (4, .int x4)]) dX4_groupShifts_41 5 rfl (by rw [ev5]; rfl) rfl rfl ?_
  refine z_goto h (tgt := 6) dX4_groupShifts_44 (by decide) ?_
  exact z_sub [1, 2, 3, 4, 5, 0] rfl (hb6 _ _ _ hf)
set_option maxHeartbeats 4000000 in
set_option maxRecDepth 100000 in
theorem k_X4_groupShifts_h6 {l : Launch} {Y : ZY} {G : ZG} {r : Int32} {σ' : ZS} (h : zOk (l, rm_X4_groupShifts, 6, 0, 0) Y G cX4_groupShifts RX4 (some .boolean)) (hq : zRet (l, rm_X4_groupShifts, 6, 0, 0) Y G (some (.int r)) σ') (N : Nat) (x2 : Int32) (x3 : Int32) : ∀ (n : Nat) (x4 : Int32) (x5 : Int32) (σ : ZS), f_X4_groupShifts_h6 N x2 x3 n x4 x5 σ = some (r, σ') → Z (l, rm_X4_groupShifts, 6, 0, 0) Y G σ [(0, .ref (G.1 5)), (1, .ref (G.1 2)), (2, .int x2), (3, .int x3), (4, .int x4), (5, .int x5)] [] 6 := by
  intro n
  induction n with
  | zero =>
    intro x4 x5 σ hf
    rw [f_X4_groupShifts_h6] at hf
    cases hf
  | succ n ih =>
    intro x4 x5 σ hf
    rw [f_X4_groupShifts_h6] at hf
    refine z_iload h dX4_groupShifts_6 5 rfl ?_
    refine z_aload_n h dX4_groupShifts_8 rfl 1 rfl ?_
    refine z_gfIN h zC2 (c := 2) tg_2 ln_2 0 rfl ft_2_0 (by decide +kernel) dX4_groupShifts_9 ?_
    refine z_icmp_ge h (tgt := 47) dX4_groupShifts_12 (by decide) (fun g1 => ?_) (fun g1 => ?_)
    · have hf := it_pos g1 hf
      refine z_iload h dX4_groupShifts_47 4 rfl ?_
      obtain ⟨g2, hf⟩ := ck_out hf
      exact z_zret h g2 (rt_I hf hq) dX4_groupShifts_49
    · have hf := it_neg g1 hf
      refine z_aload_n h dX4_groupShifts_15 rfl 0 rfl ?_
      refine z_gfR h zC4 (d := 56) (c := 5) tg_5 ln_5 1 rfl ft_4_1 rf_5_1 wd_75 dX4_groupShifts_16 ?_
      refine z_iload h dX4_groupShifts_19 5 rfl ?_
      obtain ⟨g3, hf⟩ := ck_out hf
      refine z_iald h (c := 56) tg_56 ln_56 g3 dX4_groupShifts_21 ?_
      refine z_iload_n h dX4_groupShifts_22 rfl 2 rfl ?_
      refine z_icmp_ne h (tgt := 41) dX4_groupShifts_23 (by decide) (fun g4 => ?_) (fun g4 => ?_)
      · have hf := it_neg g4 hf
        exact z_sub [0, 1, 2, 3, 4, 5] rfl (k_X4_groupShifts_b41 h hq N x2 x3 x4 x5 (fun x4_ x5_ σ_ hf_ => ih x4_ x5_ σ_ hf_) _ hf)
      · have hf := it_pos g4 hf
        refine z_iconst h (v := (1 : Int32)) dX4_groupShifts_26 ic_1 ?_
        refine z_istore h dX4_groupShifts_27 (lv' := [(4, .int (1 : Int32)), (0, .ref (G.1 5)), (1, .ref (G.1 2)), (2, .int x2), (3, .int x3), (5, .int x5)]) rfl rfl ?_
        refine z_aload_n h dX4_groupShifts_29 rfl 2 rfl ?_
        refine z_iload h dX4_groupShifts_30 5 rfl ?_
        refine z_iload_n h dX4_groupShifts_32 rfl 4 rfl ?_
        obtain ⟨v6, σ7, e7, hf⟩ := obd_out hf
        refine z_cVv h (n := 2) (c_X2_shifts l G e7) zC2 tg_2 ln_2 rfl rfl wd_306 wd_307 wd_308 wd_14 wd_309 (by decide +kernel) ⟨rfl, rfl⟩ rfl rfl rfl dX4_groupShifts_33 ⟨Nat.zero_le _, Nat.zero_le _⟩ ?_
        refine z_if_ne h (tgt := 41) dX4_groupShifts_36 (by decide) (fun g8 => ?_) (fun g8 => ?_)
        · have hf := it_neg g8 hf
          exact z_sub [1, 2, 3, 4, 0, 5] rfl (k_X4_groupShifts_b41 h hq N x2 x3 (1 : Int32) x5 (fun x4_ x5_ σ_ hf_ => ih x4_ x5_ σ_ hf_) _ hf)
        · have hf := it_pos g8 hf
          refine z_iconst h (v := (0 : Int32)) dX4_groupShifts_39 ic_0 ?_
          exact z_zret h rfl (rt_I hf hq) dX4_groupShifts_40
set_option maxHeartbeats 4000000 in
set_option maxRecDepth 100000 in
theorem c_X4_groupShifts (l : Launch) (G : ZG) {N : Nat} {x2 : Int32} {x3 : Int32} {σ σ' : ZS} {r : Int32} (hf : f_X4_groupShifts N x2 x3 σ = some (r, σ')) : zMet l G yX4_groupShifts cX4_groupShifts 6 (some .boolean) rm_X4_groupShifts [.ref (G.1 5), .ref (G.1 2), .int x2, .int x3] σ (some (.int r)) σ' := by
  refine z_met (by decide +kernel) rfl (fun Y h hq => ?_)
  have h : zOk (l, rm_X4_groupShifts, 6, 0, 0) Y G cX4_groupShifts RX4 (some .boolean) := h
  rw [f_X4_groupShifts] at hf
  refine z_sub (lv' := [(0, .ref (G.1 5)), (1, .ref (G.1 2)), (2, .int x2), (3, .int x3)]) [0, 1, 2, 3] rfl ?_
  refine z_iconst h (v := (0 : Int32)) dX4_groupShifts_0 ic_0 ?_
  refine z_istore h dX4_groupShifts_1 (lv' := [(4, .int (0 : Int32)), (0, .ref (G.1 5)), (1, .ref (G.1 2)), (2, .int x2), (3, .int x3)]) rfl rfl ?_
  refine z_iconst h (v := (0 : Int32)) dX4_groupShifts_3 ic_0 ?_
  refine z_istore h dX4_groupShifts_4 (lv' := [(5, .int (0 : Int32)), (4, .int (0 : Int32)), (0, .ref (G.1 5)), (1, .ref (G.1 2)), (2, .int x2), (3, .int x3)]) rfl rfl ?_
  exact z_sub [2, 3, 4, 5, 1, 0] rfl (k_X4_groupShifts_h6 h hq N x2 x3 _ _ _ _ hf)
theorem dX4_addShift_0 : decode cX4_addShift 0 = .ok (.aload_n 0, 1) := by decide +kernel
theorem dX4_addShift_1 : decode cX4_addShift 1 = .ok (.getfield 25, 3) := by decide +kernel
theorem dX4_addShift_4 : decode cX4_addShift 4 = .ok (.bipush 78, 2) := by decide +kernel
theorem dX4_addShift_6 : decode cX4_addShift 6 = .ok (.if_icmp .lt 4, 3) := by decide +kernel
theorem dX4_addShift_9 : decode cX4_addShift 9 = .ok (.return_, 1) := by decide +kernel
theorem dX4_addShift_10 : decode cX4_addShift 10 = .ok (.aload_n 0, 1) := by decide +kernel
theorem dX4_addShift_11 : decode cX4_addShift 11 = .ok (.getfield 13, 3) := by decide +kernel
theorem dX4_addShift_14 : decode cX4_addShift 14 = .ok (.aload_n 0, 1) := by decide +kernel
theorem dX4_addShift_15 : decode cX4_addShift 15 = .ok (.dup, 1) := by decide +kernel
theorem dX4_addShift_16 : decode cX4_addShift 16 = .ok (.getfield 25, 3) := by decide +kernel
theorem dX4_addShift_19 : decode cX4_addShift 19 = .ok (.dup_x1, 1) := by decide +kernel
theorem dX4_addShift_20 : decode cX4_addShift 20 = .ok (.iconst 1, 1) := by decide +kernel
theorem dX4_addShift_21 : decode cX4_addShift 21 = .ok (.iadd, 1) := by decide +kernel
theorem dX4_addShift_22 : decode cX4_addShift 22 = .ok (.putfield 25, 3) := by decide +kernel
theorem dX4_addShift_25 : decode cX4_addShift 25 = .ok (.aaload, 1) := by decide +kernel
theorem dX4_addShift_26 : decode cX4_addShift 26 = .ok (.astore 4, 2) := by decide +kernel
theorem dX4_addShift_28 : decode cX4_addShift 28 = .ok (.aload 4, 2) := by decide +kernel
theorem dX4_addShift_30 : decode cX4_addShift 30 = .ok (.lconst 0, 1) := by decide +kernel
theorem dX4_addShift_31 : decode cX4_addShift 31 = .ok (.invokestatic 91, 3) := by decide +kernel
theorem dX4_addShift_34 : decode cX4_addShift 34 = .ok (.aload 4, 2) := by decide +kernel
theorem dX4_addShift_36 : decode cX4_addShift 36 = .ok (.aload_n 0, 1) := by decide +kernel
theorem dX4_addShift_37 : decode cX4_addShift 37 = .ok (.getfield 32, 3) := by decide +kernel
theorem dX4_addShift_40 : decode cX4_addShift 40 = .ok (.aload_n 0, 1) := by decide +kernel
theorem dX4_addShift_41 : decode cX4_addShift 41 = .ok (.getfield 35, 3) := by decide +kernel
theorem dX4_addShift_44 : decode cX4_addShift 44 = .ok (.iadd, 1) := by decide +kernel
theorem dX4_addShift_45 : decode cX4_addShift 45 = .ok (.ldc2_w 94, 3) := by decide +kernel
theorem dX4_addShift_48 : decode cX4_addShift 48 = .ok (.lastore, 1) := by decide +kernel
theorem dX4_addShift_49 : decode cX4_addShift 49 = .ok (.iconst 0, 1) := by decide +kernel
theorem dX4_addShift_50 : decode cX4_addShift 50 = .ok (.istore 5, 2) := by decide +kernel
theorem dX4_addShift_52 : decode cX4_addShift 52 = .ok (.iload 5, 2) := by decide +kernel
theorem dX4_addShift_54 : decode cX4_addShift 54 = .ok (.aload_n 1, 1) := by decide +kernel
theorem dX4_addShift_55 : decode cX4_addShift 55 = .ok (.getfield 38, 3) := by decide +kernel
theorem dX4_addShift_58 : decode cX4_addShift 58 = .ok (.if_icmp .ge 126, 3) := by decide +kernel
theorem dX4_addShift_61 : decode cX4_addShift 61 = .ok (.aload_n 1, 1) := by decide +kernel
theorem dX4_addShift_62 : decode cX4_addShift 62 = .ok (.iload 5, 2) := by decide +kernel
theorem dX4_addShift_64 : decode cX4_addShift 64 = .ok (.invokevirtual 96, 3) := by decide +kernel
theorem dX4_addShift_67 : decode cX4_addShift 67 = .ok (.istore 6, 2) := by decide +kernel
theorem dX4_addShift_69 : decode cX4_addShift 69 = .ok (.aload_n 1, 1) := by decide +kernel
theorem dX4_addShift_70 : decode cX4_addShift 70 = .ok (.iload 5, 2) := by decide +kernel
theorem dX4_addShift_72 : decode cX4_addShift 72 = .ok (.invokevirtual 78, 3) := by decide +kernel
theorem dX4_addShift_75 : decode cX4_addShift 75 = .ok (.iload_n 3, 1) := by decide +kernel
theorem dX4_addShift_76 : decode cX4_addShift 76 = .ok (.if_icmp .eq 102, 3) := by decide +kernel
theorem dX4_addShift_79 : decode cX4_addShift 79 = .ok (.iload 6, 2) := by decide +kernel
theorem dX4_addShift_81 : decode cX4_addShift 81 = .ok (.ifCond .le 97, 3) := by decide +kernel
theorem dX4_addShift_84 : decode cX4_addShift 84 = .ok (.aload_n 0, 1) := by decide +kernel
theorem dX4_addShift_85 : decode cX4_addShift 85 = .ok (.getfield 16, 3) := by decide +kernel
theorem dX4_addShift_88 : decode cX4_addShift 88 = .ok (.aload_n 1, 1) := by decide +kernel
theorem dX4_addShift_89 : decode cX4_addShift 89 = .ok (.getfield 85, 3) := by decide +kernel
theorem dX4_addShift_92 : decode cX4_addShift 92 = .ok (.iload 5, 2) := by decide +kernel
theorem dX4_addShift_94 : decode cX4_addShift 94 = .ok (.iaload, 1) := by decide +kernel
theorem dX4_addShift_95 : decode cX4_addShift 95 = .ok (.iaload, 1) := by decide +kernel
theorem dX4_addShift_96 : decode cX4_addShift 96 = .ok (.iload_n 2, 1) := by decide +kernel
theorem dX4_addShift_97 : decode cX4_addShift 97 = .ok (.if_icmp .ne 8, 3) := by decide +kernel
theorem dX4_addShift_100 : decode cX4_addShift 100 = .ok (.bipush 12, 2) := by decide +kernel
theorem dX4_addShift_102 : decode cX4_addShift 102 = .ok (.goto 4, 3) := by decide +kernel
theorem dX4_addShift_105 : decode cX4_addShift 105 = .ok (.iconst 0, 1) := by decide +kernel
theorem dX4_addShift_106 : decode cX4_addShift 106 = .ok (.istore 7, 2) := by decide +kernel
theorem dX4_addShift_108 : decode cX4_addShift 108 = .ok (.aload_n 0, 1) := by decide +kernel
theorem dX4_addShift_109 : decode cX4_addShift 109 = .ok (.getfield 16, 3) := by decide +kernel
theorem dX4_addShift_112 : decode cX4_addShift 112 = .ok (.aload_n 1, 1) := by decide +kernel
theorem dX4_addShift_113 : decode cX4_addShift 113 = .ok (.getfield 82, 3) := by decide +kernel
theorem dX4_addShift_116 : decode cX4_addShift 116 = .ok (.iload 5, 2) := by decide +kernel
theorem dX4_addShift_118 : decode cX4_addShift 118 = .ok (.iaload, 1) := by decide +kernel
theorem dX4_addShift_119 : decode cX4_addShift 119 = .ok (.iaload, 1) := by decide +kernel
theorem dX4_addShift_120 : decode cX4_addShift 120 = .ok (.iload_n 2, 1) := by decide +kernel
theorem dX4_addShift_121 : decode cX4_addShift 121 = .ok (.if_icmp .ne 8, 3) := by decide +kernel
theorem dX4_addShift_124 : decode cX4_addShift 124 = .ok (.bipush 12, 2) := by decide +kernel
theorem dX4_addShift_126 : decode cX4_addShift 126 = .ok (.goto 4, 3) := by decide +kernel
theorem dX4_addShift_129 : decode cX4_addShift 129 = .ok (.iconst 0, 1) := by decide +kernel
theorem dX4_addShift_130 : decode cX4_addShift 130 = .ok (.istore 8, 2) := by decide +kernel
theorem dX4_addShift_132 : decode cX4_addShift 132 = .ok (.iload_n 3, 1) := by decide +kernel
theorem dX4_addShift_133 : decode cX4_addShift 133 = .ok (.ifCond .eq 11, 3) := by decide +kernel
theorem dX4_addShift_136 : decode cX4_addShift 136 = .ok (.iload 8, 2) := by decide +kernel
theorem dX4_addShift_138 : decode cX4_addShift 138 = .ok (.iload 7, 2) := by decide +kernel
theorem dX4_addShift_140 : decode cX4_addShift 140 = .ok (.isub, 1) := by decide +kernel
theorem dX4_addShift_141 : decode cX4_addShift 141 = .ok (.goto 8, 3) := by decide +kernel
theorem dX4_addShift_144 : decode cX4_addShift 144 = .ok (.iload 7, 2) := by decide +kernel
theorem dX4_addShift_146 : decode cX4_addShift 146 = .ok (.iload 8, 2) := by decide +kernel
theorem dX4_addShift_148 : decode cX4_addShift 148 = .ok (.isub, 1) := by decide +kernel
theorem dX4_addShift_149 : decode cX4_addShift 149 = .ok (.iload 6, 2) := by decide +kernel
theorem dX4_addShift_151 : decode cX4_addShift 151 = .ok (.idiv, 1) := by decide +kernel
theorem dX4_addShift_152 : decode cX4_addShift 152 = .ok (.istore 9, 2) := by decide +kernel
theorem dX4_addShift_154 : decode cX4_addShift 154 = .ok (.aload 4, 2) := by decide +kernel
theorem dX4_addShift_156 : decode cX4_addShift 156 = .ok (.iconst 2, 1) := by decide +kernel
theorem dX4_addShift_157 : decode cX4_addShift 157 = .ok (.iload 5, 2) := by decide +kernel
theorem dX4_addShift_159 : decode cX4_addShift 159 = .ok (.imul, 1) := by decide +kernel
theorem dX4_addShift_160 : decode cX4_addShift 160 = .ok (.iload 9, 2) := by decide +kernel
theorem dX4_addShift_162 : decode cX4_addShift 162 = .ok (.ineg, 1) := by decide +kernel
theorem dX4_addShift_163 : decode cX4_addShift 163 = .ok (.i2l, 1) := by decide +kernel
theorem dX4_addShift_164 : decode cX4_addShift 164 = .ok (.lastore, 1) := by decide +kernel
theorem dX4_addShift_165 : decode cX4_addShift 165 = .ok (.aload 4, 2) := by decide +kernel
theorem dX4_addShift_167 : decode cX4_addShift 167 = .ok (.iconst 2, 1) := by decide +kernel
theorem dX4_addShift_168 : decode cX4_addShift 168 = .ok (.iload 5, 2) := by decide +kernel
theorem dX4_addShift_170 : decode cX4_addShift 170 = .ok (.imul, 1) := by decide +kernel
theorem dX4_addShift_171 : decode cX4_addShift 171 = .ok (.iconst 1, 1) := by decide +kernel
theorem dX4_addShift_172 : decode cX4_addShift 172 = .ok (.iadd, 1) := by decide +kernel
theorem dX4_addShift_173 : decode cX4_addShift 173 = .ok (.iload 9, 2) := by decide +kernel
theorem dX4_addShift_175 : decode cX4_addShift 175 = .ok (.ineg, 1) := by decide +kernel
theorem dX4_addShift_176 : decode cX4_addShift 176 = .ok (.i2l, 1) := by decide +kernel
theorem dX4_addShift_177 : decode cX4_addShift 177 = .ok (.lastore, 1) := by decide +kernel
theorem dX4_addShift_178 : decode cX4_addShift 178 = .ok (.iinc 5 1, 3) := by decide +kernel
theorem dX4_addShift_181 : decode cX4_addShift 181 = .ok (.goto (-129), 3) := by decide +kernel
theorem dX4_addShift_184 : decode cX4_addShift 184 = .ok (.return_, 1) := by decide +kernel
abbrev rm_X4_addShift : Room := { frames := 1, cells := 0, slots := 0, locals := 32 }
noncomputable def f_X4_addShift_b178 (N : Nat) (kb52 : Int32 → ZS → Option (Unit × ZS)) (x2 : Int32) (x3 : Int32) (a4 : Nat) (x5 : Int32) (σ : ZS) : Option (Unit × ZS) := bd (x5 + (1 : Int32)) fun v18 => kb52 v18 σ
noncomputable def f_X4_addShift_b149 (N : Nat) (kb52 : Int32 → ZS → Option (Unit × ZS)) (x2 : Int32) (x3 : Int32) (a4 : Nat) (x5 : Int32) (x6 : Int32) (s0 : Int32) (σ : ZS) : Option (Unit × ZS) := ck (!(x6 == 0)) (bd (s0 / x6) fun v28 => bd ((-v28).toInt64) fun v29 => ck (tg a4 == 2) (ck (inb ((2 : Int32) * x5) (ln a4)) (bd (sJ σ a4 (((2 : Int32) * x5).toNatClampNeg) v29) fun σ32 => bd ((-v28).toInt64) fun v33 => ck (tg a4 == 2) (ck (inb (((2 : Int32) * x5) + (1 : Int32)) (ln a4)) (bd (sJ σ32 a4 ((((2 : Int32) * x5) + (1 : Int32)).toNatClampNeg) v33) fun σ36 => f_X4_addShift_b178 N kb52 x2 x3 a4 x5 σ36)))))
noncomputable def f_X4_addShift_b130 (N : Nat) (kb52 : Int32 → ZS → Option (Unit × ZS)) (x2 : Int32) (x3 : Int32) (a4 : Nat) (x5 : Int32) (x6 : Int32) (x7 : Int32) (s0 : Int32) (σ : ZS) : Option (Unit × ZS) := (if x3 = 0 then f_X4_addShift_b149 N kb52 x2 x3 a4 x5 x6 (x7 - s0) σ else f_X4_addShift_b149 N kb52 x2 x3 a4 x5 x6 (s0 - x7) σ)
noncomputable def f_X4_addShift_b106 (N : Nat) (kb52 : Int32 → ZS → Option (Unit × ZS)) (x2 : Int32) (x3 : Int32) (a4 : Nat) (x5 : Int32) (x6 : Int32) (s0 : Int32) (σ : ZS) : Option (Unit × ZS) := ck (inb x5 6) (ck (inb (gI σ 24 (x5.toNatClampNeg)) 7) ((if (gI σ 56 ((gI σ 24 (x5.toNatClampNeg)).toNatClampNeg)) = x2 then f_X4_addShift_b130 N kb52 x2 x3 a4 x5 x6 s0 (12 : Int32) σ else f_X4_addShift_b130 N kb52 x2 x3 a4 x5 x6 s0 (0 : Int32) σ)))
noncomputable def f_X4_addShift_h52 (N : Nat) (x2 : Int32) (x3 : Int32) (a4 : Nat) : Nat → Int32 → ZS → Option (Unit × ZS)
  | 0, _, _ => none
  | n + 1, x5, σ => (if (gI σ 2 1) ≤ x5 then some ((), σ) else obd (f_X2_length N x5 σ) fun v13 σ14 => obd (f_X2_isVertical N x5 σ14) fun v15 σ16 => (if v15 = x3 then f_X4_addShift_b178 N (fun x5_ σ_ => f_X4_addShift_h52 N x2 x3 a4 n x5_ σ_) x2 x3 a4 x5 σ16 else (if v13 ≤ 0 then f_X4_addShift_b178 N (fun x5_ σ_ => f_X4_addShift_h52 N x2 x3 a4 n x5_ σ_) x2 x3 a4 x5 σ16 else ck (inb x5 6) (ck (inb (gI σ16 23 (x5.toNatClampNeg)) 7) ((if (gI σ16 56 ((gI σ16 23 (x5.toNatClampNeg)).toNatClampNeg)) = x2 then f_X4_addShift_b106 N (fun x5_ σ_ => f_X4_addShift_h52 N x2 x3 a4 n x5_ σ_) x2 x3 a4 x5 v13 (12 : Int32) σ16 else f_X4_addShift_b106 N (fun x5_ σ_ => f_X4_addShift_h52 N x2 x3 a4 n x5_ σ_) x2 x3 a4 x5 v13 (0 : Int32) σ16))))))
noncomputable def f_X4_addShift (N : Nat) (x2 : Int32) (x3 : Int32) (σ : ZS) : Option (Unit × ZS) := (if (gI σ 5 3) < (78 : Int32) then bd (gI σ 5 3) fun v2 => bd (v2 + (1 : Int32)) fun v3 => bd (sI σ 5 3 v3) fun σ4 => ck (inb v2 78) (bd (65 + v2.toNatClampNeg) fun v6 => obd (f_J7_fill_d0a16 N v6 (0 : Int64) σ4) fun _ σ8 => ck (tg v6 == 2) (ck (inb ((gI σ8 5 5) + (gI σ8 5 6)) (ln v6)) (bd (sJ σ8 v6 (((gI σ8 5 5) + (gI σ8 5 6)).toNatClampNeg) (12 : Int64)) fun σ11 => f_X4_addShift_h52 N x2 x3 v6 N (0 : Int32) σ11))) else some ((), σ))
set_option maxHeartbeats 4000000 in
set_option maxRecDepth 100000 in
theorem k_X4_addShift_b178 {l : Launch} {Y : ZY} {G : ZG} {σ' : ZS} (h : zOk (l, rm_X4_addShift, 10, 0, 0) Y G cX4_addShift RX4 none) (hq : zRet (l, rm_X4_addShift, 10, 0, 0) Y G none σ') (N : Nat) {kb52 : Int32 → ZS → Option (Unit × ZS)} (x2 : Int32) (x3 : Int32) (a4 : Nat) (x5 : Int32) (hb52 : ∀ (x5_ : Int32) (σ_ : ZS), kb52 x5_ σ_ = some ((), σ') → Z (l, rm_X4_addShift, 10, 0, 0) Y G σ_ [(0, .ref (G.1 5)), (1, .ref (G.1 2)), (2, .int x2), (3, .int x3), (4, .ref (G.1 a4)), (5, .int x5_)] [] 52) (σ : ZS) (hf : f_X4_addShift_b178 N kb52 x2 x3 a4 x5 σ = some ((), σ')) : Z (l, rm_X4_addShift, 10, 0, 0) Y G σ [(0, .ref (G.1 5)), (1, .ref (G.1 2)), (2, .int x2), (3, .int x3), (4, .ref (G.1 a4)), (5, .int x5)] [] 178 := by
  rw [f_X4_addShift_b178] at hf
  obtain ⟨v18, ev18, hf⟩ := bd_ex hf
  refine z_iinc h (v := v18) (lv' := [(5, .int v18), (0, .ref (G.1 5)), (1, .ref (G.1 2)), (2, .int x2), (3, .int x3), (4, .ref (G.1 a4))]) dX4_addShift_178 5 rfl (by rw [ev18]; rfl) rfl rfl ?_
  refine z_goto h (tgt := 52) dX4_addShift_181 (by decide) ?_
  exact z_sub [1, 2, 3, 4, 5, 0] rfl (hb52 _ _ hf)
set_option maxHeartbeats 4000000 in
set_option maxRecDepth 100000 in
theorem k_X4_addShift_b149 {l : Launch} {Y : ZY} {G : ZG} {σ' : ZS} (h : zOk (l, rm_X4_addShift, 10, 0, 0) Y G cX4_addShift RX4 none) (hq : zRet (l, rm_X4_addShift, 10, 0, 0) Y G none σ') (N : Nat) {kb52 : Int32 → ZS → Option (Unit × ZS)} (x2 : Int32) (x3 : Int32) (a4 : Nat) (x5 : Int32) (x6 : Int32) (s0 : Int32) (hb52 : ∀ (x5_ : Int32) (σ_ : ZS), kb52 x5_ σ_ = some ((), σ') → Z (l, rm_X4_addShift, 10, 0, 0) Y G σ_ [(0, .ref (G.1 5)), (1, .ref (G.1 2)), (2, .int x2), (3, .int x3), (4, .ref (G.1 a4)), (5, .int x5_)] [] 52) (σ : ZS) (hf : f_X4_addShift_b149 N kb52 x2 x3 a4 x5 x6 s0 σ = some ((), σ')) : Z (l, rm_X4_addShift, 10, 0, 0) Y G σ [(0, .ref (G.1 5)), (1, .ref (G.1 2)), (2, .int x2), (3, .int x3), (4, .ref (G.1 a4)), (5, .int x5), (6, .int x6)] [.int s0] 149 := by
  rw [f_X4_addShift_b149] at hf
  refine z_iload h dX4_addShift_149 6 rfl ?_
  obtain ⟨g27, hf⟩ := ck_out hf
  refine z_idiv h dX4_addShift_151 (nz_of g27) ?_
  refine z_topI (fun v28 ev28 => ?_)
  have hf := bd_to ev28 hf
  refine z_istore h dX4_addShift_152 (lv' := [(9, .int v28), (0, .ref (G.1 5)), (1, .ref (G.1 2)), (2, .int x2), (3, .int x3), (4, .ref (G.1 a4)), (5, .int x5), (6, .int x6)]) rfl rfl ?_
  refine z_aload h dX4_addShift_154 5 rfl ?_
  refine z_iconst h (v := (2 : Int32)) dX4_addShift_156 ic_2 ?_
  refine z_iload h dX4_addShift_157 6 rfl ?_
  refine z_imul h dX4_addShift_159 ?_
  refine z_iload h dX4_addShift_160 0 rfl ?_
  refine z_ineg h dX4_addShift_162 ?_
  refine z_i2l h dX4_addShift_163 ?_
  refine z_topJ (fun v29 ev29 => ?_)
  have hf := bd_to ev29 hf
  obtain ⟨g30, hf⟩ := ck_out hf
  obtain ⟨g31, hf⟩ := ck_out hf
  refine z_last h (eq_of_beq g30) rfl g31 dX4_addShift_164 ?_
  refine z_gen (fun σ32 eσ32 => ?_)
  have hf := bd_to eσ32 hf
  refine z_aload h dX4_addShift_165 5 rfl ?_
  refine z_iconst h (v := (2 : Int32)) dX4_addShift_167 ic_2 ?_
  refine z_iload h dX4_addShift_168 6 rfl ?_
  refine z_imul h dX4_addShift_170 ?_
  refine z_iconst h (v := (1 : Int32)) dX4_addShift_171 ic_1 ?_
  refine z_iadd h dX4_addShift_172 ?_
  refine z_iload h dX4_addShift_173 0 rfl ?_
  refine z_ineg h dX4_addShift_175 ?_
  refine z_i2l h dX4_addShift_176 ?_
  refine z_topJ (fun v33 ev33 => ?_)
  have hf := bd_to ev33 hf
  obtain ⟨g34, hf⟩ := ck_out hf
  obtain ⟨g35, hf⟩ := ck_out hf
  refine z_last h (eq_of_beq g34) rfl g35 dX4_addShift_177 ?_
  refine z_gen (fun σ36 eσ36 => ?_)
  have hf := bd_to eσ36 hf
  exact z_sub [1, 2, 3, 4, 5, 6] rfl (k_X4_addShift_b178 h hq N x2 x3 a4 x5 hb52 _ hf)
set_option maxHeartbeats 4000000 in
set_option maxRecDepth 100000 in
theorem k_X4_addShift_b130 {l : Launch} {Y : ZY} {G : ZG} {σ' : ZS} (h : zOk (l, rm_X4_addShift, 10, 0, 0) Y G cX4_addShift RX4 none) (hq : zRet (l, rm_X4_addShift, 10, 0, 0) Y G none σ') (N : Nat) {kb52 : Int32 → ZS → Option (Unit × ZS)} (x2 : Int32) (x3 : Int32) (a4 : Nat) (x5 : Int32) (x6 : Int32) (x7 : Int32) (s0 : Int32) (hb52 : ∀ (x5_ : Int32) (σ_ : ZS), kb52 x5_ σ_ = some ((), σ') → Z (l, rm_X4_addShift, 10, 0, 0) Y G σ_ [(0, .ref (G.1 5)), (1, .ref (G.1 2)), (2, .int x2), (3, .int x3), (4, .ref (G.1 a4)), (5, .int x5_)] [] 52) (σ : ZS) (hf : f_X4_addShift_b130 N kb52 x2 x3 a4 x5 x6 x7 s0 σ = some ((), σ')) : Z (l, rm_X4_addShift, 10, 0, 0) Y G σ [(0, .ref (G.1 5)), (1, .ref (G.1 2)), (2, .int x2), (3, .int x3), (4, .ref (G.1 a4)), (5, .int x5), (6, .int x6), (7, .int x7)] [.int s0] 130 := by
  rw [f_X4_addShift_b130] at hf
  refine z_istore h dX4_addShift_130 (lv' := [(8, .int s0), (0, .ref (G.1 5)), (1, .ref (G.1 2)), (2, .int x2), (3, .int x3), (4, .ref (G.1 a4)), (5, .int x5), (6, .int x6), (7, .int x7)]) rfl rfl ?_
  refine z_iload_n h dX4_addShift_132 rfl 4 rfl ?_
  refine z_if_eq h (tgt := 144) dX4_addShift_133 (by decide) (fun g26 => ?_) (fun g26 => ?_)
  · have hf := it_pos g26 hf
    refine z_iload h dX4_addShift_144 8 rfl ?_
    refine z_iload h dX4_addShift_146 0 rfl ?_
    refine z_isub h dX4_addShift_148 ?_
    exact z_sub [1, 2, 3, 4, 5, 6, 7] rfl (k_X4_addShift_b149 h hq N x2 x3 a4 x5 x6 (x7 - s0) hb52 _ hf)
  · have hf := it_neg g26 hf
    refine z_iload h dX4_addShift_136 0 rfl ?_
    refine z_iload h dX4_addShift_138 8 rfl ?_
    refine z_isub h dX4_addShift_140 ?_
    refine z_goto h (tgt := 149) dX4_addShift_141 (by decide) ?_
    exact z_sub [1, 2, 3, 4, 5, 6, 7] rfl (k_X4_addShift_b149 h hq N x2 x3 a4 x5 x6 (s0 - x7) hb52 _ hf)
set_option maxHeartbeats 4000000 in
set_option maxRecDepth 100000 in
theorem k_X4_addShift_b106 {l : Launch} {Y : ZY} {G : ZG} {σ' : ZS} (h : zOk (l, rm_X4_addShift, 10, 0, 0) Y G cX4_addShift RX4 none) (hq : zRet (l, rm_X4_addShift, 10, 0, 0) Y G none σ') (N : Nat) {kb52 : Int32 → ZS → Option (Unit × ZS)} (x2 : Int32) (x3 : Int32) (a4 : Nat) (x5 : Int32) (x6 : Int32) (s0 : Int32) (hb52 : ∀ (x5_ : Int32) (σ_ : ZS), kb52 x5_ σ_ = some ((), σ') → Z (l, rm_X4_addShift, 10, 0, 0) Y G σ_ [(0, .ref (G.1 5)), (1, .ref (G.1 2)), (2, .int x2), (3, .int x3), (4, .ref (G.1 a4)), (5, .int x5_)] [] 52) (σ : ZS) (hf : f_X4_addShift_b106 N kb52 x2 x3 a4 x5 x6 s0 σ = some ((), σ')) : Z (l, rm_X4_addShift, 10, 0, 0) Y G σ [(0, .ref (G.1 5)), (1, .ref (G.1 2)), (2, .int x2), (3, .int x3), (4, .ref (G.1 a4)), (5, .int x5), (6, .int x6)] [.int s0] 106 := by
  rw [f_X4_addShift_b106] at hf
  refine z_istore h dX4_addShift_106 (lv' := [(7, .int s0), (0, .ref (G.1 5)), (1, .ref (G.1 2)), (2, .int x2), (3, .int x3), (4, .ref (G.1 a4)), (5, .int x5), (6, .int x6)]) rfl rfl ?_
  refine z_aload_n h dX4_addShift_108 rfl 1 rfl ?_
  refine z_gfR h zC4 (d := 56) (c := 5) tg_5 ln_5 1 rfl ft_4_1 rf_5_1 wd_75 dX4_addShift_109 ?_
  refine z_aload_n h dX4_addShift_112 rfl 2 rfl ?_
  refine z_gfRN h zC2 (d := 24) (c := 2) tg_2 ln_2 6 rfl ft_2_6 rf_2_6 (by decide +kernel) dX4_addShift_113 ?_
  refine z_iload h dX4_addShift_116 6 rfl ?_
  obtain ⟨g23, hf⟩ := ck_out hf
  refine z_iald h (c := 24) tg_24 ln_24 g23 dX4_addShift_118 ?_
  obtain ⟨g24, hf⟩ := ck_out hf
  refine z_iald h (c := 56) tg_56 ln_56 g24 dX4_addShift_119 ?_
  refine z_iload_n h dX4_addShift_120 rfl 3 rfl ?_
  refine z_icmp_ne h (tgt := 129) dX4_addShift_121 (by decide) (fun g25 => ?_) (fun g25 => ?_)
  · have hf := it_neg g25 hf
    refine z_iconst h (v := (0 : Int32)) dX4_addShift_129 ic_0 ?_
    exact z_sub [1, 2, 3, 4, 5, 6, 7, 0] rfl (k_X4_addShift_b130 h hq N x2 x3 a4 x5 x6 s0 (0 : Int32) hb52 _ hf)
  · have hf := it_pos g25 hf
    refine z_bipush h (v := (12 : Int32)) dX4_addShift_124 bp_12 ?_
    refine z_goto h (tgt := 130) dX4_addShift_126 (by decide) ?_
    exact z_sub [1, 2, 3, 4, 5, 6, 7, 0] rfl (k_X4_addShift_b130 h hq N x2 x3 a4 x5 x6 s0 (12 : Int32) hb52 _ hf)
set_option maxHeartbeats 4000000 in
set_option maxRecDepth 100000 in
theorem k_X4_addShift_h52 {l : Launch} {Y : ZY} {G : ZG} {σ' : ZS} (h : zOk (l, rm_X4_addShift, 10, 0, 0) Y G cX4_addShift RX4 none) (hq : zRet (l, rm_X4_addShift, 10, 0, 0) Y G none σ') (N : Nat) (x2 : Int32) (x3 : Int32) (a4 : Nat) : ∀ (n : Nat) (x5 : Int32) (σ : ZS), f_X4_addShift_h52 N x2 x3 a4 n x5 σ = some ((), σ') → Z (l, rm_X4_addShift, 10, 0, 0) Y G σ [(0, .ref (G.1 5)), (1, .ref (G.1 2)), (2, .int x2), (3, .int x3), (4, .ref (G.1 a4)), (5, .int x5)] [] 52 := by
  intro n
  induction n with
  | zero =>
    intro x5 σ hf
    rw [f_X4_addShift_h52] at hf
    cases hf
  | succ n ih =>
    intro x5 σ hf
    rw [f_X4_addShift_h52] at hf
    refine z_iload h dX4_addShift_52 5 rfl ?_
    refine z_aload_n h dX4_addShift_54 rfl 1 rfl ?_
    refine z_gfIN h zC2 (c := 2) tg_2 ln_2 1 rfl ft_2_1 (by decide +kernel) dX4_addShift_55 ?_
    refine z_icmp_ge h (tgt := 184) dX4_addShift_58 (by decide) (fun g12 => ?_) (fun g12 => ?_)
    · have hf := it_pos g12 hf
      exact z_vret h (rt_V hf hq) dX4_addShift_184
    · have hf := it_neg g12 hf
      refine z_aload_n h dX4_addShift_61 rfl 1 rfl ?_
      refine z_iload h dX4_addShift_62 5 rfl ?_
      obtain ⟨v13, σ14, e14, hf⟩ := obd_out hf
      refine z_cVv h (n := 1) (c_X2_length l G e14) zC2 tg_2 ln_2 rfl rfl wd_318 wd_254 wd_255 wd_14 wd_256 (by decide +kernel) ⟨rfl, rfl⟩ rfl rfl rfl dX4_addShift_64 ⟨Nat.zero_le _, Nat.zero_le _⟩ ?_
      refine z_istore h dX4_addShift_67 (lv' := [(6, .int v13), (0, .ref (G.1 5)), (1, .ref (G.1 2)), (2, .int x2), (3, .int x3), (4, .ref (G.1 a4)), (5, .int x5)]) rfl rfl ?_
      refine z_aload_n h dX4_addShift_69 rfl 2 rfl ?_
      refine z_iload h dX4_addShift_70 6 rfl ?_
      obtain ⟨v15, σ16, e16, hf⟩ := obd_out hf
      refine z_cVv h (n := 1) (c_X2_isVertical l G e16) zC2 tg_2 ln_2 rfl rfl wd_297 wd_258 wd_259 wd_14 wd_260 (by decide +kernel) ⟨rfl, rfl⟩ rfl rfl rfl dX4_addShift_72 ⟨Nat.zero_le _, Nat.zero_le _⟩ ?_
      refine z_iload_n h dX4_addShift_75 rfl 4 rfl ?_
      refine z_icmp_eq h (tgt := 178) dX4_addShift_76 (by decide) (fun g17 => ?_) (fun g17 => ?_)
      · have hf := it_pos g17 hf
        exact z_sub [1, 2, 3, 4, 5, 6] rfl (k_X4_addShift_b178 h hq N x2 x3 a4 x5 (fun x5_ σ_ hf_ => ih x5_ σ_ hf_) _ hf)
      · have hf := it_neg g17 hf
        refine z_iload h dX4_addShift_79 0 rfl ?_
        refine z_if_le h (tgt := 178) dX4_addShift_81 (by decide) (fun g19 => ?_) (fun g19 => ?_)
        · have hf := it_pos g19 hf
          exact z_sub [1, 2, 3, 4, 5, 6] rfl (k_X4_addShift_b178 h hq N x2 x3 a4 x5 (fun x5_ σ_ hf_ => ih x5_ σ_ hf_) _ hf)
        · have hf := it_neg g19 hf
          refine z_aload_n h dX4_addShift_84 rfl 1 rfl ?_
          refine z_gfR h zC4 (d := 56) (c := 5) tg_5 ln_5 1 rfl ft_4_1 rf_5_1 wd_75 dX4_addShift_85 ?_
          refine z_aload_n h dX4_addShift_88 rfl 2 rfl ?_
          refine z_gfRN h zC2 (d := 23) (c := 2) tg_2 ln_2 5 rfl ft_2_5 rf_2_5 (by decide +kernel) dX4_addShift_89 ?_
          refine z_iload h dX4_addShift_92 6 rfl ?_
          obtain ⟨g20, hf⟩ := ck_out hf
          refine z_iald h (c := 23) tg_23 ln_23 g20 dX4_addShift_94 ?_
          obtain ⟨g21, hf⟩ := ck_out hf
          refine z_iald h (c := 56) tg_56 ln_56 g21 dX4_addShift_95 ?_
          refine z_iload_n h dX4_addShift_96 rfl 3 rfl ?_
          refine z_icmp_ne h (tgt := 105) dX4_addShift_97 (by decide) (fun g22 => ?_) (fun g22 => ?_)
          · have hf := it_neg g22 hf
            refine z_iconst h (v := (0 : Int32)) dX4_addShift_105 ic_0 ?_
            exact z_sub [1, 2, 3, 4, 5, 6, 0] rfl (k_X4_addShift_b106 h hq N x2 x3 a4 x5 v13 (0 : Int32) (fun x5_ σ_ hf_ => ih x5_ σ_ hf_) _ hf)
          · have hf := it_pos g22 hf
            refine z_bipush h (v := (12 : Int32)) dX4_addShift_100 bp_12 ?_
            refine z_goto h (tgt := 106) dX4_addShift_102 (by decide) ?_
            exact z_sub [1, 2, 3, 4, 5, 6, 0] rfl (k_X4_addShift_b106 h hq N x2 x3 a4 x5 v13 (12 : Int32) (fun x5_ σ_ hf_ => ih x5_ σ_ hf_) _ hf)
set_option maxHeartbeats 4000000 in
set_option maxRecDepth 100000 in
theorem c_X4_addShift (l : Launch) (G : ZG) {N : Nat} {x2 : Int32} {x3 : Int32} {σ σ' : ZS} {r : Unit} (hf : f_X4_addShift N x2 x3 σ = some (r, σ')) : zMet l G yX4_addShift cX4_addShift 10 none rm_X4_addShift [.ref (G.1 5), .ref (G.1 2), .int x2, .int x3] σ none σ' := by
  refine z_met (by decide +kernel) rfl (fun Y h hq => ?_)
  have h : zOk (l, rm_X4_addShift, 10, 0, 0) Y G cX4_addShift RX4 none := h
  rw [f_X4_addShift] at hf
  refine z_sub (lv' := [(0, .ref (G.1 5)), (1, .ref (G.1 2)), (2, .int x2), (3, .int x3)]) [0, 1, 2, 3] rfl ?_
  refine z_aload_n h dX4_addShift_0 rfl 0 rfl ?_
  refine z_gfI h zC4 (c := 5) tg_5 ln_5 3 rfl ft_4_3 wd_286 dX4_addShift_1 ?_
  refine z_bipush h (v := (78 : Int32)) dX4_addShift_4 bp_78 ?_
  refine z_icmp_lt h (tgt := 10) dX4_addShift_6 (by decide) (fun g1 => ?_) (fun g1 => ?_)
  · have hf := it_pos g1 hf
    refine z_aload_n h dX4_addShift_10 rfl 0 rfl ?_
    refine z_gfR h zC4 (d := 16) (c := 5) tg_5 ln_5 0 rfl ft_4_0 rf_5_0 wd_74 dX4_addShift_11 ?_
    refine z_aload_n h dX4_addShift_14 rfl 0 rfl ?_
    refine z_dup h dX4_addShift_15 rfl ?_
    refine z_gfI h zC4 (c := 5) tg_5 ln_5 3 rfl ft_4_3 wd_286 dX4_addShift_16 ?_
    refine z_topI (fun v2 ev2 => ?_)
    have hf := bd_to ev2 hf
    refine z_dup_x1 h dX4_addShift_19 rfl rfl ?_
    refine z_iconst h (v := (1 : Int32)) dX4_addShift_20 ic_1 ?_
    refine z_iadd h dX4_addShift_21 ?_
    refine z_topI (fun v3 ev3 => ?_)
    have hf := bd_to ev3 hf
    refine z_pfI h zC4 (c := 5) tg_5 ln_5 3 rfl ft_4_3 wd_286 rfl (ty := .int) (by decide +kernel) rfl rfl dX4_addShift_22 ?_
    refine z_gen (fun σ4 eσ4 => ?_)
    have hf := bd_to eσ4 hf
    obtain ⟨g5, hf⟩ := ck_out hf
    refine z_aald h (c := 16) (d := 65 + v2.toNatClampNeg) tg_16 rfl ln_16 rfl g5 dX4_addShift_25 ?_
    refine z_topA (fun v6 ev6 => ?_)
    have hf := bd_to ev6 hf
    refine z_astore h dX4_addShift_26 (lv' := [(4, .ref (G.1 v6)), (0, .ref (G.1 5)), (1, .ref (G.1 2)), (2, .int x2), (3, .int x3)]) rfl rfl ?_
    refine z_aload h dX4_addShift_28 0 rfl ?_
    refine z_lconst h (v := (0 : Int64)) dX4_addShift_30 lc_0 ?_
    obtain ⟨v7, σ8, e8, hf⟩ := obd_out hf
    refine z_cS0 h (n := 2) (c_J7_fill_d0a16 l G e8) rfl wd_315 wd_316 wd_300 wd_317 (by decide +kernel) ⟨rfl, rfl⟩ rfl rfl rfl dX4_addShift_31 ⟨Nat.zero_le _, Nat.zero_le _⟩ ?_
    refine z_aload h dX4_addShift_34 0 rfl ?_
    refine z_aload_n h dX4_addShift_36 rfl 1 rfl ?_
    refine z_gfI h zC4 (c := 5) tg_5 ln_5 5 rfl ft_4_5 wd_288 dX4_addShift_37 ?_
    refine z_aload_n h dX4_addShift_40 rfl 1 rfl ?_
    refine z_gfI h zC4 (c := 5) tg_5 ln_5 6 rfl ft_4_6 wd_287 dX4_addShift_41 ?_
    refine z_iadd h dX4_addShift_44 ?_
    refine z_ldc2 h (v := (12 : Int64)) wd_314 dX4_addShift_45 ?_
    obtain ⟨g9, hf⟩ := ck_out hf
    obtain ⟨g10, hf⟩ := ck_out hf
    refine z_last h (eq_of_beq g9) rfl g10 dX4_addShift_48 ?_
    refine z_gen (fun σ11 eσ11 => ?_)
    have hf := bd_to eσ11 hf
    refine z_iconst h (v := (0 : Int32)) dX4_addShift_49 ic_0 ?_
    refine z_istore h dX4_addShift_50 (lv' := [(5, .int (0 : Int32)), (4, .ref (G.1 v6)), (0, .ref (G.1 5)), (1, .ref (G.1 2)), (2, .int x2), (3, .int x3)]) rfl rfl ?_
    exact z_sub [2, 3, 4, 5, 1, 0] rfl (k_X4_addShift_h52 h hq N x2 x3 v6 _ _ _ hf)
  · have hf := it_neg g1 hf
    exact z_vret h (rt_V hf hq) dX4_addShift_9
theorem dX4_addShifts_0 : decode cX4_addShifts 0 = .ok (.aload_n 0, 1) := by decide +kernel
theorem dX4_addShifts_1 : decode cX4_addShifts 1 = .ok (.aload_n 1, 1) := by decide +kernel
theorem dX4_addShifts_2 : decode cX4_addShifts 2 = .ok (.iload_n 2, 1) := by decide +kernel
theorem dX4_addShifts_3 : decode cX4_addShifts 3 = .ok (.invokevirtual 58, 3) := by decide +kernel
theorem dX4_addShifts_6 : decode cX4_addShifts 6 = .ok (.aload_n 0, 1) := by decide +kernel
theorem dX4_addShifts_7 : decode cX4_addShifts 7 = .ok (.getfield 22, 3) := by decide +kernel
theorem dX4_addShifts_10 : decode cX4_addShifts 10 = .ok (.iload_n 2, 1) := by decide +kernel
theorem dX4_addShifts_11 : decode cX4_addShifts 11 = .ok (.ifCond .eq 7, 3) := by decide +kernel
theorem dX4_addShifts_14 : decode cX4_addShifts 14 = .ok (.iconst 1, 1) := by decide +kernel
theorem dX4_addShifts_15 : decode cX4_addShifts 15 = .ok (.goto 4, 3) := by decide +kernel
theorem dX4_addShifts_18 : decode cX4_addShifts 18 = .ok (.iconst 0, 1) := by decide +kernel
theorem dX4_addShifts_19 : decode cX4_addShifts 19 = .ok (.aaload, 1) := by decide +kernel
theorem dX4_addShifts_20 : decode cX4_addShifts 20 = .ok (.astore_n 3, 1) := by decide +kernel
theorem dX4_addShifts_21 : decode cX4_addShifts 21 = .ok (.aload_n 3, 1) := by decide +kernel
theorem dX4_addShifts_22 : decode cX4_addShifts 22 = .ok (.bipush (-6), 2) := by decide +kernel
theorem dX4_addShifts_24 : decode cX4_addShifts 24 = .ok (.invokestatic 61, 3) := by decide +kernel
theorem dX4_addShifts_27 : decode cX4_addShifts 27 = .ok (.iconst 0, 1) := by decide +kernel
theorem dX4_addShifts_28 : decode cX4_addShifts 28 = .ok (.istore 4, 2) := by decide +kernel
theorem dX4_addShifts_30 : decode cX4_addShifts 30 = .ok (.iload 4, 2) := by decide +kernel
theorem dX4_addShifts_32 : decode cX4_addShifts 32 = .ok (.aload_n 1, 1) := by decide +kernel
theorem dX4_addShifts_33 : decode cX4_addShifts 33 = .ok (.getfield 67, 3) := by decide +kernel
theorem dX4_addShifts_36 : decode cX4_addShifts 36 = .ok (.if_icmp .ge 83, 3) := by decide +kernel
theorem dX4_addShifts_39 : decode cX4_addShifts 39 = .ok (.aload_n 0, 1) := by decide +kernel
theorem dX4_addShifts_40 : decode cX4_addShifts 40 = .ok (.aload_n 1, 1) := by decide +kernel
theorem dX4_addShifts_41 : decode cX4_addShifts 41 = .ok (.iload 4, 2) := by decide +kernel
theorem dX4_addShifts_43 : decode cX4_addShifts 43 = .ok (.iload_n 2, 1) := by decide +kernel
theorem dX4_addShifts_44 : decode cX4_addShifts 44 = .ok (.invokevirtual 70, 3) := by decide +kernel
theorem dX4_addShifts_47 : decode cX4_addShifts 47 = .ok (.ifCond .eq 66, 3) := by decide +kernel
theorem dX4_addShifts_50 : decode cX4_addShifts 50 = .ok (.iconst 0, 1) := by decide +kernel
theorem dX4_addShifts_51 : decode cX4_addShifts 51 = .ok (.istore 5, 2) := by decide +kernel
theorem dX4_addShifts_53 : decode cX4_addShifts 53 = .ok (.iload 5, 2) := by decide +kernel
theorem dX4_addShifts_55 : decode cX4_addShifts 55 = .ok (.aload_n 1, 1) := by decide +kernel
theorem dX4_addShifts_56 : decode cX4_addShifts 56 = .ok (.getfield 67, 3) := by decide +kernel
theorem dX4_addShifts_59 : decode cX4_addShifts 59 = .ok (.if_icmp .ge 36, 3) := by decide +kernel
theorem dX4_addShifts_62 : decode cX4_addShifts 62 = .ok (.aload_n 3, 1) := by decide +kernel
theorem dX4_addShifts_63 : decode cX4_addShifts 63 = .ok (.iload 5, 2) := by decide +kernel
theorem dX4_addShifts_65 : decode cX4_addShifts 65 = .ok (.aload_n 0, 1) := by decide +kernel
theorem dX4_addShifts_66 : decode cX4_addShifts 66 = .ok (.getfield 16, 3) := by decide +kernel
theorem dX4_addShifts_69 : decode cX4_addShifts 69 = .ok (.iload 5, 2) := by decide +kernel
theorem dX4_addShifts_71 : decode cX4_addShifts 71 = .ok (.iaload, 1) := by decide +kernel
theorem dX4_addShifts_72 : decode cX4_addShifts 72 = .ok (.iload 4, 2) := by decide +kernel
theorem dX4_addShifts_74 : decode cX4_addShifts 74 = .ok (.if_icmp .ne 10, 3) := by decide +kernel
theorem dX4_addShifts_77 : decode cX4_addShifts 77 = .ok (.aload_n 0, 1) := by decide +kernel
theorem dX4_addShifts_78 : decode cX4_addShifts 78 = .ok (.getfield 35, 3) := by decide +kernel
theorem dX4_addShifts_81 : decode cX4_addShifts 81 = .ok (.goto 7, 3) := by decide +kernel
theorem dX4_addShifts_84 : decode cX4_addShifts 84 = .ok (.aload_n 3, 1) := by decide +kernel
theorem dX4_addShifts_85 : decode cX4_addShifts 85 = .ok (.iload 5, 2) := by decide +kernel
theorem dX4_addShifts_87 : decode cX4_addShifts 87 = .ok (.iaload, 1) := by decide +kernel
theorem dX4_addShifts_88 : decode cX4_addShifts 88 = .ok (.iastore, 1) := by decide +kernel
theorem dX4_addShifts_89 : decode cX4_addShifts 89 = .ok (.iinc 5 1, 3) := by decide +kernel
theorem dX4_addShifts_92 : decode cX4_addShifts 92 = .ok (.goto (-39), 3) := by decide +kernel
theorem dX4_addShifts_95 : decode cX4_addShifts 95 = .ok (.aload_n 0, 1) := by decide +kernel
theorem dX4_addShifts_96 : decode cX4_addShifts 96 = .ok (.aload_n 1, 1) := by decide +kernel
theorem dX4_addShifts_97 : decode cX4_addShifts 97 = .ok (.iload 4, 2) := by decide +kernel
theorem dX4_addShifts_99 : decode cX4_addShifts 99 = .ok (.iload_n 2, 1) := by decide +kernel
theorem dX4_addShifts_100 : decode cX4_addShifts 100 = .ok (.invokevirtual 74, 3) := by decide +kernel
theorem dX4_addShifts_103 : decode cX4_addShifts 103 = .ok (.aload_n 0, 1) := by decide +kernel
theorem dX4_addShifts_104 : decode cX4_addShifts 104 = .ok (.dup, 1) := by decide +kernel
theorem dX4_addShifts_105 : decode cX4_addShifts 105 = .ok (.getfield 35, 3) := by decide +kernel
theorem dX4_addShifts_108 : decode cX4_addShifts 108 = .ok (.iconst 1, 1) := by decide +kernel
theorem dX4_addShifts_109 : decode cX4_addShifts 109 = .ok (.iadd, 1) := by decide +kernel
theorem dX4_addShifts_110 : decode cX4_addShifts 110 = .ok (.putfield 35, 3) := by decide +kernel
theorem dX4_addShifts_113 : decode cX4_addShifts 113 = .ok (.iinc 4 1, 3) := by decide +kernel
theorem dX4_addShifts_116 : decode cX4_addShifts 116 = .ok (.goto (-86), 3) := by decide +kernel
theorem dX4_addShifts_119 : decode cX4_addShifts 119 = .ok (.return_, 1) := by decide +kernel
abbrev rm_X4_addShifts : Room := { frames := 2, cells := 0, slots := 0, locals := 69 }
noncomputable def f_X4_addShifts_b113 (N : Nat) (kb30 : Int32 → ZS → Option (Unit × ZS)) (x2 : Int32) (a3 : Nat) (x4 : Int32) (σ : ZS) : Option (Unit × ZS) := bd (x4 + (1 : Int32)) fun v12 => kb30 v12 σ
noncomputable def f_X4_addShifts_b88 (N : Nat) (kb53 : Int32 → ZS → Option (Unit × ZS)) (x2 : Int32) (a3 : Nat) (x4 : Int32) (x5 : Int32) (s0 : Nat) (s1 : Int32) (s2 : Int32) (σ : ZS) : Option (Unit × ZS) := ck (tg s0 == 1) (ck (inb s1 (ln s0)) (bd (sI σ s0 (s1.toNatClampNeg) s2) fun σ24 => bd (x5 + (1 : Int32)) fun v25 => kb53 v25 σ24))
noncomputable def f_X4_addShifts_h53 (N : Nat) (kb30 : Int32 → ZS → Option (Unit × ZS)) (x2 : Int32) (a3 : Nat) (x4 : Int32) : Nat → Int32 → ZS → Option (Unit × ZS)
  | 0, _, _ => none
  | n + 1, x5, σ => (if (gI σ 2 0) ≤ x5 then obd (f_X4_addShift N x4 x2 σ) fun _ σ15 => bd ((gI σ15 5 6) + (1 : Int32)) fun v16 => bd (sI σ15 5 6 v16) fun σ17 => f_X4_addShifts_b113 N kb30 x2 a3 x4 σ17 else ck (inb x5 7) ((if (gI σ 56 (x5.toNatClampNeg)) = x4 then f_X4_addShifts_b88 N (fun x5_ σ_ => f_X4_addShifts_h53 N kb30 x2 a3 x4 n x5_ σ_) x2 a3 x4 x5 a3 x5 (gI σ 5 6) σ else ck (tg a3 == 1) (ck (inb x5 (ln a3)) (f_X4_addShifts_b88 N (fun x5_ σ_ => f_X4_addShifts_h53 N kb30 x2 a3 x4 n x5_ σ_) x2 a3 x4 x5 a3 x5 (gI σ a3 (x5.toNatClampNeg)) σ)))))
noncomputable def f_X4_addShifts_h30 (N : Nat) (x2 : Int32) (a3 : Nat) : Nat → Int32 → ZS → Option (Unit × ZS)
  | 0, _, _ => none
  | n + 1, x4, σ => (if (gI σ 2 0) ≤ x4 then some ((), σ) else obd (f_X4_groupShifts N x4 x2 σ) fun v9 σ10 => (if v9 = 0 then f_X4_addShifts_b113 N (fun x4_ σ_ => f_X4_addShifts_h30 N x2 a3 n x4_ σ_) x2 a3 x4 σ10 else f_X4_addShifts_h53 N (fun x4_ σ_ => f_X4_addShifts_h30 N x2 a3 n x4_ σ_) x2 a3 x4 N (0 : Int32) σ10))
noncomputable def f_X4_addShifts_b19 (N : Nat) (x2 : Int32) (s1 : Int32) (σ : ZS) : Option (Unit × ZS) := ck (inb s1 2) (bd (57 + s1.toNatClampNeg) fun v5 => obd (f_J7_fill_53178 N v5 (-6 : Int32) σ) fun _ σ7 => f_X4_addShifts_h30 N x2 v5 N (0 : Int32) σ7)
noncomputable def f_X4_addShifts (N : Nat) (x2 : Int32) (σ : ZS) : Option (Unit × ZS) := obd (f_X4_joinGroups N x2 σ) fun _ σ2 => (if x2 = 0 then f_X4_addShifts_b19 N x2 (0 : Int32) σ2 else f_X4_addShifts_b19 N x2 (1 : Int32) σ2)
set_option maxHeartbeats 4000000 in
set_option maxRecDepth 100000 in
theorem k_X4_addShifts_b113 {l : Launch} {Y : ZY} {G : ZG} {σ' : ZS} (h : zOk (l, rm_X4_addShifts, 6, 0, 0) Y G cX4_addShifts RX4 none) (hq : zRet (l, rm_X4_addShifts, 6, 0, 0) Y G none σ') (N : Nat) {kb30 : Int32 → ZS → Option (Unit × ZS)} (x2 : Int32) (a3 : Nat) (x4 : Int32) (hb30 : ∀ (x4_ : Int32) (σ_ : ZS), kb30 x4_ σ_ = some ((), σ') → Z (l, rm_X4_addShifts, 6, 0, 0) Y G σ_ [(0, .ref (G.1 5)), (1, .ref (G.1 2)), (2, .int x2), (3, .ref (G.1 a3)), (4, .int x4_)] [] 30) (σ : ZS) (hf : f_X4_addShifts_b113 N kb30 x2 a3 x4 σ = some ((), σ')) : Z (l, rm_X4_addShifts, 6, 0, 0) Y G σ [(0, .ref (G.1 5)), (1, .ref (G.1 2)), (2, .int x2), (3, .ref (G.1 a3)), (4, .int x4)] [] 113 := by
  rw [f_X4_addShifts_b113] at hf
  obtain ⟨v12, ev12, hf⟩ := bd_ex hf
  refine z_iinc h (v := v12) (lv' := [(4, .int v12), (0, .ref (G.1 5)), (1, .ref (G.1 2)), (2, .int x2), (3, .ref (G.1 a3))]) dX4_addShifts_113 4 rfl (by rw [ev12]; rfl) rfl rfl ?_
  refine z_goto h (tgt := 30) dX4_addShifts_116 (by decide) ?_
  exact z_sub [1, 2, 3, 4, 0] rfl (hb30 _ _ hf)
set_option maxHeartbeats 4000000 in
set_option maxRecDepth 100000 in
theorem k_X4_addShifts_b88 {l : Launch} {Y : ZY} {G : ZG} {σ' : ZS} (h : zOk (l, rm_X4_addShifts, 6, 0, 0) Y G cX4_addShifts RX4 none) (hq : zRet (l, rm_X4_addShifts, 6, 0, 0) Y G none σ') (N : Nat) {kb53 : Int32 → ZS → Option (Unit × ZS)} (x2 : Int32) (a3 : Nat) (x4 : Int32) (x5 : Int32) (s0 : Nat) (s1 : Int32) (s2 : Int32) (hb53 : ∀ (x5_ : Int32) (σ_ : ZS), kb53 x5_ σ_ = some ((), σ') → Z (l, rm_X4_addShifts, 6, 0, 0) Y G σ_ [(0, .ref (G.1 5)), (1, .ref (G.1 2)), (2, .int x2), (3, .ref (G.1 a3)), (4, .int x4), (5, .int x5_)] [] 53) (σ : ZS) (hf : f_X4_addShifts_b88 N kb53 x2 a3 x4 x5 s0 s1 s2 σ = some ((), σ')) : Z (l, rm_X4_addShifts, 6, 0, 0) Y G σ [(0, .ref (G.1 5)), (1, .ref (G.1 2)), (2, .int x2), (3, .ref (G.1 a3)), (4, .int x4), (5, .int x5)] [.int s2, .int s1, .ref (G.1 s0)] 88 := by
  rw [f_X4_addShifts_b88] at hf
  obtain ⟨g22, hf⟩ := ck_out hf
  obtain ⟨g23, hf⟩ := ck_out hf
  refine z_iast h (eq_of_beq g22) rfl g23 dX4_addShifts_88 ?_
  refine z_gen (fun σ24 eσ24 => ?_)
  have hf := bd_to eσ24 hf
  obtain ⟨v25, ev25, hf⟩ := bd_ex hf
  refine z_iinc h (v := v25) (lv' := [(5, .int v25), (0, .ref (G.1 5)), (1, .ref (G.1 2)), (2, .int x2), (3, .ref (G.1 a3)), (4, .int x4)]) dX4_addShifts_89 5 rfl (by rw [ev25]; rfl) rfl rfl ?_
  refine z_goto h (tgt := 53) dX4_addShifts_92 (by decide) ?_
  exact z_sub [1, 2, 3, 4, 5, 0] rfl (hb53 _ _ hf)
set_option maxHeartbeats 4000000 in
set_option maxRecDepth 100000 in
theorem k_X4_addShifts_h53 {l : Launch} {Y : ZY} {G : ZG} {σ' : ZS} (h : zOk (l, rm_X4_addShifts, 6, 0, 0) Y G cX4_addShifts RX4 none) (hq : zRet (l, rm_X4_addShifts, 6, 0, 0) Y G none σ') (N : Nat) {kb30 : Int32 → ZS → Option (Unit × ZS)} (x2 : Int32) (a3 : Nat) (x4 : Int32) (hb30 : ∀ (x4_ : Int32) (σ_ : ZS), kb30 x4_ σ_ = some ((), σ') → Z (l, rm_X4_addShifts, 6, 0, 0) Y G σ_ [(0, .ref (G.1 5)), (1, .ref (G.1 2)), (2, .int x2), (3, .ref (G.1 a3)), (4, .int x4_)] [] 30) : ∀ (n : Nat) (x5 : Int32) (σ : ZS), f_X4_addShifts_h53 N kb30 x2 a3 x4 n x5 σ = some ((), σ') → Z (l, rm_X4_addShifts, 6, 0, 0) Y G σ [(0, .ref (G.1 5)), (1, .ref (G.1 2)), (2, .int x2), (3, .ref (G.1 a3)), (4, .int x4), (5, .int x5)] [] 53 := by
  intro n
  induction n with
  | zero =>
    intro x5 σ hf
    rw [f_X4_addShifts_h53] at hf
    cases hf
  | succ n ih =>
    intro x5 σ hf
    rw [f_X4_addShifts_h53] at hf
    refine z_iload h dX4_addShifts_53 5 rfl ?_
    refine z_aload_n h dX4_addShifts_55 rfl 1 rfl ?_
    refine z_gfIN h zC2 (c := 2) tg_2 ln_2 0 rfl ft_2_0 (by decide +kernel) dX4_addShifts_56 ?_
    refine z_icmp_ge h (tgt := 95) dX4_addShifts_59 (by decide) (fun g13 => ?_) (fun g13 => ?_)
    · have hf := it_pos g13 hf
      refine z_aload_n h dX4_addShifts_95 rfl 0 rfl ?_
      refine z_aload_n h dX4_addShifts_96 rfl 1 rfl ?_
      refine z_iload h dX4_addShifts_97 4 rfl ?_
      refine z_iload_n h dX4_addShifts_99 rfl 2 rfl ?_
      obtain ⟨v14, σ15, e15, hf⟩ := obd_out hf
      refine z_cV0 h (n := 3) (c_X4_addShift l G e15) zC4 tg_5 ln_5 rfl rfl wd_310 wd_311 wd_312 wd_64 wd_313 (by decide +kernel) ⟨rfl, rfl⟩ rfl rfl rfl dX4_addShifts_100 ⟨Nat.zero_le _, Nat.zero_le _⟩ ?_
      refine z_aload_n h dX4_addShifts_103 rfl 0 rfl ?_
      refine z_dup h dX4_addShifts_104 rfl ?_
      refine z_gfI h zC4 (c := 5) tg_5 ln_5 6 rfl ft_4_6 wd_287 dX4_addShifts_105 ?_
      refine z_iconst h (v := (1 : Int32)) dX4_addShifts_108 ic_1 ?_
      refine z_iadd h dX4_addShifts_109 ?_
      refine z_topI (fun v16 ev16 => ?_)
      have hf := bd_to ev16 hf
      refine z_pfI h zC4 (c := 5) tg_5 ln_5 6 rfl ft_4_6 wd_287 rfl (ty := .int) (by decide +kernel) rfl rfl dX4_addShifts_110 ?_
      refine z_gen (fun σ17 eσ17 => ?_)
      have hf := bd_to eσ17 hf
      exact z_sub [0, 1, 2, 3, 4] rfl (k_X4_addShifts_b113 h hq N x2 a3 x4 hb30 _ hf)
    · have hf := it_neg g13 hf
      refine z_aload_n h dX4_addShifts_62 rfl 3 rfl ?_
      refine z_iload h dX4_addShifts_63 5 rfl ?_
      refine z_aload_n h dX4_addShifts_65 rfl 0 rfl ?_
      refine z_gfR h zC4 (d := 56) (c := 5) tg_5 ln_5 1 rfl ft_4_1 rf_5_1 wd_75 dX4_addShifts_66 ?_
      refine z_iload h dX4_addShifts_69 5 rfl ?_
      obtain ⟨g18, hf⟩ := ck_out hf
      refine z_iald h (c := 56) tg_56 ln_56 g18 dX4_addShifts_71 ?_
      refine z_iload h dX4_addShifts_72 4 rfl ?_
      refine z_icmp_ne h (tgt := 84) dX4_addShifts_74 (by decide) (fun g19 => ?_) (fun g19 => ?_)
      · have hf := it_neg g19 hf
        refine z_aload_n h dX4_addShifts_84 rfl 3 rfl ?_
        refine z_iload h dX4_addShifts_85 5 rfl ?_
        obtain ⟨g20, hf⟩ := ck_out hf
        obtain ⟨g21, hf⟩ := ck_out hf
        refine z_iald h (eq_of_beq g20) rfl g21 dX4_addShifts_87 ?_
        exact z_sub [0, 1, 2, 3, 4, 5] rfl (k_X4_addShifts_b88 h hq N x2 a3 x4 x5 a3 x5 (gI σ a3 (x5.toNatClampNeg)) (fun x5_ σ_ hf_ => ih x5_ σ_ hf_) _ hf)
      · have hf := it_pos g19 hf
        refine z_aload_n h dX4_addShifts_77 rfl 0 rfl ?_
        refine z_gfI h zC4 (c := 5) tg_5 ln_5 6 rfl ft_4_6 wd_287 dX4_addShifts_78 ?_
        refine z_goto h (tgt := 88) dX4_addShifts_81 (by decide) ?_
        exact z_sub [0, 1, 2, 3, 4, 5] rfl (k_X4_addShifts_b88 h hq N x2 a3 x4 x5 a3 x5 (gI σ 5 6) (fun x5_ σ_ hf_ => ih x5_ σ_ hf_) _ hf)
set_option maxHeartbeats 4000000 in
set_option maxRecDepth 100000 in
theorem k_X4_addShifts_h30 {l : Launch} {Y : ZY} {G : ZG} {σ' : ZS} (h : zOk (l, rm_X4_addShifts, 6, 0, 0) Y G cX4_addShifts RX4 none) (hq : zRet (l, rm_X4_addShifts, 6, 0, 0) Y G none σ') (N : Nat) (x2 : Int32) (a3 : Nat) : ∀ (n : Nat) (x4 : Int32) (σ : ZS), f_X4_addShifts_h30 N x2 a3 n x4 σ = some ((), σ') → Z (l, rm_X4_addShifts, 6, 0, 0) Y G σ [(0, .ref (G.1 5)), (1, .ref (G.1 2)), (2, .int x2), (3, .ref (G.1 a3)), (4, .int x4)] [] 30 := by
  intro n
  induction n with
  | zero =>
    intro x4 σ hf
    rw [f_X4_addShifts_h30] at hf
    cases hf
  | succ n ih =>
    intro x4 σ hf
    rw [f_X4_addShifts_h30] at hf
    refine z_iload h dX4_addShifts_30 4 rfl ?_
    refine z_aload_n h dX4_addShifts_32 rfl 1 rfl ?_
    refine z_gfIN h zC2 (c := 2) tg_2 ln_2 0 rfl ft_2_0 (by decide +kernel) dX4_addShifts_33 ?_
    refine z_icmp_ge h (tgt := 119) dX4_addShifts_36 (by decide) (fun g8 => ?_) (fun g8 => ?_)
    · have hf := it_pos g8 hf
      exact z_vret h (rt_V hf hq) dX4_addShifts_119
    · have hf := it_neg g8 hf
      refine z_aload_n h dX4_addShifts_39 rfl 0 rfl ?_
      refine z_aload_n h dX4_addShifts_40 rfl 1 rfl ?_
      refine z_iload h dX4_addShifts_41 4 rfl ?_
      refine z_iload_n h dX4_addShifts_43 rfl 2 rfl ?_
      obtain ⟨v9, σ10, e10, hf⟩ := obd_out hf
      refine z_cVv h (n := 3) (c_X4_groupShifts l G e10) zC4 tg_5 ln_5 rfl rfl wd_302 wd_303 wd_304 wd_64 wd_305 (by decide +kernel) ⟨rfl, rfl⟩ rfl rfl rfl dX4_addShifts_44 ⟨Nat.zero_le _, Nat.zero_le _⟩ ?_
      refine z_if_eq h (tgt := 113) dX4_addShifts_47 (by decide) (fun g11 => ?_) (fun g11 => ?_)
      · have hf := it_pos g11 hf
        exact z_sub [0, 1, 2, 3, 4] rfl (k_X4_addShifts_b113 h hq N x2 a3 x4 (fun x4_ σ_ hf_ => ih x4_ σ_ hf_) _ hf)
      · have hf := it_neg g11 hf
        refine z_iconst h (v := (0 : Int32)) dX4_addShifts_50 ic_0 ?_
        refine z_istore h dX4_addShifts_51 (lv' := [(5, .int (0 : Int32)), (0, .ref (G.1 5)), (1, .ref (G.1 2)), (2, .int x2), (3, .ref (G.1 a3)), (4, .int x4)]) rfl rfl ?_
        exact z_sub [1, 2, 3, 4, 5, 0] rfl (k_X4_addShifts_h53 h hq N x2 a3 x4 (fun x4_ σ_ hf_ => ih x4_ σ_ hf_) _ _ _ hf)
set_option maxHeartbeats 4000000 in
set_option maxRecDepth 100000 in
theorem k_X4_addShifts_b19 {l : Launch} {Y : ZY} {G : ZG} {σ' : ZS} (h : zOk (l, rm_X4_addShifts, 6, 0, 0) Y G cX4_addShifts RX4 none) (hq : zRet (l, rm_X4_addShifts, 6, 0, 0) Y G none σ') (N : Nat) (x2 : Int32) (s1 : Int32) (σ : ZS) (hf : f_X4_addShifts_b19 N x2 s1 σ = some ((), σ')) : Z (l, rm_X4_addShifts, 6, 0, 0) Y G σ [(0, .ref (G.1 5)), (1, .ref (G.1 2)), (2, .int x2)] [.int s1, .ref (G.1 17)] 19 := by
  rw [f_X4_addShifts_b19] at hf
  obtain ⟨g4, hf⟩ := ck_out hf
  refine z_aald h (c := 17) (d := 57 + s1.toNatClampNeg) tg_17 rfl ln_17 rfl g4 dX4_addShifts_19 ?_
  refine z_topA (fun v5 ev5 => ?_)
  have hf := bd_to ev5 hf
  refine z_astore_n h dX4_addShifts_20 rfl (lv' := [(3, .ref (G.1 v5)), (0, .ref (G.1 5)), (1, .ref (G.1 2)), (2, .int x2)]) rfl rfl ?_
  refine z_aload_n h dX4_addShifts_21 rfl 0 rfl ?_
  refine z_bipush h (v := (-6 : Int32)) dX4_addShifts_22 bp_m6 ?_
  obtain ⟨v6, σ7, e7, hf⟩ := obd_out hf
  refine z_cS0 h (n := 2) (c_J7_fill_53178 l G e7) rfl wd_298 wd_299 wd_300 wd_301 (by decide +kernel) ⟨rfl, rfl⟩ rfl rfl rfl dX4_addShifts_24 ⟨Nat.zero_le _, Nat.zero_le _⟩ ?_
  refine z_iconst h (v := (0 : Int32)) dX4_addShifts_27 ic_0 ?_
  refine z_istore h dX4_addShifts_28 (lv' := [(4, .int (0 : Int32)), (3, .ref (G.1 v5)), (0, .ref (G.1 5)), (1, .ref (G.1 2)), (2, .int x2)]) rfl rfl ?_
  exact z_sub [2, 3, 4, 1, 0] rfl (k_X4_addShifts_h30 h hq N x2 v5 _ _ _ hf)
set_option maxHeartbeats 4000000 in
set_option maxRecDepth 100000 in
theorem c_X4_addShifts (l : Launch) (G : ZG) {N : Nat} {x2 : Int32} {σ σ' : ZS} {r : Unit} (hf : f_X4_addShifts N x2 σ = some (r, σ')) : zMet l G yX4_addShifts cX4_addShifts 6 none rm_X4_addShifts [.ref (G.1 5), .ref (G.1 2), .int x2] σ none σ' := by
  refine z_met (by decide +kernel) rfl (fun Y h hq => ?_)
  have h : zOk (l, rm_X4_addShifts, 6, 0, 0) Y G cX4_addShifts RX4 none := h
  rw [f_X4_addShifts] at hf
  refine z_sub (lv' := [(0, .ref (G.1 5)), (1, .ref (G.1 2)), (2, .int x2)]) [0, 1, 2] rfl ?_
  refine z_aload_n h dX4_addShifts_0 rfl 0 rfl ?_
  refine z_aload_n h dX4_addShifts_1 rfl 1 rfl ?_
  refine z_iload_n h dX4_addShifts_2 rfl 2 rfl ?_
  obtain ⟨v1, σ2, e2, hf⟩ := obd_out hf
  refine z_cV0 h (n := 2) (c_X4_joinGroups l G e2) zC4 tg_5 ln_5 rfl rfl wd_293 wd_294 wd_295 wd_64 wd_296 (by decide +kernel) ⟨rfl, rfl⟩ rfl rfl rfl dX4_addShifts_3 ⟨Nat.zero_le _, Nat.zero_le _⟩ ?_
  refine z_aload_n h dX4_addShifts_6 rfl 0 rfl ?_
  refine z_gfR h zC4 (d := 17) (c := 5) tg_5 ln_5 2 rfl ft_4_2 rf_5_2 wd_77 dX4_addShifts_7 ?_
  refine z_iload_n h dX4_addShifts_10 rfl 2 rfl ?_
  refine z_if_eq h (tgt := 18) dX4_addShifts_11 (by decide) (fun g3 => ?_) (fun g3 => ?_)
  · have hf := it_pos g3 hf
    refine z_iconst h (v := (0 : Int32)) dX4_addShifts_18 ic_0 ?_
    exact z_sub [0, 1, 2] rfl (k_X4_addShifts_b19 h hq N x2 (0 : Int32) _ hf)
  · have hf := it_neg g3 hf
    refine z_iconst h (v := (1 : Int32)) dX4_addShifts_14 ic_1 ?_
    refine z_goto h (tgt := 19) dX4_addShifts_15 (by decide) ?_
    exact z_sub [0, 1, 2] rfl (k_X4_addShifts_b19 h hq N x2 (1 : Int32) _ hf)
theorem dX4_addTurns_0 : decode cX4_addTurns 0 = .ok (.iconst 0, 1) := by decide +kernel
theorem dX4_addTurns_1 : decode cX4_addTurns 1 = .ok (.istore_n 2, 1) := by decide +kernel
theorem dX4_addTurns_2 : decode cX4_addTurns 2 = .ok (.iload_n 2, 1) := by decide +kernel
theorem dX4_addTurns_3 : decode cX4_addTurns 3 = .ok (.aload_n 1, 1) := by decide +kernel
theorem dX4_addTurns_4 : decode cX4_addTurns 4 = .ok (.getfield 67, 3) := by decide +kernel
theorem dX4_addTurns_7 : decode cX4_addTurns 7 = .ok (.if_icmp .ge 116, 3) := by decide +kernel
theorem dX4_addTurns_10 : decode cX4_addTurns 10 = .ok (.aload_n 1, 1) := by decide +kernel
theorem dX4_addTurns_11 : decode cX4_addTurns 11 = .ok (.iload_n 2, 1) := by decide +kernel
theorem dX4_addTurns_12 : decode cX4_addTurns 12 = .ok (.invokevirtual 100, 3) := by decide +kernel
theorem dX4_addTurns_15 : decode cX4_addTurns 15 = .ok (.ifCond .eq 102, 3) := by decide +kernel
theorem dX4_addTurns_18 : decode cX4_addTurns 18 = .ok (.aload_n 0, 1) := by decide +kernel
theorem dX4_addTurns_19 : decode cX4_addTurns 19 = .ok (.getfield 25, 3) := by decide +kernel
theorem dX4_addTurns_22 : decode cX4_addTurns 22 = .ok (.bipush 78, 2) := by decide +kernel
theorem dX4_addTurns_24 : decode cX4_addTurns 24 = .ok (.if_icmp .ge 93, 3) := by decide +kernel
theorem dX4_addTurns_27 : decode cX4_addTurns 27 = .ok (.aload_n 0, 1) := by decide +kernel
theorem dX4_addTurns_28 : decode cX4_addTurns 28 = .ok (.getfield 13, 3) := by decide +kernel
theorem dX4_addTurns_31 : decode cX4_addTurns 31 = .ok (.aload_n 0, 1) := by decide +kernel
theorem dX4_addTurns_32 : decode cX4_addTurns 32 = .ok (.dup, 1) := by decide +kernel
theorem dX4_addTurns_33 : decode cX4_addTurns 33 = .ok (.getfield 25, 3) := by decide +kernel
theorem dX4_addTurns_36 : decode cX4_addTurns 36 = .ok (.dup_x1, 1) := by decide +kernel
theorem dX4_addTurns_37 : decode cX4_addTurns 37 = .ok (.iconst 1, 1) := by decide +kernel
theorem dX4_addTurns_38 : decode cX4_addTurns 38 = .ok (.iadd, 1) := by decide +kernel
theorem dX4_addTurns_39 : decode cX4_addTurns 39 = .ok (.putfield 25, 3) := by decide +kernel
theorem dX4_addTurns_42 : decode cX4_addTurns 42 = .ok (.aaload, 1) := by decide +kernel
theorem dX4_addTurns_43 : decode cX4_addTurns 43 = .ok (.astore_n 3, 1) := by decide +kernel
theorem dX4_addTurns_44 : decode cX4_addTurns 44 = .ok (.aload_n 3, 1) := by decide +kernel
theorem dX4_addTurns_45 : decode cX4_addTurns 45 = .ok (.lconst 0, 1) := by decide +kernel
theorem dX4_addTurns_46 : decode cX4_addTurns 46 = .ok (.invokestatic 91, 3) := by decide +kernel
theorem dX4_addTurns_49 : decode cX4_addTurns 49 = .ok (.iconst 0, 1) := by decide +kernel
theorem dX4_addTurns_50 : decode cX4_addTurns 50 = .ok (.istore 4, 2) := by decide +kernel
theorem dX4_addTurns_52 : decode cX4_addTurns 52 = .ok (.iload 4, 2) := by decide +kernel
theorem dX4_addTurns_54 : decode cX4_addTurns 54 = .ok (.aload_n 1, 1) := by decide +kernel
theorem dX4_addTurns_55 : decode cX4_addTurns 55 = .ok (.getfield 38, 3) := by decide +kernel
theorem dX4_addTurns_58 : decode cX4_addTurns 58 = .ok (.if_icmp .ge 59, 3) := by decide +kernel
theorem dX4_addTurns_61 : decode cX4_addTurns 61 = .ok (.aload_n 3, 1) := by decide +kernel
theorem dX4_addTurns_62 : decode cX4_addTurns 62 = .ok (.iconst 2, 1) := by decide +kernel
theorem dX4_addTurns_63 : decode cX4_addTurns 63 = .ok (.iload 4, 2) := by decide +kernel
theorem dX4_addTurns_65 : decode cX4_addTurns 65 = .ok (.imul, 1) := by decide +kernel
theorem dX4_addTurns_66 : decode cX4_addTurns 66 = .ok (.aload_n 1, 1) := by decide +kernel
theorem dX4_addTurns_67 : decode cX4_addTurns 67 = .ok (.getfield 85, 3) := by decide +kernel
theorem dX4_addTurns_70 : decode cX4_addTurns 70 = .ok (.iload 4, 2) := by decide +kernel
theorem dX4_addTurns_72 : decode cX4_addTurns 72 = .ok (.iaload, 1) := by decide +kernel
theorem dX4_addTurns_73 : decode cX4_addTurns 73 = .ok (.iload_n 2, 1) := by decide +kernel
theorem dX4_addTurns_74 : decode cX4_addTurns 74 = .ok (.if_icmp .ne 9, 3) := by decide +kernel
theorem dX4_addTurns_77 : decode cX4_addTurns 77 = .ok (.ldc2_w 94, 3) := by decide +kernel
theorem dX4_addTurns_80 : decode cX4_addTurns 80 = .ok (.goto 4, 3) := by decide +kernel
theorem dX4_addTurns_83 : decode cX4_addTurns 83 = .ok (.lconst 0, 1) := by decide +kernel
theorem dX4_addTurns_84 : decode cX4_addTurns 84 = .ok (.lastore, 1) := by decide +kernel
theorem dX4_addTurns_85 : decode cX4_addTurns 85 = .ok (.aload_n 3, 1) := by decide +kernel
theorem dX4_addTurns_86 : decode cX4_addTurns 86 = .ok (.iconst 2, 1) := by decide +kernel
theorem dX4_addTurns_87 : decode cX4_addTurns 87 = .ok (.iload 4, 2) := by decide +kernel
theorem dX4_addTurns_89 : decode cX4_addTurns 89 = .ok (.imul, 1) := by decide +kernel
theorem dX4_addTurns_90 : decode cX4_addTurns 90 = .ok (.iconst 1, 1) := by decide +kernel
theorem dX4_addTurns_91 : decode cX4_addTurns 91 = .ok (.iadd, 1) := by decide +kernel
theorem dX4_addTurns_92 : decode cX4_addTurns 92 = .ok (.aload_n 1, 1) := by decide +kernel
theorem dX4_addTurns_93 : decode cX4_addTurns 93 = .ok (.getfield 82, 3) := by decide +kernel
theorem dX4_addTurns_96 : decode cX4_addTurns 96 = .ok (.iload 4, 2) := by decide +kernel
theorem dX4_addTurns_98 : decode cX4_addTurns 98 = .ok (.iaload, 1) := by decide +kernel
theorem dX4_addTurns_99 : decode cX4_addTurns 99 = .ok (.iload_n 2, 1) := by decide +kernel
theorem dX4_addTurns_100 : decode cX4_addTurns 100 = .ok (.if_icmp .ne 9, 3) := by decide +kernel
theorem dX4_addTurns_103 : decode cX4_addTurns 103 = .ok (.ldc2_w 94, 3) := by decide +kernel
theorem dX4_addTurns_106 : decode cX4_addTurns 106 = .ok (.goto 4, 3) := by decide +kernel
theorem dX4_addTurns_109 : decode cX4_addTurns 109 = .ok (.lconst 0, 1) := by decide +kernel
theorem dX4_addTurns_110 : decode cX4_addTurns 110 = .ok (.lastore, 1) := by decide +kernel
theorem dX4_addTurns_111 : decode cX4_addTurns 111 = .ok (.iinc 4 1, 3) := by decide +kernel
theorem dX4_addTurns_114 : decode cX4_addTurns 114 = .ok (.goto (-62), 3) := by decide +kernel
theorem dX4_addTurns_117 : decode cX4_addTurns 117 = .ok (.iinc 2 1, 3) := by decide +kernel
theorem dX4_addTurns_120 : decode cX4_addTurns 120 = .ok (.goto (-118), 3) := by decide +kernel
theorem dX4_addTurns_123 : decode cX4_addTurns 123 = .ok (.return_, 1) := by decide +kernel
abbrev rm_X4_addTurns : Room := { frames := 1, cells := 0, slots := 0, locals := 32 }
noncomputable def f_X4_addTurns_b117 (N : Nat) (kb2 : Int32 → ZS → Option (Unit × ZS)) (x2 : Int32) (σ : ZS) : Option (Unit × ZS) := bd (x2 + (1 : Int32)) fun v5 => kb2 v5 σ
noncomputable def f_X4_addTurns_b110 (N : Nat) (kb52 : Int32 → ZS → Option (Unit × ZS)) (x2 : Int32) (a3 : Nat) (x4 : Int32) (s0 : Nat) (s1 : Int32) (s2 : Int64) (σ : ZS) : Option (Unit × ZS) := ck (tg s0 == 2) (ck (inb s1 (ln s0)) (bd (sJ σ s0 (s1.toNatClampNeg) s2) fun σ24 => bd (x4 + (1 : Int32)) fun v25 => kb52 v25 σ24))
noncomputable def f_X4_addTurns_b84 (N : Nat) (kb52 : Int32 → ZS → Option (Unit × ZS)) (x2 : Int32) (a3 : Nat) (x4 : Int32) (s0 : Nat) (s1 : Int32) (s2 : Int64) (σ : ZS) : Option (Unit × ZS) := ck (tg s0 == 2) (ck (inb s1 (ln s0)) (bd (sJ σ s0 (s1.toNatClampNeg) s2) fun σ19 => ck (inb x4 6) ((if (gI σ19 24 (x4.toNatClampNeg)) = x2 then f_X4_addTurns_b110 N kb52 x2 a3 x4 a3 (((2 : Int32) * x4) + (1 : Int32)) (12 : Int64) σ19 else f_X4_addTurns_b110 N kb52 x2 a3 x4 a3 (((2 : Int32) * x4) + (1 : Int32)) (0 : Int64) σ19))))
noncomputable def f_X4_addTurns_h52 (N : Nat) (kb2 : Int32 → ZS → Option (Unit × ZS)) (x2 : Int32) (a3 : Nat) : Nat → Int32 → ZS → Option (Unit × ZS)
  | 0, _, _ => none
  | n + 1, x4, σ => (if (gI σ 2 1) ≤ x4 then f_X4_addTurns_b117 N kb2 x2 σ else ck (inb x4 6) ((if (gI σ 23 (x4.toNatClampNeg)) = x2 then f_X4_addTurns_b84 N (fun x4_ σ_ => f_X4_addTurns_h52 N kb2 x2 a3 n x4_ σ_) x2 a3 x4 a3 ((2 : Int32) * x4) (12 : Int64) σ else f_X4_addTurns_b84 N (fun x4_ σ_ => f_X4_addTurns_h52 N kb2 x2 a3 n x4_ σ_) x2 a3 x4 a3 ((2 : Int32) * x4) (0 : Int64) σ)))
noncomputable def f_X4_addTurns_h2 (N : Nat) : Nat → Int32 → ZS → Option (Unit × ZS)
  | 0, _, _ => none
  | n + 1, x2, σ => (if (gI σ 2 0) ≤ x2 then some ((), σ) else obd (f_X2_turns N x2 σ) fun v2 σ3 => (if v2 = 0 then f_X4_addTurns_b117 N (fun x2_ σ_ => f_X4_addTurns_h2 N n x2_ σ_) x2 σ3 else (if (78 : Int32) ≤ (gI σ3 5 3) then f_X4_addTurns_b117 N (fun x2_ σ_ => f_X4_addTurns_h2 N n x2_ σ_) x2 σ3 else bd (gI σ3 5 3) fun v7 => bd (v7 + (1 : Int32)) fun v8 => bd (sI σ3 5 3 v8) fun σ9 => ck (inb v7 78) (bd (65 + v7.toNatClampNeg) fun v11 => obd (f_J7_fill_d0a16 N v11 (0 : Int64) σ9) fun _ σ13 => f_X4_addTurns_h52 N (fun x2_ σ_ => f_X4_addTurns_h2 N n x2_ σ_) x2 v11 N (0 : Int32) σ13))))
noncomputable def f_X4_addTurns (N : Nat) (σ : ZS) : Option (Unit × ZS) := f_X4_addTurns_h2 N N (0 : Int32) σ
set_option maxHeartbeats 4000000 in
set_option maxRecDepth 100000 in
theorem k_X4_addTurns_b117 {l : Launch} {Y : ZY} {G : ZG} {σ' : ZS} (h : zOk (l, rm_X4_addTurns, 5, 0, 0) Y G cX4_addTurns RX4 none) (hq : zRet (l, rm_X4_addTurns, 5, 0, 0) Y G none σ') (N : Nat) {kb2 : Int32 → ZS → Option (Unit × ZS)} (x2 : Int32) (hb2 : ∀ (x2_ : Int32) (σ_ : ZS), kb2 x2_ σ_ = some ((), σ') → Z (l, rm_X4_addTurns, 5, 0, 0) Y G σ_ [(0, .ref (G.1 5)), (1, .ref (G.1 2)), (2, .int x2_)] [] 2) (σ : ZS) (hf : f_X4_addTurns_b117 N kb2 x2 σ = some ((), σ')) : Z (l, rm_X4_addTurns, 5, 0, 0) Y G σ [(0, .ref (G.1 5)), (1, .ref (G.1 2)), (2, .int x2)] [] 117 := by
  rw [f_X4_addTurns_b117] at hf
  obtain ⟨v5, ev5, hf⟩ := bd_ex hf
  refine z_iinc h (v := v5) (lv' := [(2, .int v5), (0, .ref (G.1 5)), (1, .ref (G.1 2))]) dX4_addTurns_117 2 rfl (by rw [ev5]; rfl) rfl rfl ?_
  refine z_goto h (tgt := 2) dX4_addTurns_120 (by decide) ?_
  exact z_sub [1, 2, 0] rfl (hb2 _ _ hf)
set_option maxHeartbeats 4000000 in
set_option maxRecDepth 100000 in
theorem k_X4_addTurns_b110 {l : Launch} {Y : ZY} {G : ZG} {σ' : ZS} (h : zOk (l, rm_X4_addTurns, 5, 0, 0) Y G cX4_addTurns RX4 none) (hq : zRet (l, rm_X4_addTurns, 5, 0, 0) Y G none σ') (N : Nat) {kb52 : Int32 → ZS → Option (Unit × ZS)} (x2 : Int32) (a3 : Nat) (x4 : Int32) (s0 : Nat) (s1 : Int32) (s2 : Int64) (hb52 : ∀ (x4_ : Int32) (σ_ : ZS), kb52 x4_ σ_ = some ((), σ') → Z (l, rm_X4_addTurns, 5, 0, 0) Y G σ_ [(0, .ref (G.1 5)), (1, .ref (G.1 2)), (2, .int x2), (3, .ref (G.1 a3)), (4, .int x4_)] [] 52) (σ : ZS) (hf : f_X4_addTurns_b110 N kb52 x2 a3 x4 s0 s1 s2 σ = some ((), σ')) : Z (l, rm_X4_addTurns, 5, 0, 0) Y G σ [(0, .ref (G.1 5)), (1, .ref (G.1 2)), (2, .int x2), (3, .ref (G.1 a3)), (4, .int x4)] [.long s2, .int s1, .ref (G.1 s0)] 110 := by
  rw [f_X4_addTurns_b110] at hf
  obtain ⟨g22, hf⟩ := ck_out hf
  obtain ⟨g23, hf⟩ := ck_out hf
  refine z_last h (eq_of_beq g22) rfl g23 dX4_addTurns_110 ?_
  refine z_gen (fun σ24 eσ24 => ?_)
  have hf := bd_to eσ24 hf
  obtain ⟨v25, ev25, hf⟩ := bd_ex hf
  refine z_iinc h (v := v25) (lv' := [(4, .int v25), (0, .ref (G.1 5)), (1, .ref (G.1 2)), (2, .int x2), (3, .ref (G.1 a3))]) dX4_addTurns_111 4 rfl (by rw [ev25]; rfl) rfl rfl ?_
  refine z_goto h (tgt := 52) dX4_addTurns_114 (by decide) ?_
  exact z_sub [1, 2, 3, 4, 0] rfl (hb52 _ _ hf)
set_option maxHeartbeats 4000000 in
set_option maxRecDepth 100000 in
theorem k_X4_addTurns_b84 {l : Launch} {Y : ZY} {G : ZG} {σ' : ZS} (h : zOk (l, rm_X4_addTurns, 5, 0, 0) Y G cX4_addTurns RX4 none) (hq : zRet (l, rm_X4_addTurns, 5, 0, 0) Y G none σ') (N : Nat) {kb52 : Int32 → ZS → Option (Unit × ZS)} (x2 : Int32) (a3 : Nat) (x4 : Int32) (s0 : Nat) (s1 : Int32) (s2 : Int64) (hb52 : ∀ (x4_ : Int32) (σ_ : ZS), kb52 x4_ σ_ = some ((), σ') → Z (l, rm_X4_addTurns, 5, 0, 0) Y G σ_ [(0, .ref (G.1 5)), (1, .ref (G.1 2)), (2, .int x2), (3, .ref (G.1 a3)), (4, .int x4_)] [] 52) (σ : ZS) (hf : f_X4_addTurns_b84 N kb52 x2 a3 x4 s0 s1 s2 σ = some ((), σ')) : Z (l, rm_X4_addTurns, 5, 0, 0) Y G σ [(0, .ref (G.1 5)), (1, .ref (G.1 2)), (2, .int x2), (3, .ref (G.1 a3)), (4, .int x4)] [.long s2, .int s1, .ref (G.1 s0)] 84 := by
  rw [f_X4_addTurns_b84] at hf
  obtain ⟨g17, hf⟩ := ck_out hf
  obtain ⟨g18, hf⟩ := ck_out hf
  refine z_last h (eq_of_beq g17) rfl g18 dX4_addTurns_84 ?_
  refine z_gen (fun σ19 eσ19 => ?_)
  have hf := bd_to eσ19 hf
  refine z_aload_n h dX4_addTurns_85 rfl 3 rfl ?_
  refine z_iconst h (v := (2 : Int32)) dX4_addTurns_86 ic_2 ?_
  refine z_iload h dX4_addTurns_87 4 rfl ?_
  refine z_imul h dX4_addTurns_89 ?_
  refine z_iconst h (v := (1 : Int32)) dX4_addTurns_90 ic_1 ?_
  refine z_iadd h dX4_addTurns_91 ?_
  refine z_aload_n h dX4_addTurns_92 rfl 1 rfl ?_
  refine z_gfRN h zC2 (d := 24) (c := 2) tg_2 ln_2 6 rfl ft_2_6 rf_2_6 (by decide +kernel) dX4_addTurns_93 ?_
  refine z_iload h dX4_addTurns_96 4 rfl ?_
  obtain ⟨g20, hf⟩ := ck_out hf
  refine z_iald h (c := 24) tg_24 ln_24 g20 dX4_addTurns_98 ?_
  refine z_iload_n h dX4_addTurns_99 rfl 2 rfl ?_
  refine z_icmp_ne h (tgt := 109) dX4_addTurns_100 (by decide) (fun g21 => ?_) (fun g21 => ?_)
  · have hf := it_neg g21 hf
    refine z_lconst h (v := (0 : Int64)) dX4_addTurns_109 lc_0 ?_
    exact z_sub [0, 1, 2, 3, 4] rfl (k_X4_addTurns_b110 h hq N x2 a3 x4 a3 (((2 : Int32) * x4) + (1 : Int32)) (0 : Int64) hb52 _ hf)
  · have hf := it_pos g21 hf
    refine z_ldc2 h (v := (12 : Int64)) wd_314 dX4_addTurns_103 ?_
    refine z_goto h (tgt := 110) dX4_addTurns_106 (by decide) ?_
    exact z_sub [0, 1, 2, 3, 4] rfl (k_X4_addTurns_b110 h hq N x2 a3 x4 a3 (((2 : Int32) * x4) + (1 : Int32)) (12 : Int64) hb52 _ hf)
set_option maxHeartbeats 4000000 in
set_option maxRecDepth 100000 in
theorem k_X4_addTurns_h52 {l : Launch} {Y : ZY} {G : ZG} {σ' : ZS} (h : zOk (l, rm_X4_addTurns, 5, 0, 0) Y G cX4_addTurns RX4 none) (hq : zRet (l, rm_X4_addTurns, 5, 0, 0) Y G none σ') (N : Nat) {kb2 : Int32 → ZS → Option (Unit × ZS)} (x2 : Int32) (a3 : Nat) (hb2 : ∀ (x2_ : Int32) (σ_ : ZS), kb2 x2_ σ_ = some ((), σ') → Z (l, rm_X4_addTurns, 5, 0, 0) Y G σ_ [(0, .ref (G.1 5)), (1, .ref (G.1 2)), (2, .int x2_)] [] 2) : ∀ (n : Nat) (x4 : Int32) (σ : ZS), f_X4_addTurns_h52 N kb2 x2 a3 n x4 σ = some ((), σ') → Z (l, rm_X4_addTurns, 5, 0, 0) Y G σ [(0, .ref (G.1 5)), (1, .ref (G.1 2)), (2, .int x2), (3, .ref (G.1 a3)), (4, .int x4)] [] 52 := by
  intro n
  induction n with
  | zero =>
    intro x4 σ hf
    rw [f_X4_addTurns_h52] at hf
    cases hf
  | succ n ih =>
    intro x4 σ hf
    rw [f_X4_addTurns_h52] at hf
    refine z_iload h dX4_addTurns_52 4 rfl ?_
    refine z_aload_n h dX4_addTurns_54 rfl 1 rfl ?_
    refine z_gfIN h zC2 (c := 2) tg_2 ln_2 1 rfl ft_2_1 (by decide +kernel) dX4_addTurns_55 ?_
    refine z_icmp_ge h (tgt := 117) dX4_addTurns_58 (by decide) (fun g14 => ?_) (fun g14 => ?_)
    · have hf := it_pos g14 hf
      exact z_sub [0, 1, 2] rfl (k_X4_addTurns_b117 h hq N x2 hb2 _ hf)
    · have hf := it_neg g14 hf
      refine z_aload_n h dX4_addTurns_61 rfl 3 rfl ?_
      refine z_iconst h (v := (2 : Int32)) dX4_addTurns_62 ic_2 ?_
      refine z_iload h dX4_addTurns_63 4 rfl ?_
      refine z_imul h dX4_addTurns_65 ?_
      refine z_aload_n h dX4_addTurns_66 rfl 1 rfl ?_
      refine z_gfRN h zC2 (d := 23) (c := 2) tg_2 ln_2 5 rfl ft_2_5 rf_2_5 (by decide +kernel) dX4_addTurns_67 ?_
      refine z_iload h dX4_addTurns_70 4 rfl ?_
      obtain ⟨g15, hf⟩ := ck_out hf
      refine z_iald h (c := 23) tg_23 ln_23 g15 dX4_addTurns_72 ?_
      refine z_iload_n h dX4_addTurns_73 rfl 2 rfl ?_
      refine z_icmp_ne h (tgt := 83) dX4_addTurns_74 (by decide) (fun g16 => ?_) (fun g16 => ?_)
      · have hf := it_neg g16 hf
        refine z_lconst h (v := (0 : Int64)) dX4_addTurns_83 lc_0 ?_
        exact z_sub [0, 1, 2, 3, 4] rfl (k_X4_addTurns_b84 h hq N x2 a3 x4 a3 ((2 : Int32) * x4) (0 : Int64) (fun x4_ σ_ hf_ => ih x4_ σ_ hf_) _ hf)
      · have hf := it_pos g16 hf
        refine z_ldc2 h (v := (12 : Int64)) wd_314 dX4_addTurns_77 ?_
        refine z_goto h (tgt := 84) dX4_addTurns_80 (by decide) ?_
        exact z_sub [0, 1, 2, 3, 4] rfl (k_X4_addTurns_b84 h hq N x2 a3 x4 a3 ((2 : Int32) * x4) (12 : Int64) (fun x4_ σ_ hf_ => ih x4_ σ_ hf_) _ hf)
set_option maxHeartbeats 4000000 in
set_option maxRecDepth 100000 in
theorem k_X4_addTurns_h2 {l : Launch} {Y : ZY} {G : ZG} {σ' : ZS} (h : zOk (l, rm_X4_addTurns, 5, 0, 0) Y G cX4_addTurns RX4 none) (hq : zRet (l, rm_X4_addTurns, 5, 0, 0) Y G none σ') (N : Nat) : ∀ (n : Nat) (x2 : Int32) (σ : ZS), f_X4_addTurns_h2 N n x2 σ = some ((), σ') → Z (l, rm_X4_addTurns, 5, 0, 0) Y G σ [(0, .ref (G.1 5)), (1, .ref (G.1 2)), (2, .int x2)] [] 2 := by
  intro n
  induction n with
  | zero =>
    intro x2 σ hf
    rw [f_X4_addTurns_h2] at hf
    cases hf
  | succ n ih =>
    intro x2 σ hf
    rw [f_X4_addTurns_h2] at hf
    refine z_iload_n h dX4_addTurns_2 rfl 2 rfl ?_
    refine z_aload_n h dX4_addTurns_3 rfl 1 rfl ?_
    refine z_gfIN h zC2 (c := 2) tg_2 ln_2 0 rfl ft_2_0 (by decide +kernel) dX4_addTurns_4 ?_
    refine z_icmp_ge h (tgt := 123) dX4_addTurns_7 (by decide) (fun g1 => ?_) (fun g1 => ?_)
    · have hf := it_pos g1 hf
      exact z_vret h (rt_V hf hq) dX4_addTurns_123
    · have hf := it_neg g1 hf
      refine z_aload_n h dX4_addTurns_10 rfl 1 rfl ?_
      refine z_iload_n h dX4_addTurns_11 rfl 2 rfl ?_
      obtain ⟨v2, σ3, e3, hf⟩ := obd_out hf
      refine z_cVv h (n := 1) (c_X2_turns l G e3) zC2 tg_2 ln_2 rfl rfl wd_323 wd_324 wd_325 wd_14 wd_326 (by decide +kernel) ⟨rfl, rfl⟩ rfl rfl rfl dX4_addTurns_12 ⟨Nat.zero_le _, Nat.zero_le _⟩ ?_
      refine z_if_eq h (tgt := 117) dX4_addTurns_15 (by decide) (fun g4 => ?_) (fun g4 => ?_)
      · have hf := it_pos g4 hf
        exact z_sub [0, 1, 2] rfl (k_X4_addTurns_b117 h hq N x2 (fun x2_ σ_ hf_ => ih x2_ σ_ hf_) _ hf)
      · have hf := it_neg g4 hf
        refine z_aload_n h dX4_addTurns_18 rfl 0 rfl ?_
        refine z_gfI h zC4 (c := 5) tg_5 ln_5 3 rfl ft_4_3 wd_286 dX4_addTurns_19 ?_
        refine z_bipush h (v := (78 : Int32)) dX4_addTurns_22 bp_78 ?_
        refine z_icmp_ge h (tgt := 117) dX4_addTurns_24 (by decide) (fun g6 => ?_) (fun g6 => ?_)
        · have hf := it_pos g6 hf
          exact z_sub [0, 1, 2] rfl (k_X4_addTurns_b117 h hq N x2 (fun x2_ σ_ hf_ => ih x2_ σ_ hf_) _ hf)
        · have hf := it_neg g6 hf
          refine z_aload_n h dX4_addTurns_27 rfl 0 rfl ?_
          refine z_gfR h zC4 (d := 16) (c := 5) tg_5 ln_5 0 rfl ft_4_0 rf_5_0 wd_74 dX4_addTurns_28 ?_
          refine z_aload_n h dX4_addTurns_31 rfl 0 rfl ?_
          refine z_dup h dX4_addTurns_32 rfl ?_
          refine z_gfI h zC4 (c := 5) tg_5 ln_5 3 rfl ft_4_3 wd_286 dX4_addTurns_33 ?_
          refine z_topI (fun v7 ev7 => ?_)
          have hf := bd_to ev7 hf
          refine z_dup_x1 h dX4_addTurns_36 rfl rfl ?_
          refine z_iconst h (v := (1 : Int32)) dX4_addTurns_37 ic_1 ?_
          refine z_iadd h dX4_addTurns_38 ?_
          refine z_topI (fun v8 ev8 => ?_)
          have hf := bd_to ev8 hf
          refine z_pfI h zC4 (c := 5) tg_5 ln_5 3 rfl ft_4_3 wd_286 rfl (ty := .int) (by decide +kernel) rfl rfl dX4_addTurns_39 ?_
          refine z_gen (fun σ9 eσ9 => ?_)
          have hf := bd_to eσ9 hf
          obtain ⟨g10, hf⟩ := ck_out hf
          refine z_aald h (c := 16) (d := 65 + v7.toNatClampNeg) tg_16 rfl ln_16 rfl g10 dX4_addTurns_42 ?_
          refine z_topA (fun v11 ev11 => ?_)
          have hf := bd_to ev11 hf
          refine z_astore_n h dX4_addTurns_43 rfl (lv' := [(3, .ref (G.1 v11)), (0, .ref (G.1 5)), (1, .ref (G.1 2)), (2, .int x2)]) rfl rfl ?_
          refine z_aload_n h dX4_addTurns_44 rfl 0 rfl ?_
          refine z_lconst h (v := (0 : Int64)) dX4_addTurns_45 lc_0 ?_
          obtain ⟨v12, σ13, e13, hf⟩ := obd_out hf
          refine z_cS0 h (n := 2) (c_J7_fill_d0a16 l G e13) rfl wd_315 wd_316 wd_300 wd_317 (by decide +kernel) ⟨rfl, rfl⟩ rfl rfl rfl dX4_addTurns_46 ⟨Nat.zero_le _, Nat.zero_le _⟩ ?_
          refine z_iconst h (v := (0 : Int32)) dX4_addTurns_49 ic_0 ?_
          refine z_istore h dX4_addTurns_50 (lv' := [(4, .int (0 : Int32)), (3, .ref (G.1 v11)), (0, .ref (G.1 5)), (1, .ref (G.1 2)), (2, .int x2)]) rfl rfl ?_
          exact z_sub [2, 3, 4, 1, 0] rfl (k_X4_addTurns_h52 h hq N x2 v11 (fun x2_ σ_ hf_ => ih x2_ σ_ hf_) _ _ _ hf)
set_option maxHeartbeats 4000000 in
set_option maxRecDepth 100000 in
theorem c_X4_addTurns (l : Launch) (G : ZG) {N : Nat} {σ σ' : ZS} {r : Unit} (hf : f_X4_addTurns N σ = some (r, σ')) : zMet l G yX4_addTurns cX4_addTurns 5 none rm_X4_addTurns [.ref (G.1 5), .ref (G.1 2)] σ none σ' := by
  refine z_met (by decide +kernel) rfl (fun Y h hq => ?_)
  have h : zOk (l, rm_X4_addTurns, 5, 0, 0) Y G cX4_addTurns RX4 none := h
  rw [f_X4_addTurns] at hf
  refine z_sub (lv' := [(0, .ref (G.1 5)), (1, .ref (G.1 2))]) [0, 1] rfl ?_
  refine z_iconst h (v := (0 : Int32)) dX4_addTurns_0 ic_0 ?_
  refine z_istore_n h dX4_addTurns_1 rfl (lv' := [(2, .int (0 : Int32)), (0, .ref (G.1 5)), (1, .ref (G.1 2))]) rfl rfl ?_
  exact z_sub [1, 2, 0] rfl (k_X4_addTurns_h2 h hq N _ _ _ hf)
theorem dX4_swapRows_0 : decode cX4_swapRows 0 = .ok (.aload_n 0, 1) := by decide +kernel
theorem dX4_swapRows_1 : decode cX4_swapRows 1 = .ok (.invokevirtual 115, 3) := by decide +kernel
theorem dX4_swapRows_4 : decode cX4_swapRows 4 = .ok (.istore_n 3, 1) := by decide +kernel
theorem dX4_swapRows_5 : decode cX4_swapRows 5 = .ok (.iconst 0, 1) := by decide +kernel
theorem dX4_swapRows_6 : decode cX4_swapRows 6 = .ok (.istore 4, 2) := by decide +kernel
theorem dX4_swapRows_8 : decode cX4_swapRows 8 = .ok (.iload 4, 2) := by decide +kernel
theorem dX4_swapRows_10 : decode cX4_swapRows 10 = .ok (.iload_n 3, 1) := by decide +kernel
theorem dX4_swapRows_11 : decode cX4_swapRows 11 = .ok (.if_icmp .ge 54, 3) := by decide +kernel
theorem dX4_swapRows_14 : decode cX4_swapRows 14 = .ok (.iload_n 1, 1) := by decide +kernel
theorem dX4_swapRows_15 : decode cX4_swapRows 15 = .ok (.iload_n 2, 1) := by decide +kernel
theorem dX4_swapRows_16 : decode cX4_swapRows 16 = .ok (.if_icmp .eq 49, 3) := by decide +kernel
theorem dX4_swapRows_19 : decode cX4_swapRows 19 = .ok (.aload_n 0, 1) := by decide +kernel
theorem dX4_swapRows_20 : decode cX4_swapRows 20 = .ok (.getfield 13, 3) := by decide +kernel
theorem dX4_swapRows_23 : decode cX4_swapRows 23 = .ok (.iload_n 1, 1) := by decide +kernel
theorem dX4_swapRows_24 : decode cX4_swapRows 24 = .ok (.aaload, 1) := by decide +kernel
theorem dX4_swapRows_25 : decode cX4_swapRows 25 = .ok (.iload 4, 2) := by decide +kernel
theorem dX4_swapRows_27 : decode cX4_swapRows 27 = .ok (.laload, 1) := by decide +kernel
theorem dX4_swapRows_28 : decode cX4_swapRows 28 = .ok (.lstore 5, 2) := by decide +kernel
theorem dX4_swapRows_30 : decode cX4_swapRows 30 = .ok (.aload_n 0, 1) := by decide +kernel
theorem dX4_swapRows_31 : decode cX4_swapRows 31 = .ok (.getfield 13, 3) := by decide +kernel
theorem dX4_swapRows_34 : decode cX4_swapRows 34 = .ok (.iload_n 1, 1) := by decide +kernel
theorem dX4_swapRows_35 : decode cX4_swapRows 35 = .ok (.aaload, 1) := by decide +kernel
theorem dX4_swapRows_36 : decode cX4_swapRows 36 = .ok (.iload 4, 2) := by decide +kernel
theorem dX4_swapRows_38 : decode cX4_swapRows 38 = .ok (.aload_n 0, 1) := by decide +kernel
theorem dX4_swapRows_39 : decode cX4_swapRows 39 = .ok (.getfield 13, 3) := by decide +kernel
theorem dX4_swapRows_42 : decode cX4_swapRows 42 = .ok (.iload_n 2, 1) := by decide +kernel
theorem dX4_swapRows_43 : decode cX4_swapRows 43 = .ok (.aaload, 1) := by decide +kernel
theorem dX4_swapRows_44 : decode cX4_swapRows 44 = .ok (.iload 4, 2) := by decide +kernel
theorem dX4_swapRows_46 : decode cX4_swapRows 46 = .ok (.laload, 1) := by decide +kernel
theorem dX4_swapRows_47 : decode cX4_swapRows 47 = .ok (.lastore, 1) := by decide +kernel
theorem dX4_swapRows_48 : decode cX4_swapRows 48 = .ok (.aload_n 0, 1) := by decide +kernel
theorem dX4_swapRows_49 : decode cX4_swapRows 49 = .ok (.getfield 13, 3) := by decide +kernel
theorem dX4_swapRows_52 : decode cX4_swapRows 52 = .ok (.iload_n 2, 1) := by decide +kernel
theorem dX4_swapRows_53 : decode cX4_swapRows 53 = .ok (.aaload, 1) := by decide +kernel
theorem dX4_swapRows_54 : decode cX4_swapRows 54 = .ok (.iload 4, 2) := by decide +kernel
theorem dX4_swapRows_56 : decode cX4_swapRows 56 = .ok (.lload 5, 2) := by decide +kernel
theorem dX4_swapRows_58 : decode cX4_swapRows 58 = .ok (.lastore, 1) := by decide +kernel
theorem dX4_swapRows_59 : decode cX4_swapRows 59 = .ok (.iinc 4 1, 3) := by decide +kernel
theorem dX4_swapRows_62 : decode cX4_swapRows 62 = .ok (.goto (-54), 3) := by decide +kernel
theorem dX4_swapRows_65 : decode cX4_swapRows 65 = .ok (.return_, 1) := by decide +kernel
abbrev rm_X4_swapRows : Room := { frames := 1, cells := 0, slots := 0, locals := 28 }
noncomputable def f_X4_swapRows_h8 (N : Nat) (x1 : Int32) (x2 : Int32) (x3 : Int32) : Nat → Int32 → ZS → Option (Unit × ZS)
  | 0, _, _ => none
  | n + 1, x4, σ => (if x3 ≤ x4 then some ((), σ) else (if x1 = x2 then some ((), σ) else ck (inb x1 78) (ck (tg (65 + x1.toNatClampNeg) == 2) (ck (inb x4 (ln (65 + x1.toNatClampNeg))) (bd (gJ σ (65 + x1.toNatClampNeg) (x4.toNatClampNeg)) fun v8 => ck (inb x1 78) (ck (inb x2 78) (ck (tg (65 + x2.toNatClampNeg) == 2) (ck (inb x4 (ln (65 + x2.toNatClampNeg))) (bd (gJ σ (65 + x2.toNatClampNeg) (x4.toNatClampNeg)) fun v13 => ck (tg (65 + x1.toNatClampNeg) == 2) (ck (inb x4 (ln (65 + x1.toNatClampNeg))) (bd (sJ σ (65 + x1.toNatClampNeg) (x4.toNatClampNeg) v13) fun σ16 => ck (inb x2 78) (ck (tg (65 + x2.toNatClampNeg) == 2) (ck (inb x4 (ln (65 + x2.toNatClampNeg))) (bd (sJ σ16 (65 + x2.toNatClampNeg) (x4.toNatClampNeg) v8) fun σ20 => bd (x4 + (1 : Int32)) fun v21 => f_X4_swapRows_h8 N x1 x2 x3 n v21 σ20))))))))))))))
noncomputable def f_X4_swapRows (N : Nat) (x1 : Int32) (x2 : Int32) (σ : ZS) : Option (Unit × ZS) := obd (f_X4_width N σ) fun v1 σ2 => f_X4_swapRows_h8 N x1 x2 v1 N (0 : Int32) σ2
set_option maxHeartbeats 4000000 in
set_option maxRecDepth 100000 in
theorem k_X4_swapRows_h8 {l : Launch} {Y : ZY} {G : ZG} {σ' : ZS} (h : zOk (l, rm_X4_swapRows, 7, 0, 0) Y G cX4_swapRows RX4 none) (hq : zRet (l, rm_X4_swapRows, 7, 0, 0) Y G none σ') (N : Nat) (x1 : Int32) (x2 : Int32) (x3 : Int32) : ∀ (n : Nat) (x4 : Int32) (σ : ZS), f_X4_swapRows_h8 N x1 x2 x3 n x4 σ = some ((), σ') → Z (l, rm_X4_swapRows, 7, 0, 0) Y G σ [(0, .ref (G.1 5)), (1, .int x1), (2, .int x2), (3, .int x3), (4, .int x4)] [] 8 := by
  intro n
  induction n with
  | zero =>
    intro x4 σ hf
    rw [f_X4_swapRows_h8] at hf
    cases hf
  | succ n ih =>
    intro x4 σ hf
    rw [f_X4_swapRows_h8] at hf
    refine z_iload h dX4_swapRows_8 4 rfl ?_
    refine z_iload_n h dX4_swapRows_10 rfl 3 rfl ?_
    refine z_icmp_ge h (tgt := 65) dX4_swapRows_11 (by decide) (fun g3 => ?_) (fun g3 => ?_)
    · have hf := it_pos g3 hf
      exact z_vret h (rt_V hf hq) dX4_swapRows_65
    · have hf := it_neg g3 hf
      refine z_iload_n h dX4_swapRows_14 rfl 1 rfl ?_
      refine z_iload_n h dX4_swapRows_15 rfl 2 rfl ?_
      refine z_icmp_eq h (tgt := 65) dX4_swapRows_16 (by decide) (fun g4 => ?_) (fun g4 => ?_)
      · have hf := it_pos g4 hf
        exact z_vret h (rt_V hf hq) dX4_swapRows_65
      · have hf := it_neg g4 hf
        refine z_aload_n h dX4_swapRows_19 rfl 0 rfl ?_
        refine z_gfR h zC4 (d := 16) (c := 5) tg_5 ln_5 0 rfl ft_4_0 rf_5_0 wd_74 dX4_swapRows_20 ?_
        refine z_iload_n h dX4_swapRows_23 rfl 1 rfl ?_
        obtain ⟨g5, hf⟩ := ck_out hf
        refine z_aald h (c := 16) (d := 65 + x1.toNatClampNeg) tg_16 rfl ln_16 rfl g5 dX4_swapRows_24 ?_
        refine z_iload h dX4_swapRows_25 4 rfl ?_
        obtain ⟨g6, hf⟩ := ck_out hf
        obtain ⟨g7, hf⟩ := ck_out hf
        refine z_lald h (eq_of_beq g6) rfl g7 dX4_swapRows_27 ?_
        refine z_topJ (fun v8 ev8 => ?_)
        have hf := bd_to ev8 hf
        refine z_lstore h dX4_swapRows_28 (lv' := [(5, .long v8), (0, .ref (G.1 5)), (1, .int x1), (2, .int x2), (3, .int x3), (4, .int x4)]) rfl rfl ?_
        refine z_aload_n h dX4_swapRows_30 rfl 1 rfl ?_
        refine z_gfR h zC4 (d := 16) (c := 5) tg_5 ln_5 0 rfl ft_4_0 rf_5_0 wd_74 dX4_swapRows_31 ?_
        refine z_iload_n h dX4_swapRows_34 rfl 2 rfl ?_
        obtain ⟨g9, hf⟩ := ck_out hf
        refine z_aald h (c := 16) (d := 65 + x1.toNatClampNeg) tg_16 rfl ln_16 rfl g9 dX4_swapRows_35 ?_
        refine z_iload h dX4_swapRows_36 5 rfl ?_
        refine z_aload_n h dX4_swapRows_38 rfl 1 rfl ?_
        refine z_gfR h zC4 (d := 16) (c := 5) tg_5 ln_5 0 rfl ft_4_0 rf_5_0 wd_74 dX4_swapRows_39 ?_
        refine z_iload_n h dX4_swapRows_42 rfl 3 rfl ?_
        obtain ⟨g10, hf⟩ := ck_out hf
        refine z_aald h (c := 16) (d := 65 + x2.toNatClampNeg) tg_16 rfl ln_16 rfl g10 dX4_swapRows_43 ?_
        refine z_iload h dX4_swapRows_44 5 rfl ?_
        obtain ⟨g11, hf⟩ := ck_out hf
        obtain ⟨g12, hf⟩ := ck_out hf
        refine z_lald h (eq_of_beq g11) rfl g12 dX4_swapRows_46 ?_
        refine z_topJ (fun v13 ev13 => ?_)
        have hf := bd_to ev13 hf
        obtain ⟨g14, hf⟩ := ck_out hf
        obtain ⟨g15, hf⟩ := ck_out hf
        refine z_last h (eq_of_beq g14) rfl g15 dX4_swapRows_47 ?_
        refine z_gen (fun σ16 eσ16 => ?_)
        have hf := bd_to eσ16 hf
        refine z_aload_n h dX4_swapRows_48 rfl 1 rfl ?_
        refine z_gfR h zC4 (d := 16) (c := 5) tg_5 ln_5 0 rfl ft_4_0 rf_5_0 wd_74 dX4_swapRows_49 ?_
        refine z_iload_n h dX4_swapRows_52 rfl 3 rfl ?_
        obtain ⟨g17, hf⟩ := ck_out hf
        refine z_aald h (c := 16) (d := 65 + x2.toNatClampNeg) tg_16 rfl ln_16 rfl g17 dX4_swapRows_53 ?_
        refine z_iload h dX4_swapRows_54 5 rfl ?_
        refine z_lload h dX4_swapRows_56 0 rfl ?_
        obtain ⟨g18, hf⟩ := ck_out hf
        obtain ⟨g19, hf⟩ := ck_out hf
        refine z_last h (eq_of_beq g18) rfl g19 dX4_swapRows_58 ?_
        refine z_gen (fun σ20 eσ20 => ?_)
        have hf := bd_to eσ20 hf
        obtain ⟨v21, ev21, hf⟩ := bd_ex hf
        refine z_iinc h (v := v21) (lv' := [(4, .int v21), (5, .long v8), (0, .ref (G.1 5)), (1, .int x1), (2, .int x2), (3, .int x3)]) dX4_swapRows_59 5 rfl (by rw [ev21]; rfl) rfl rfl ?_
        refine z_goto h (tgt := 8) dX4_swapRows_62 (by decide) ?_
        exact z_sub [2, 3, 4, 5, 0] rfl (ih _ _ hf)
set_option maxHeartbeats 4000000 in
set_option maxRecDepth 100000 in
theorem c_X4_swapRows (l : Launch) (G : ZG) {N : Nat} {x1 : Int32} {x2 : Int32} {σ σ' : ZS} {r : Unit} (hf : f_X4_swapRows N x1 x2 σ = some (r, σ')) : zMet l G yX4_swapRows cX4_swapRows 7 none rm_X4_swapRows [.ref (G.1 5), .int x1, .int x2] σ none σ' := by
  refine z_met (by decide +kernel) rfl (fun Y h hq => ?_)
  have h : zOk (l, rm_X4_swapRows, 7, 0, 0) Y G cX4_swapRows RX4 none := h
  rw [f_X4_swapRows] at hf
  refine z_sub (lv' := [(0, .ref (G.1 5)), (1, .int x1), (2, .int x2)]) [0, 1, 2] rfl ?_
  refine z_aload_n h dX4_swapRows_0 rfl 0 rfl ?_
  obtain ⟨v1, σ2, e2, hf⟩ := obd_out hf
  refine z_cVv h (n := 0) (c_X4_width l G e2) zC4 tg_5 ln_5 rfl rfl wd_331 wd_332 wd_333 wd_64 wd_334 (by decide +kernel) ⟨rfl, rfl⟩ rfl rfl rfl dX4_swapRows_1 ⟨Nat.zero_le _, Nat.zero_le _⟩ ?_
  refine z_istore_n h dX4_swapRows_4 rfl (lv' := [(3, .int v1), (0, .ref (G.1 5)), (1, .int x1), (2, .int x2)]) rfl rfl ?_
  refine z_iconst h (v := (0 : Int32)) dX4_swapRows_5 ic_0 ?_
  refine z_istore h dX4_swapRows_6 (lv' := [(4, .int (0 : Int32)), (3, .int v1), (0, .ref (G.1 5)), (1, .int x1), (2, .int x2)]) rfl rfl ?_
  exact z_sub [2, 3, 4, 1, 0] rfl (k_X4_swapRows_h8 h hq N x1 x2 v1 _ _ _ hf)
theorem dX4_reduceRows_0 : decode cX4_reduceRows 0 = .ok (.aload_n 0, 1) := by decide +kernel
theorem dX4_reduceRows_1 : decode cX4_reduceRows 1 = .ok (.iconst 0, 1) := by decide +kernel
theorem dX4_reduceRows_2 : decode cX4_reduceRows 2 = .ok (.putfield 29, 3) := by decide +kernel
theorem dX4_reduceRows_5 : decode cX4_reduceRows 5 = .ok (.iconst 0, 1) := by decide +kernel
theorem dX4_reduceRows_6 : decode cX4_reduceRows 6 = .ok (.istore_n 1, 1) := by decide +kernel
theorem dX4_reduceRows_7 : decode cX4_reduceRows 7 = .ok (.iload_n 1, 1) := by decide +kernel
theorem dX4_reduceRows_8 : decode cX4_reduceRows 8 = .ok (.aload_n 0, 1) := by decide +kernel
theorem dX4_reduceRows_9 : decode cX4_reduceRows 9 = .ok (.getfield 32, 3) := by decide +kernel
theorem dX4_reduceRows_12 : decode cX4_reduceRows 12 = .ok (.if_icmp .ge 112, 3) := by decide +kernel
theorem dX4_reduceRows_15 : decode cX4_reduceRows 15 = .ok (.aload_n 0, 1) := by decide +kernel
theorem dX4_reduceRows_16 : decode cX4_reduceRows 16 = .ok (.getfield 29, 3) := by decide +kernel
theorem dX4_reduceRows_19 : decode cX4_reduceRows 19 = .ok (.aload_n 0, 1) := by decide +kernel
theorem dX4_reduceRows_20 : decode cX4_reduceRows 20 = .ok (.getfield 25, 3) := by decide +kernel
theorem dX4_reduceRows_23 : decode cX4_reduceRows 23 = .ok (.if_icmp .ge 101, 3) := by decide +kernel
theorem dX4_reduceRows_26 : decode cX4_reduceRows 26 = .ok (.aload_n 0, 1) := by decide +kernel
theorem dX4_reduceRows_27 : decode cX4_reduceRows 27 = .ok (.iload_n 1, 1) := by decide +kernel
theorem dX4_reduceRows_28 : decode cX4_reduceRows 28 = .ok (.aload_n 0, 1) := by decide +kernel
theorem dX4_reduceRows_29 : decode cX4_reduceRows 29 = .ok (.getfield 29, 3) := by decide +kernel
theorem dX4_reduceRows_32 : decode cX4_reduceRows 32 = .ok (.aload_n 0, 1) := by decide +kernel
theorem dX4_reduceRows_33 : decode cX4_reduceRows 33 = .ok (.getfield 25, 3) := by decide +kernel
theorem dX4_reduceRows_36 : decode cX4_reduceRows 36 = .ok (.aload_n 0, 1) := by decide +kernel
theorem dX4_reduceRows_37 : decode cX4_reduceRows 37 = .ok (.getfield 29, 3) := by decide +kernel
theorem dX4_reduceRows_40 : decode cX4_reduceRows 40 = .ok (.isub, 1) := by decide +kernel
theorem dX4_reduceRows_41 : decode cX4_reduceRows 41 = .ok (.invokevirtual 103, 3) := by decide +kernel
theorem dX4_reduceRows_44 : decode cX4_reduceRows 44 = .ok (.istore_n 2, 1) := by decide +kernel
theorem dX4_reduceRows_45 : decode cX4_reduceRows 45 = .ok (.iload_n 2, 1) := by decide +kernel
theorem dX4_reduceRows_46 : decode cX4_reduceRows 46 = .ok (.ifCond .lt 72, 3) := by decide +kernel
theorem dX4_reduceRows_49 : decode cX4_reduceRows 49 = .ok (.aload_n 0, 1) := by decide +kernel
theorem dX4_reduceRows_50 : decode cX4_reduceRows 50 = .ok (.iload_n 2, 1) := by decide +kernel
theorem dX4_reduceRows_51 : decode cX4_reduceRows 51 = .ok (.aload_n 0, 1) := by decide +kernel
theorem dX4_reduceRows_52 : decode cX4_reduceRows 52 = .ok (.getfield 29, 3) := by decide +kernel
theorem dX4_reduceRows_55 : decode cX4_reduceRows 55 = .ok (.invokevirtual 107, 3) := by decide +kernel
theorem dX4_reduceRows_58 : decode cX4_reduceRows 58 = .ok (.iconst 0, 1) := by decide +kernel
theorem dX4_reduceRows_59 : decode cX4_reduceRows 59 = .ok (.istore_n 3, 1) := by decide +kernel
theorem dX4_reduceRows_60 : decode cX4_reduceRows 60 = .ok (.iload_n 3, 1) := by decide +kernel
theorem dX4_reduceRows_61 : decode cX4_reduceRows 61 = .ok (.aload_n 0, 1) := by decide +kernel
theorem dX4_reduceRows_62 : decode cX4_reduceRows 62 = .ok (.getfield 25, 3) := by decide +kernel
theorem dX4_reduceRows_65 : decode cX4_reduceRows 65 = .ok (.if_icmp .ge 43, 3) := by decide +kernel
theorem dX4_reduceRows_68 : decode cX4_reduceRows 68 = .ok (.iload_n 3, 1) := by decide +kernel
theorem dX4_reduceRows_69 : decode cX4_reduceRows 69 = .ok (.aload_n 0, 1) := by decide +kernel
theorem dX4_reduceRows_70 : decode cX4_reduceRows 70 = .ok (.getfield 29, 3) := by decide +kernel
theorem dX4_reduceRows_73 : decode cX4_reduceRows 73 = .ok (.if_icmp .eq 29, 3) := by decide +kernel
theorem dX4_reduceRows_76 : decode cX4_reduceRows 76 = .ok (.aload_n 0, 1) := by decide +kernel
theorem dX4_reduceRows_77 : decode cX4_reduceRows 77 = .ok (.aload_n 0, 1) := by decide +kernel
theorem dX4_reduceRows_78 : decode cX4_reduceRows 78 = .ok (.getfield 13, 3) := by decide +kernel
theorem dX4_reduceRows_81 : decode cX4_reduceRows 81 = .ok (.iload_n 3, 1) := by decide +kernel
theorem dX4_reduceRows_82 : decode cX4_reduceRows 82 = .ok (.aaload, 1) := by decide +kernel
theorem dX4_reduceRows_83 : decode cX4_reduceRows 83 = .ok (.aload_n 0, 1) := by decide +kernel
theorem dX4_reduceRows_84 : decode cX4_reduceRows 84 = .ok (.getfield 13, 3) := by decide +kernel
theorem dX4_reduceRows_87 : decode cX4_reduceRows 87 = .ok (.aload_n 0, 1) := by decide +kernel
theorem dX4_reduceRows_88 : decode cX4_reduceRows 88 = .ok (.getfield 29, 3) := by decide +kernel
theorem dX4_reduceRows_91 : decode cX4_reduceRows 91 = .ok (.aaload, 1) := by decide +kernel
theorem dX4_reduceRows_92 : decode cX4_reduceRows 92 = .ok (.iload_n 1, 1) := by decide +kernel
theorem dX4_reduceRows_93 : decode cX4_reduceRows 93 = .ok (.aload_n 0, 1) := by decide +kernel
theorem dX4_reduceRows_94 : decode cX4_reduceRows 94 = .ok (.getfield 13, 3) := by decide +kernel
theorem dX4_reduceRows_97 : decode cX4_reduceRows 97 = .ok (.iload_n 3, 1) := by decide +kernel
theorem dX4_reduceRows_98 : decode cX4_reduceRows 98 = .ok (.aaload, 1) := by decide +kernel
theorem dX4_reduceRows_99 : decode cX4_reduceRows 99 = .ok (.invokevirtual 111, 3) := by decide +kernel
theorem dX4_reduceRows_102 : decode cX4_reduceRows 102 = .ok (.iinc 3 1, 3) := by decide +kernel
theorem dX4_reduceRows_105 : decode cX4_reduceRows 105 = .ok (.goto (-45), 3) := by decide +kernel
theorem dX4_reduceRows_108 : decode cX4_reduceRows 108 = .ok (.aload_n 0, 1) := by decide +kernel
theorem dX4_reduceRows_109 : decode cX4_reduceRows 109 = .ok (.dup, 1) := by decide +kernel
theorem dX4_reduceRows_110 : decode cX4_reduceRows 110 = .ok (.getfield 29, 3) := by decide +kernel
theorem dX4_reduceRows_113 : decode cX4_reduceRows 113 = .ok (.iconst 1, 1) := by decide +kernel
theorem dX4_reduceRows_114 : decode cX4_reduceRows 114 = .ok (.iadd, 1) := by decide +kernel
theorem dX4_reduceRows_115 : decode cX4_reduceRows 115 = .ok (.putfield 29, 3) := by decide +kernel
theorem dX4_reduceRows_118 : decode cX4_reduceRows 118 = .ok (.iinc 1 1, 3) := by decide +kernel
theorem dX4_reduceRows_121 : decode cX4_reduceRows 121 = .ok (.goto (-114), 3) := by decide +kernel
theorem dX4_reduceRows_124 : decode cX4_reduceRows 124 = .ok (.return_, 1) := by decide +kernel
abbrev rm_X4_reduceRows : Room := { frames := 4, cells := 0, slots := 0, locals := 140 }
noncomputable def f_X4_reduceRows_b118 (N : Nat) (kb7 : Int32 → ZS → Option (Unit × ZS)) (x1 : Int32) (σ : ZS) : Option (Unit × ZS) := bd (x1 + (1 : Int32)) fun v7 => kb7 v7 σ
noncomputable def f_X4_reduceRows_b102 (N : Nat) (kb60 : Int32 → ZS → Option (Unit × ZS)) (x1 : Int32) (x3 : Int32) (σ : ZS) : Option (Unit × ZS) := bd (x3 + (1 : Int32)) fun v14 => kb60 v14 σ
noncomputable def f_X4_reduceRows_h60 (N : Nat) (kb7 : Int32 → ZS → Option (Unit × ZS)) (x1 : Int32) : Nat → Int32 → ZS → Option (Unit × ZS)
  | 0, _, _ => none
  | n + 1, x3, σ => (if (gI σ 5 3) ≤ x3 then bd ((gI σ 5 4) + (1 : Int32)) fun v11 => bd (sI σ 5 4 v11) fun σ12 => f_X4_reduceRows_b118 N kb7 x1 σ12 else (if x3 = (gI σ 5 4) then f_X4_reduceRows_b102 N (fun x3_ σ_ => f_X4_reduceRows_h60 N kb7 x1 n x3_ σ_) x1 x3 σ else ck (inb x3 78) (ck (inb (gI σ 5 4) 78) (ck (inb x3 78) (obd (f_X4_cancel N (65 + x3.toNatClampNeg) (65 + (gI σ 5 4).toNatClampNeg) x1 (65 + x3.toNatClampNeg) σ) fun _ σ19 => f_X4_reduceRows_b102 N (fun x3_ σ_ => f_X4_reduceRows_h60 N kb7 x1 n x3_ σ_) x1 x3 σ19)))))
noncomputable def f_X4_reduceRows_h7 (N : Nat) : Nat → Int32 → ZS → Option (Unit × ZS)
  | 0, _, _ => none
  | n + 1, x1, σ => (if (gI σ 5 5) ≤ x1 then some ((), σ) else (if (gI σ 5 3) ≤ (gI σ 5 4) then some ((), σ) else obd (f_X4_rowWith N x1 (gI σ 5 4) ((gI σ 5 3) - (gI σ 5 4)) σ) fun v4 σ5 => (if v4 < 0 then f_X4_reduceRows_b118 N (fun x1_ σ_ => f_X4_reduceRows_h7 N n x1_ σ_) x1 σ5 else obd (f_X4_swapRows N v4 (gI σ5 5 4) σ5) fun _ σ9 => f_X4_reduceRows_h60 N (fun x1_ σ_ => f_X4_reduceRows_h7 N n x1_ σ_) x1 N (0 : Int32) σ9)))
noncomputable def f_X4_reduceRows (N : Nat) (σ : ZS) : Option (Unit × ZS) := bd (sI σ 5 4 (0 : Int32)) fun σ1 => f_X4_reduceRows_h7 N N (0 : Int32) σ1
set_option maxHeartbeats 4000000 in
set_option maxRecDepth 100000 in
theorem k_X4_reduceRows_b118 {l : Launch} {Y : ZY} {G : ZG} {σ' : ZS} (h : zOk (l, rm_X4_reduceRows, 4, 0, 0) Y G cX4_reduceRows RX4 none) (hq : zRet (l, rm_X4_reduceRows, 4, 0, 0) Y G none σ') (N : Nat) {kb7 : Int32 → ZS → Option (Unit × ZS)} (x1 : Int32) (hb7 : ∀ (x1_ : Int32) (σ_ : ZS), kb7 x1_ σ_ = some ((), σ') → Z (l, rm_X4_reduceRows, 4, 0, 0) Y G σ_ [(0, .ref (G.1 5)), (1, .int x1_)] [] 7) (σ : ZS) (hf : f_X4_reduceRows_b118 N kb7 x1 σ = some ((), σ')) : Z (l, rm_X4_reduceRows, 4, 0, 0) Y G σ [(0, .ref (G.1 5)), (1, .int x1)] [] 118 := by
  rw [f_X4_reduceRows_b118] at hf
  obtain ⟨v7, ev7, hf⟩ := bd_ex hf
  refine z_iinc h (v := v7) (lv' := [(1, .int v7), (0, .ref (G.1 5))]) dX4_reduceRows_118 1 rfl (by rw [ev7]; rfl) rfl rfl ?_
  refine z_goto h (tgt := 7) dX4_reduceRows_121 (by decide) ?_
  exact z_sub [1, 0] rfl (hb7 _ _ hf)
set_option maxHeartbeats 4000000 in
set_option maxRecDepth 100000 in
theorem k_X4_reduceRows_b102 {l : Launch} {Y : ZY} {G : ZG} {σ' : ZS} (h : zOk (l, rm_X4_reduceRows, 4, 0, 0) Y G cX4_reduceRows RX4 none) (hq : zRet (l, rm_X4_reduceRows, 4, 0, 0) Y G none σ') (N : Nat) {kb60 : Int32 → ZS → Option (Unit × ZS)} (x1 : Int32) (x3 : Int32) (hb60 : ∀ (x3_ : Int32) (σ_ : ZS), kb60 x3_ σ_ = some ((), σ') → Z (l, rm_X4_reduceRows, 4, 0, 0) Y G σ_ [(0, .ref (G.1 5)), (1, .int x1), (3, .int x3_)] [] 60) (σ : ZS) (hf : f_X4_reduceRows_b102 N kb60 x1 x3 σ = some ((), σ')) : Z (l, rm_X4_reduceRows, 4, 0, 0) Y G σ [(0, .ref (G.1 5)), (1, .int x1), (3, .int x3)] [] 102 := by
  rw [f_X4_reduceRows_b102] at hf
  obtain ⟨v14, ev14, hf⟩ := bd_ex hf
  refine z_iinc h (v := v14) (lv' := [(3, .int v14), (0, .ref (G.1 5)), (1, .int x1)]) dX4_reduceRows_102 2 rfl (by rw [ev14]; rfl) rfl rfl ?_
  refine z_goto h (tgt := 60) dX4_reduceRows_105 (by decide) ?_
  exact z_sub [1, 2, 0] rfl (hb60 _ _ hf)
set_option maxHeartbeats 4000000 in
set_option maxRecDepth 100000 in
theorem k_X4_reduceRows_h60 {l : Launch} {Y : ZY} {G : ZG} {σ' : ZS} (h : zOk (l, rm_X4_reduceRows, 4, 0, 0) Y G cX4_reduceRows RX4 none) (hq : zRet (l, rm_X4_reduceRows, 4, 0, 0) Y G none σ') (N : Nat) {kb7 : Int32 → ZS → Option (Unit × ZS)} (x1 : Int32) (hb7 : ∀ (x1_ : Int32) (σ_ : ZS), kb7 x1_ σ_ = some ((), σ') → Z (l, rm_X4_reduceRows, 4, 0, 0) Y G σ_ [(0, .ref (G.1 5)), (1, .int x1_)] [] 7) : ∀ (n : Nat) (x3 : Int32) (σ : ZS), f_X4_reduceRows_h60 N kb7 x1 n x3 σ = some ((), σ') → Z (l, rm_X4_reduceRows, 4, 0, 0) Y G σ [(0, .ref (G.1 5)), (1, .int x1), (3, .int x3)] [] 60 := by
  intro n
  induction n with
  | zero =>
    intro x3 σ hf
    rw [f_X4_reduceRows_h60] at hf
    cases hf
  | succ n ih =>
    intro x3 σ hf
    rw [f_X4_reduceRows_h60] at hf
    refine z_iload_n h dX4_reduceRows_60 rfl 2 rfl ?_
    refine z_aload_n h dX4_reduceRows_61 rfl 0 rfl ?_
    refine z_gfI h zC4 (c := 5) tg_5 ln_5 3 rfl ft_4_3 wd_286 dX4_reduceRows_62 ?_
    refine z_icmp_ge h (tgt := 108) dX4_reduceRows_65 (by decide) (fun g10 => ?_) (fun g10 => ?_)
    · have hf := it_pos g10 hf
      refine z_aload_n h dX4_reduceRows_108 rfl 0 rfl ?_
      refine z_dup h dX4_reduceRows_109 rfl ?_
      refine z_gfI h zC4 (c := 5) tg_5 ln_5 4 rfl ft_4_4 wd_345 dX4_reduceRows_110 ?_
      refine z_iconst h (v := (1 : Int32)) dX4_reduceRows_113 ic_1 ?_
      refine z_iadd h dX4_reduceRows_114 ?_
      refine z_topI (fun v11 ev11 => ?_)
      have hf := bd_to ev11 hf
      refine z_pfI h zC4 (c := 5) tg_5 ln_5 4 rfl ft_4_4 wd_345 rfl (ty := .int) (by decide +kernel) rfl rfl dX4_reduceRows_115 ?_
      refine z_gen (fun σ12 eσ12 => ?_)
      have hf := bd_to eσ12 hf
      exact z_sub [0, 1] rfl (k_X4_reduceRows_b118 h hq N x1 hb7 _ hf)
    · have hf := it_neg g10 hf
      refine z_iload_n h dX4_reduceRows_68 rfl 2 rfl ?_
      refine z_aload_n h dX4_reduceRows_69 rfl 0 rfl ?_
      refine z_gfI h zC4 (c := 5) tg_5 ln_5 4 rfl ft_4_4 wd_345 dX4_reduceRows_70 ?_
      refine z_icmp_eq h (tgt := 102) dX4_reduceRows_73 (by decide) (fun g13 => ?_) (fun g13 => ?_)
      · have hf := it_pos g13 hf
        exact z_sub [0, 1, 2] rfl (k_X4_reduceRows_b102 h hq N x1 x3 (fun x3_ σ_ hf_ => ih x3_ σ_ hf_) _ hf)
      · have hf := it_neg g13 hf
        refine z_aload_n h dX4_reduceRows_76 rfl 0 rfl ?_
        refine z_aload_n h dX4_reduceRows_77 rfl 0 rfl ?_
        refine z_gfR h zC4 (d := 16) (c := 5) tg_5 ln_5 0 rfl ft_4_0 rf_5_0 wd_74 dX4_reduceRows_78 ?_
        refine z_iload_n h dX4_reduceRows_81 rfl 2 rfl ?_
        obtain ⟨g15, hf⟩ := ck_out hf
        refine z_aald h (c := 16) (d := 65 + x3.toNatClampNeg) tg_16 rfl ln_16 rfl g15 dX4_reduceRows_82 ?_
        refine z_aload_n h dX4_reduceRows_83 rfl 0 rfl ?_
        refine z_gfR h zC4 (d := 16) (c := 5) tg_5 ln_5 0 rfl ft_4_0 rf_5_0 wd_74 dX4_reduceRows_84 ?_
        refine z_aload_n h dX4_reduceRows_87 rfl 0 rfl ?_
        refine z_gfI h zC4 (c := 5) tg_5 ln_5 4 rfl ft_4_4 wd_345 dX4_reduceRows_88 ?_
        obtain ⟨g16, hf⟩ := ck_out hf
        refine z_aald h (c := 16) (d := 65 + (gI σ 5 4).toNatClampNeg) tg_16 rfl ln_16 rfl g16 dX4_reduceRows_91 ?_
        refine z_iload_n h dX4_reduceRows_92 rfl 1 rfl ?_
        refine z_aload_n h dX4_reduceRows_93 rfl 0 rfl ?_
        refine z_gfR h zC4 (d := 16) (c := 5) tg_5 ln_5 0 rfl ft_4_0 rf_5_0 wd_74 dX4_reduceRows_94 ?_
        refine z_iload_n h dX4_reduceRows_97 rfl 2 rfl ?_
        obtain ⟨g17, hf⟩ := ck_out hf
        refine z_aald h (c := 16) (d := 65 + x3.toNatClampNeg) tg_16 rfl ln_16 rfl g17 dX4_reduceRows_98 ?_
        obtain ⟨v18, σ19, e19, hf⟩ := obd_out hf
        refine z_cV0 h (n := 4) (c_X4_cancel l G e19) zC4 tg_5 ln_5 rfl rfl wd_354 wd_355 wd_356 wd_64 wd_357 (by decide +kernel) ⟨rfl, rfl⟩ rfl rfl rfl dX4_reduceRows_99 ⟨Nat.zero_le _, Nat.zero_le _⟩ ?_
        exact z_sub [0, 1, 2] rfl (k_X4_reduceRows_b102 h hq N x1 x3 (fun x3_ σ_ hf_ => ih x3_ σ_ hf_) _ hf)
set_option maxHeartbeats 4000000 in
set_option maxRecDepth 100000 in
theorem k_X4_reduceRows_h7 {l : Launch} {Y : ZY} {G : ZG} {σ' : ZS} (h : zOk (l, rm_X4_reduceRows, 4, 0, 0) Y G cX4_reduceRows RX4 none) (hq : zRet (l, rm_X4_reduceRows, 4, 0, 0) Y G none σ') (N : Nat) : ∀ (n : Nat) (x1 : Int32) (σ : ZS), f_X4_reduceRows_h7 N n x1 σ = some ((), σ') → Z (l, rm_X4_reduceRows, 4, 0, 0) Y G σ [(0, .ref (G.1 5)), (1, .int x1)] [] 7 := by
  intro n
  induction n with
  | zero =>
    intro x1 σ hf
    rw [f_X4_reduceRows_h7] at hf
    cases hf
  | succ n ih =>
    intro x1 σ hf
    rw [f_X4_reduceRows_h7] at hf
    refine z_iload_n h dX4_reduceRows_7 rfl 1 rfl ?_
    refine z_aload_n h dX4_reduceRows_8 rfl 0 rfl ?_
    refine z_gfI h zC4 (c := 5) tg_5 ln_5 5 rfl ft_4_5 wd_288 dX4_reduceRows_9 ?_
    refine z_icmp_ge h (tgt := 124) dX4_reduceRows_12 (by decide) (fun g2 => ?_) (fun g2 => ?_)
    · have hf := it_pos g2 hf
      exact z_vret h (rt_V hf hq) dX4_reduceRows_124
    · have hf := it_neg g2 hf
      refine z_aload_n h dX4_reduceRows_15 rfl 0 rfl ?_
      refine z_gfI h zC4 (c := 5) tg_5 ln_5 4 rfl ft_4_4 wd_345 dX4_reduceRows_16 ?_
      refine z_aload_n h dX4_reduceRows_19 rfl 0 rfl ?_
      refine z_gfI h zC4 (c := 5) tg_5 ln_5 3 rfl ft_4_3 wd_286 dX4_reduceRows_20 ?_
      refine z_icmp_ge h (tgt := 124) dX4_reduceRows_23 (by decide) (fun g3 => ?_) (fun g3 => ?_)
      · have hf := it_pos g3 hf
        exact z_vret h (rt_V hf hq) dX4_reduceRows_124
      · have hf := it_neg g3 hf
        refine z_aload_n h dX4_reduceRows_26 rfl 0 rfl ?_
        refine z_iload_n h dX4_reduceRows_27 rfl 1 rfl ?_
        refine z_aload_n h dX4_reduceRows_28 rfl 0 rfl ?_
        refine z_gfI h zC4 (c := 5) tg_5 ln_5 4 rfl ft_4_4 wd_345 dX4_reduceRows_29 ?_
        refine z_aload_n h dX4_reduceRows_32 rfl 0 rfl ?_
        refine z_gfI h zC4 (c := 5) tg_5 ln_5 3 rfl ft_4_3 wd_286 dX4_reduceRows_33 ?_
        refine z_aload_n h dX4_reduceRows_36 rfl 0 rfl ?_
        refine z_gfI h zC4 (c := 5) tg_5 ln_5 4 rfl ft_4_4 wd_345 dX4_reduceRows_37 ?_
        refine z_isub h dX4_reduceRows_40 ?_
        obtain ⟨v4, σ5, e5, hf⟩ := obd_out hf
        refine z_cVv h (n := 3) (c_X4_rowWith l G e5) zC4 tg_5 ln_5 rfl rfl wd_346 wd_347 wd_348 wd_64 wd_349 (by decide +kernel) ⟨rfl, rfl⟩ rfl rfl rfl dX4_reduceRows_41 ⟨Nat.zero_le _, Nat.zero_le _⟩ ?_
        refine z_istore_n h dX4_reduceRows_44 rfl (lv' := [(2, .int v4), (0, .ref (G.1 5)), (1, .int x1)]) rfl rfl ?_
        refine z_iload_n h dX4_reduceRows_45 rfl 0 rfl ?_
        refine z_if_lt h (tgt := 118) dX4_reduceRows_46 (by decide) (fun g6 => ?_) (fun g6 => ?_)
        · have hf := it_pos g6 hf
          exact z_sub [1, 2] rfl (k_X4_reduceRows_b118 h hq N x1 (fun x1_ σ_ hf_ => ih x1_ σ_ hf_) _ hf)
        · have hf := it_neg g6 hf
          refine z_aload_n h dX4_reduceRows_49 rfl 1 rfl ?_
          refine z_iload_n h dX4_reduceRows_50 rfl 0 rfl ?_
          refine z_aload_n h dX4_reduceRows_51 rfl 1 rfl ?_
          refine z_gfI h zC4 (c := 5) tg_5 ln_5 4 rfl ft_4_4 wd_345 dX4_reduceRows_52 ?_
          obtain ⟨v8, σ9, e9, hf⟩ := obd_out hf
          refine z_cV0 h (n := 2) (c_X4_swapRows l G e9) zC4 tg_5 ln_5 rfl rfl wd_350 wd_351 wd_352 wd_64 wd_353 (by decide +kernel) ⟨rfl, rfl⟩ rfl rfl rfl dX4_reduceRows_55 ⟨Nat.zero_le _, Nat.zero_le _⟩ ?_
          refine z_iconst h (v := (0 : Int32)) dX4_reduceRows_58 ic_0 ?_
          refine z_istore_n h dX4_reduceRows_59 rfl (lv' := [(3, .int (0 : Int32)), (2, .int v4), (0, .ref (G.1 5)), (1, .int x1)]) rfl rfl ?_
          exact z_sub [2, 3, 0] rfl (k_X4_reduceRows_h60 h hq N x1 (fun x1_ σ_ hf_ => ih x1_ σ_ hf_) _ _ _ hf)
set_option maxHeartbeats 4000000 in
set_option maxRecDepth 100000 in
theorem c_X4_reduceRows (l : Launch) (G : ZG) {N : Nat} {σ σ' : ZS} {r : Unit} (hf : f_X4_reduceRows N σ = some (r, σ')) : zMet l G yX4_reduceRows cX4_reduceRows 4 none rm_X4_reduceRows [.ref (G.1 5)] σ none σ' := by
  refine z_met (by decide +kernel) rfl (fun Y h hq => ?_)
  have h : zOk (l, rm_X4_reduceRows, 4, 0, 0) Y G cX4_reduceRows RX4 none := h
  rw [f_X4_reduceRows] at hf
  refine z_sub (lv' := [(0, .ref (G.1 5))]) [0] rfl ?_
  refine z_aload_n h dX4_reduceRows_0 rfl 0 rfl ?_
  refine z_iconst h (v := (0 : Int32)) dX4_reduceRows_1 ic_0 ?_
  refine z_pfI h zC4 (c := 5) tg_5 ln_5 4 rfl ft_4_4 wd_345 rfl (ty := .int) (by decide +kernel) rfl rfl dX4_reduceRows_2 ?_
  refine z_gen (fun σ1 eσ1 => ?_)
  have hf := bd_to eσ1 hf
  refine z_iconst h (v := (0 : Int32)) dX4_reduceRows_5 ic_0 ?_
  refine z_istore_n h dX4_reduceRows_6 rfl (lv' := [(1, .int (0 : Int32)), (0, .ref (G.1 5))]) rfl rfl ?_
  exact z_sub [1, 0] rfl (k_X4_reduceRows_h7 h hq N _ _ _ hf)
theorem dX4_span_0 : decode cX4_span 0 = .ok (.aload_n 0, 1) := by decide +kernel
theorem dX4_span_1 : decode cX4_span 1 = .ok (.iconst 0, 1) := by decide +kernel
theorem dX4_span_2 : decode cX4_span 2 = .ok (.putfield 25, 3) := by decide +kernel
theorem dX4_span_5 : decode cX4_span 5 = .ok (.aload_n 0, 1) := by decide +kernel
theorem dX4_span_6 : decode cX4_span 6 = .ok (.iconst 0, 1) := by decide +kernel
theorem dX4_span_7 : decode cX4_span 7 = .ok (.putfield 35, 3) := by decide +kernel
theorem dX4_span_10 : decode cX4_span 10 = .ok (.aload_n 0, 1) := by decide +kernel
theorem dX4_span_11 : decode cX4_span 11 = .ok (.iconst 2, 1) := by decide +kernel
theorem dX4_span_12 : decode cX4_span 12 = .ok (.aload_n 1, 1) := by decide +kernel
theorem dX4_span_13 : decode cX4_span 13 = .ok (.getfield 38, 3) := by decide +kernel
theorem dX4_span_16 : decode cX4_span 16 = .ok (.imul, 1) := by decide +kernel
theorem dX4_span_17 : decode cX4_span 17 = .ok (.putfield 32, 3) := by decide +kernel
theorem dX4_span_20 : decode cX4_span 20 = .ok (.aload_n 0, 1) := by decide +kernel
theorem dX4_span_21 : decode cX4_span 21 = .ok (.aload_n 1, 1) := by decide +kernel
theorem dX4_span_22 : decode cX4_span 22 = .ok (.iconst 0, 1) := by decide +kernel
theorem dX4_span_23 : decode cX4_span 23 = .ok (.invokevirtual 43, 3) := by decide +kernel
theorem dX4_span_26 : decode cX4_span 26 = .ok (.aload_n 0, 1) := by decide +kernel
theorem dX4_span_27 : decode cX4_span 27 = .ok (.aload_n 1, 1) := by decide +kernel
theorem dX4_span_28 : decode cX4_span 28 = .ok (.iconst 1, 1) := by decide +kernel
theorem dX4_span_29 : decode cX4_span 29 = .ok (.invokevirtual 43, 3) := by decide +kernel
theorem dX4_span_32 : decode cX4_span 32 = .ok (.aload_n 0, 1) := by decide +kernel
theorem dX4_span_33 : decode cX4_span 33 = .ok (.aload_n 1, 1) := by decide +kernel
theorem dX4_span_34 : decode cX4_span 34 = .ok (.invokevirtual 47, 3) := by decide +kernel
theorem dX4_span_37 : decode cX4_span 37 = .ok (.iconst 0, 1) := by decide +kernel
theorem dX4_span_38 : decode cX4_span 38 = .ok (.istore_n 2, 1) := by decide +kernel
theorem dX4_span_39 : decode cX4_span 39 = .ok (.iload_n 2, 1) := by decide +kernel
theorem dX4_span_40 : decode cX4_span 40 = .ok (.aload_n 0, 1) := by decide +kernel
theorem dX4_span_41 : decode cX4_span 41 = .ok (.getfield 25, 3) := by decide +kernel
theorem dX4_span_44 : decode cX4_span 44 = .ok (.if_icmp .ge 19, 3) := by decide +kernel
theorem dX4_span_47 : decode cX4_span 47 = .ok (.aload_n 0, 1) := by decide +kernel
theorem dX4_span_48 : decode cX4_span 48 = .ok (.aload_n 0, 1) := by decide +kernel
theorem dX4_span_49 : decode cX4_span 49 = .ok (.getfield 13, 3) := by decide +kernel
theorem dX4_span_52 : decode cX4_span 52 = .ok (.iload_n 2, 1) := by decide +kernel
theorem dX4_span_53 : decode cX4_span 53 = .ok (.aaload, 1) := by decide +kernel
theorem dX4_span_54 : decode cX4_span 54 = .ok (.invokevirtual 51, 3) := by decide +kernel
theorem dX4_span_57 : decode cX4_span 57 = .ok (.iinc 2 1, 3) := by decide +kernel
theorem dX4_span_60 : decode cX4_span 60 = .ok (.goto (-21), 3) := by decide +kernel
theorem dX4_span_63 : decode cX4_span 63 = .ok (.aload_n 0, 1) := by decide +kernel
theorem dX4_span_64 : decode cX4_span 64 = .ok (.invokevirtual 55, 3) := by decide +kernel
theorem dX4_span_67 : decode cX4_span 67 = .ok (.return_, 1) := by decide +kernel
abbrev rm_X4_span : Room := { frames := 5, cells := 0, slots := 0, locals := 171 }
noncomputable def f_X4_span_h39 (N : Nat) : Nat → Int32 → ZS → Option (Unit × ZS)
  | 0, _, _ => none
  | n + 1, x2, σ => (if (gI σ 5 3) ≤ x2 then obd (f_X4_reduceRows N σ) fun _ σ13 => some ((), σ13) else ck (inb x2 78) (obd (f_X4_simplify N (65 + x2.toNatClampNeg) σ) fun _ σ16 => bd (x2 + (1 : Int32)) fun v17 => f_X4_span_h39 N n v17 σ16))
noncomputable def f_X4_span (N : Nat) (σ : ZS) : Option (Unit × ZS) := bd (sI σ 5 3 (0 : Int32)) fun σ1 => bd (sI σ1 5 6 (0 : Int32)) fun σ2 => bd ((2 : Int32) * (gI σ2 2 1)) fun v3 => bd (sI σ2 5 5 v3) fun σ4 => obd (f_X4_addShifts N (0 : Int32) σ4) fun _ σ6 => obd (f_X4_addShifts N (1 : Int32) σ6) fun _ σ8 => obd (f_X4_addTurns N σ8) fun _ σ10 => f_X4_span_h39 N N (0 : Int32) σ10
set_option maxHeartbeats 4000000 in
set_option maxRecDepth 100000 in
theorem k_X4_span_h39 {l : Launch} {Y : ZY} {G : ZG} {σ' : ZS} (h : zOk (l, rm_X4_span, 3, 0, 0) Y G cX4_span RX4 none) (hq : zRet (l, rm_X4_span, 3, 0, 0) Y G none σ') (N : Nat) : ∀ (n : Nat) (x2 : Int32) (σ : ZS), f_X4_span_h39 N n x2 σ = some ((), σ') → Z (l, rm_X4_span, 3, 0, 0) Y G σ [(0, .ref (G.1 5)), (2, .int x2)] [] 39 := by
  intro n
  induction n with
  | zero =>
    intro x2 σ hf
    rw [f_X4_span_h39] at hf
    cases hf
  | succ n ih =>
    intro x2 σ hf
    rw [f_X4_span_h39] at hf
    refine z_iload_n h dX4_span_39 rfl 1 rfl ?_
    refine z_aload_n h dX4_span_40 rfl 0 rfl ?_
    refine z_gfI h zC4 (c := 5) tg_5 ln_5 3 rfl ft_4_3 wd_286 dX4_span_41 ?_
    refine z_icmp_ge h (tgt := 63) dX4_span_44 (by decide) (fun g11 => ?_) (fun g11 => ?_)
    · have hf := it_pos g11 hf
      refine z_aload_n h dX4_span_63 rfl 0 rfl ?_
      obtain ⟨v12, σ13, e13, hf⟩ := obd_out hf
      refine z_cV0 h (n := 0) (c_X4_reduceRows l G e13) zC4 tg_5 ln_5 rfl rfl wd_341 wd_342 wd_343 wd_64 wd_344 (by decide +kernel) ⟨rfl, rfl⟩ rfl rfl rfl dX4_span_64 ⟨Nat.zero_le _, Nat.zero_le _⟩ ?_
      exact z_vret h (rt_V hf hq) dX4_span_67
    · have hf := it_neg g11 hf
      refine z_aload_n h dX4_span_47 rfl 0 rfl ?_
      refine z_aload_n h dX4_span_48 rfl 0 rfl ?_
      refine z_gfR h zC4 (d := 16) (c := 5) tg_5 ln_5 0 rfl ft_4_0 rf_5_0 wd_74 dX4_span_49 ?_
      refine z_iload_n h dX4_span_52 rfl 1 rfl ?_
      obtain ⟨g14, hf⟩ := ck_out hf
      refine z_aald h (c := 16) (d := 65 + x2.toNatClampNeg) tg_16 rfl ln_16 rfl g14 dX4_span_53 ?_
      obtain ⟨v15, σ16, e16, hf⟩ := obd_out hf
      refine z_cV0 h (n := 1) (c_X4_simplify l G e16) zC4 tg_5 ln_5 rfl rfl wd_327 wd_328 wd_329 wd_64 wd_330 (by decide +kernel) ⟨rfl, rfl⟩ rfl rfl rfl dX4_span_54 ⟨Nat.zero_le _, Nat.zero_le _⟩ ?_
      obtain ⟨v17, ev17, hf⟩ := bd_ex hf
      refine z_iinc h (v := v17) (lv' := [(2, .int v17), (0, .ref (G.1 5))]) dX4_span_57 1 rfl (by rw [ev17]; rfl) rfl rfl ?_
      refine z_goto h (tgt := 39) dX4_span_60 (by decide) ?_
      exact z_sub [1, 0] rfl (ih _ _ hf)
set_option maxHeartbeats 4000000 in
set_option maxRecDepth 100000 in
theorem c_X4_span (l : Launch) (G : ZG) {N : Nat} {σ σ' : ZS} {r : Unit} (hf : f_X4_span N σ = some (r, σ')) : zMet l G yX4_span cX4_span 3 none rm_X4_span [.ref (G.1 5), .ref (G.1 2)] σ none σ' := by
  refine z_met (by decide +kernel) rfl (fun Y h hq => ?_)
  have h : zOk (l, rm_X4_span, 3, 0, 0) Y G cX4_span RX4 none := h
  rw [f_X4_span] at hf
  refine z_sub (lv' := [(0, .ref (G.1 5)), (1, .ref (G.1 2))]) [0, 1] rfl ?_
  refine z_aload_n h dX4_span_0 rfl 0 rfl ?_
  refine z_iconst h (v := (0 : Int32)) dX4_span_1 ic_0 ?_
  refine z_pfI h zC4 (c := 5) tg_5 ln_5 3 rfl ft_4_3 wd_286 rfl (ty := .int) (by decide +kernel) rfl rfl dX4_span_2 ?_
  refine z_gen (fun σ1 eσ1 => ?_)
  have hf := bd_to eσ1 hf
  refine z_aload_n h dX4_span_5 rfl 0 rfl ?_
  refine z_iconst h (v := (0 : Int32)) dX4_span_6 ic_0 ?_
  refine z_pfI h zC4 (c := 5) tg_5 ln_5 6 rfl ft_4_6 wd_287 rfl (ty := .int) (by decide +kernel) rfl rfl dX4_span_7 ?_
  refine z_gen (fun σ2 eσ2 => ?_)
  have hf := bd_to eσ2 hf
  refine z_aload_n h dX4_span_10 rfl 0 rfl ?_
  refine z_iconst h (v := (2 : Int32)) dX4_span_11 ic_2 ?_
  refine z_aload_n h dX4_span_12 rfl 1 rfl ?_
  refine z_gfIN h zC2 (c := 2) tg_2 ln_2 1 rfl ft_2_1 (by decide +kernel) dX4_span_13 ?_
  refine z_imul h dX4_span_16 ?_
  refine z_topI (fun v3 ev3 => ?_)
  have hf := bd_to ev3 hf
  refine z_pfI h zC4 (c := 5) tg_5 ln_5 5 rfl ft_4_5 wd_288 rfl (ty := .int) (by decide +kernel) rfl rfl dX4_span_17 ?_
  refine z_gen (fun σ4 eσ4 => ?_)
  have hf := bd_to eσ4 hf
  refine z_aload_n h dX4_span_20 rfl 0 rfl ?_
  refine z_aload_n h dX4_span_21 rfl 1 rfl ?_
  refine z_iconst h (v := (0 : Int32)) dX4_span_22 ic_0 ?_
  obtain ⟨v5, σ6, e6, hf⟩ := obd_out hf
  refine z_cV0 h (n := 2) (c_X4_addShifts l G e6) zC4 tg_5 ln_5 rfl rfl wd_289 wd_290 wd_291 wd_64 wd_292 (by decide +kernel) ⟨rfl, rfl⟩ rfl rfl rfl dX4_span_23 ⟨Nat.zero_le _, Nat.zero_le _⟩ ?_
  refine z_aload_n h dX4_span_26 rfl 0 rfl ?_
  refine z_aload_n h dX4_span_27 rfl 1 rfl ?_
  refine z_iconst h (v := (1 : Int32)) dX4_span_28 ic_1 ?_
  obtain ⟨v7, σ8, e8, hf⟩ := obd_out hf
  refine z_cV0 h (n := 2) (c_X4_addShifts l G e8) zC4 tg_5 ln_5 rfl rfl wd_289 wd_290 wd_291 wd_64 wd_292 (by decide +kernel) ⟨rfl, rfl⟩ rfl rfl rfl dX4_span_29 ⟨Nat.zero_le _, Nat.zero_le _⟩ ?_
  refine z_aload_n h dX4_span_32 rfl 0 rfl ?_
  refine z_aload_n h dX4_span_33 rfl 1 rfl ?_
  obtain ⟨v9, σ10, e10, hf⟩ := obd_out hf
  refine z_cV0 h (n := 1) (c_X4_addTurns l G e10) zC4 tg_5 ln_5 rfl rfl wd_319 wd_320 wd_321 wd_64 wd_322 (by decide +kernel) ⟨rfl, rfl⟩ rfl rfl rfl dX4_span_34 ⟨Nat.zero_le _, Nat.zero_le _⟩ ?_
  refine z_iconst h (v := (0 : Int32)) dX4_span_37 ic_0 ?_
  refine z_istore_n h dX4_span_38 rfl (lv' := [(2, .int (0 : Int32)), (0, .ref (G.1 5)), (1, .ref (G.1 2))]) rfl rfl ?_
  exact z_sub [1, 0] rfl (k_X4_span_h39 h hq N _ _ _ hf)
