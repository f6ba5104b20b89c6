theorem dX3_bend_0 : decode cX3_bend 0 = .ok (.aload_n 0, 1) := by decide +kernel
theorem dX3_bend_1 : decode cX3_bend 1 = .ok (.getfield 24, 3) := by decide +kernel
theorem dX3_bend_4 : decode cX3_bend 4 = .ok (.iload_n 1, 1) := by decide +kernel
theorem dX3_bend_5 : decode cX3_bend 5 = .ok (.aaload, 1) := by decide +kernel
theorem dX3_bend_6 : decode cX3_bend 6 = .ok (.iconst 2, 1) := by decide +kernel
theorem dX3_bend_7 : decode cX3_bend 7 = .ok (.iload_n 2, 1) := by decide +kernel
theorem dX3_bend_8 : decode cX3_bend 8 = .ok (.imul, 1) := by decide +kernel
theorem dX3_bend_9 : decode cX3_bend 9 = .ok (.laload, 1) := by decide +kernel
theorem dX3_bend_10 : decode cX3_bend 10 = .ok (.invokestatic 73, 3) := by decide +kernel
theorem dX3_bend_13 : decode cX3_bend 13 = .ok (.aload_n 0, 1) := by decide +kernel
theorem dX3_bend_14 : decode cX3_bend 14 = .ok (.getfield 24, 3) := by decide +kernel
theorem dX3_bend_17 : decode cX3_bend 17 = .ok (.iload_n 1, 1) := by decide +kernel
theorem dX3_bend_18 : decode cX3_bend 18 = .ok (.aaload, 1) := by decide +kernel
theorem dX3_bend_19 : decode cX3_bend 19 = .ok (.iconst 2, 1) := by decide +kernel
theorem dX3_bend_20 : decode cX3_bend 20 = .ok (.iload_n 2, 1) := by decide +kernel
theorem dX3_bend_21 : decode cX3_bend 21 = .ok (.imul, 1) := by decide +kernel
theorem dX3_bend_22 : decode cX3_bend 22 = .ok (.iconst 1, 1) := by decide +kernel
theorem dX3_bend_23 : decode cX3_bend 23 = .ok (.iadd, 1) := by decide +kernel
theorem dX3_bend_24 : decode cX3_bend 24 = .ok (.laload, 1) := by decide +kernel
theorem dX3_bend_25 : decode cX3_bend 25 = .ok (.invokestatic 73, 3) := by decide +kernel
theorem dX3_bend_28 : decode cX3_bend 28 = .ok (.ladd, 1) := by decide +kernel
theorem dX3_bend_29 : decode cX3_bend 29 = .ok (.lreturn, 1) := by decide +kernel
abbrev rm_X3_bend : Room := { frames := 1, cells := 0, slots := 0, locals := 29 }
noncomputable def f_X3_bend (N : Nat) (x1 : Int32) (x2 : Int32) (σ : ZS) : Option (Int64 × ZS) := ck (inb x1 924) (ck (tg (143 + x1.toNatClampNeg) == 2) (ck (inb ((2 : Int32) * x2) (ln (143 + x1.toNatClampNeg))) (obd (f_ABS N (gJ σ (143 + x1.toNatClampNeg) (((2 : Int32) * x2).toNatClampNeg)) σ) fun v4 σ5 => ck (inb x1 924) (ck (tg (143 + x1.toNatClampNeg) == 2) (ck (inb (((2 : Int32) * x2) + (1 : Int32)) (ln (143 + x1.toNatClampNeg))) (obd (f_ABS N (gJ σ5 (143 + x1.toNatClampNeg) ((((2 : Int32) * x2) + (1 : Int32)).toNatClampNeg)) σ5) fun v9 σ10 => some (v4 + v9, σ10)))))))
set_option maxHeartbeats 4000000 in
set_option maxRecDepth 100000 in
theorem c_X3_bend (l : Launch) (G : ZG) {N : Nat} {x1 : Int32} {x2 : Int32} {σ σ' : ZS} {r : Int64} (hf : f_X3_bend N x1 x2 σ = some (r, σ')) : zMet l G yX3_bend cX3_bend 3 (some .long) rm_X3_bend [.ref (G.1 6), .int x1, .int x2] σ (some (.long r)) σ' := by
  refine z_met (by decide +kernel) rfl (fun Y h hq => ?_)
  have h : zOk (l, rm_X3_bend, 3, 0, 0) Y G cX3_bend RX3 (some .long) := h
  rw [f_X3_bend] at hf
  refine z_sub (lv' := [(0, .ref (G.1 6)), (1, .int x1), (2, .int x2)]) [0, 1, 2] rfl ?_
  refine z_aload_n h dX3_bend_0 rfl 0 rfl ?_
  refine z_gfR h zC3 (d := 18) (c := 6) tg_6 ln_6 2 rfl ft_3_2 rf_6_2 wd_68 dX3_bend_1 ?_
  refine z_iload_n h dX3_bend_4 rfl 1 rfl ?_
  obtain ⟨g1, hf⟩ := ck_out hf
  refine z_aald h (c := 18) (d := 143 + x1.toNatClampNeg) tg_18 rfl ln_18 rfl g1 dX3_bend_5 ?_
  refine z_iconst h (v := (2 : Int32)) dX3_bend_6 ic_2 ?_
  refine z_iload_n h dX3_bend_7 rfl 2 rfl ?_
  refine z_imul h dX3_bend_8 ?_
  obtain ⟨g2, hf⟩ := ck_out hf
  obtain ⟨g3, hf⟩ := ck_out hf
  refine z_lald h (eq_of_beq g2) rfl g3 dX3_bend_9 ?_
  obtain ⟨v4, σ5, e5, hf⟩ := obd_out hf
  refine z_cSv h (n := 1) (c_ABS l G e5) rfl wd_400 wd_338 wd_339 wd_340 (by decide +kernel) ⟨rfl, rfl⟩ rfl rfl rfl dX3_bend_10 ⟨Nat.zero_le _, Nat.zero_le _⟩ ?_
  refine z_aload_n h dX3_bend_13 rfl 0 rfl ?_
  refine z_gfR h zC3 (d := 18) (c := 6) tg_6 ln_6 2 rfl ft_3_2 rf_6_2 wd_68 dX3_bend_14 ?_
  refine z_iload_n h dX3_bend_17 rfl 1 rfl ?_
  obtain ⟨g6, hf⟩ := ck_out hf
  refine z_aald h (c := 18) (d := 143 + x1.toNatClampNeg) tg_18 rfl ln_18 rfl g6 dX3_bend_18 ?_
  refine z_iconst h (v := (2 : Int32)) dX3_bend_19 ic_2 ?_
  refine z_iload_n h dX3_bend_20 rfl 2 rfl ?_
  refine z_imul h dX3_bend_21 ?_
  refine z_iconst h (v := (1 : Int32)) dX3_bend_22 ic_1 ?_
  refine z_iadd h dX3_bend_23 ?_
  obtain ⟨g7, hf⟩ := ck_out hf
  obtain ⟨g8, hf⟩ := ck_out hf
  refine z_lald h (eq_of_beq g7) rfl g8 dX3_bend_24 ?_
  obtain ⟨v9, σ10, e10, hf⟩ := obd_out hf
  refine z_cSv h (n := 1) (c_ABS l G e10) rfl wd_400 wd_338 wd_339 wd_340 (by decide +kernel) ⟨rfl, rfl⟩ rfl rfl rfl dX3_bend_25 ⟨Nat.zero_le _, Nat.zero_le _⟩ ?_
  refine z_ladd h dX3_bend_28 ?_
  exact z_lret h (rt_J hf hq) dX3_bend_29
theorem dX3_workOf_0 : decode cX3_workOf 0 = .ok (.lconst 0, 1) := by decide +kernel
theorem dX3_workOf_1 : decode cX3_workOf 1 = .ok (.lstore 4, 2) := by decide +kernel
theorem dX3_workOf_3 : decode cX3_workOf 3 = .ok (.iconst 0, 1) := by decide +kernel
theorem dX3_workOf_4 : decode cX3_workOf 4 = .ok (.istore 6, 2) := by decide +kernel
theorem dX3_workOf_6 : decode cX3_workOf 6 = .ok (.iload 6, 2) := by decide +kernel
theorem dX3_workOf_8 : decode cX3_workOf 8 = .ok (.iconst 2, 1) := by decide +kernel
theorem dX3_workOf_9 : decode cX3_workOf 9 = .ok (.if_icmp .ge 100, 3) := by decide +kernel
theorem dX3_workOf_12 : decode cX3_workOf 12 = .ok (.aload_n 2, 1) := by decide +kernel
theorem dX3_workOf_13 : decode cX3_workOf 13 = .ok (.getfield 79, 3) := by decide +kernel
theorem dX3_workOf_16 : decode cX3_workOf 16 = .ok (.iconst 2, 1) := by decide +kernel
theorem dX3_workOf_17 : decode cX3_workOf 17 = .ok (.iload_n 3, 1) := by decide +kernel
theorem dX3_workOf_18 : decode cX3_workOf 18 = .ok (.imul, 1) := by decide +kernel
theorem dX3_workOf_19 : decode cX3_workOf 19 = .ok (.iload 6, 2) := by decide +kernel
theorem dX3_workOf_21 : decode cX3_workOf 21 = .ok (.iadd, 1) := by decide +kernel
theorem dX3_workOf_22 : decode cX3_workOf 22 = .ok (.aaload, 1) := by decide +kernel
theorem dX3_workOf_23 : decode cX3_workOf 23 = .ok (.astore 7, 2) := by decide +kernel
theorem dX3_workOf_25 : decode cX3_workOf 25 = .ok (.aload_n 0, 1) := by decide +kernel
theorem dX3_workOf_26 : decode cX3_workOf 26 = .ok (.getfield 12, 3) := by decide +kernel
theorem dX3_workOf_29 : decode cX3_workOf 29 = .ok (.getfield 85, 3) := by decide +kernel
theorem dX3_workOf_32 : decode cX3_workOf 32 = .ok (.iload 6, 2) := by decide +kernel
theorem dX3_workOf_34 : decode cX3_workOf 34 = .ok (.aaload, 1) := by decide +kernel
theorem dX3_workOf_35 : decode cX3_workOf 35 = .ok (.astore 8, 2) := by decide +kernel
theorem dX3_workOf_37 : decode cX3_workOf 37 = .ok (.iconst 0, 1) := by decide +kernel
theorem dX3_workOf_38 : decode cX3_workOf 38 = .ok (.istore 9, 2) := by decide +kernel
theorem dX3_workOf_40 : decode cX3_workOf 40 = .ok (.iload 9, 2) := by decide +kernel
theorem dX3_workOf_42 : decode cX3_workOf 42 = .ok (.aload_n 2, 1) := by decide +kernel
theorem dX3_workOf_43 : decode cX3_workOf 43 = .ok (.getfield 88, 3) := by decide +kernel
theorem dX3_workOf_46 : decode cX3_workOf 46 = .ok (.if_icmp .ge 57, 3) := by decide +kernel
theorem dX3_workOf_49 : decode cX3_workOf 49 = .ok (.aload 7, 2) := by decide +kernel
theorem dX3_workOf_51 : decode cX3_workOf 51 = .ok (.iload 9, 2) := by decide +kernel
theorem dX3_workOf_53 : decode cX3_workOf 53 = .ok (.iaload, 1) := by decide +kernel
theorem dX3_workOf_54 : decode cX3_workOf 54 = .ok (.ifCond .eq 43, 3) := by decide +kernel
theorem dX3_workOf_57 : decode cX3_workOf 57 = .ok (.aload 8, 2) := by decide +kernel
theorem dX3_workOf_59 : decode cX3_workOf 59 = .ok (.iload 9, 2) := by decide +kernel
theorem dX3_workOf_61 : decode cX3_workOf 61 = .ok (.iaload, 1) := by decide +kernel
theorem dX3_workOf_62 : decode cX3_workOf 62 = .ok (.ifCond .lt 35, 3) := by decide +kernel
theorem dX3_workOf_65 : decode cX3_workOf 65 = .ok (.lload 4, 2) := by decide +kernel
theorem dX3_workOf_67 : decode cX3_workOf 67 = .ok (.aload 7, 2) := by decide +kernel
theorem dX3_workOf_69 : decode cX3_workOf 69 = .ok (.iload 9, 2) := by decide +kernel
theorem dX3_workOf_71 : decode cX3_workOf 71 = .ok (.iaload, 1) := by decide +kernel
theorem dX3_workOf_72 : decode cX3_workOf 72 = .ok (.i2l, 1) := by decide +kernel
theorem dX3_workOf_73 : decode cX3_workOf 73 = .ok (.aload_n 0, 1) := by decide +kernel
theorem dX3_workOf_74 : decode cX3_workOf 74 = .ok (.getfield 24, 3) := by decide +kernel
theorem dX3_workOf_77 : decode cX3_workOf 77 = .ok (.iload_n 1, 1) := by decide +kernel
theorem dX3_workOf_78 : decode cX3_workOf 78 = .ok (.aaload, 1) := by decide +kernel
theorem dX3_workOf_79 : decode cX3_workOf 79 = .ok (.aload_n 0, 1) := by decide +kernel
theorem dX3_workOf_80 : decode cX3_workOf 80 = .ok (.getfield 12, 3) := by decide +kernel
theorem dX3_workOf_83 : decode cX3_workOf 83 = .ok (.getfield 35, 3) := by decide +kernel
theorem dX3_workOf_86 : decode cX3_workOf 86 = .ok (.aload 8, 2) := by decide +kernel
theorem dX3_workOf_88 : decode cX3_workOf 88 = .ok (.iload 9, 2) := by decide +kernel
theorem dX3_workOf_90 : decode cX3_workOf 90 = .ok (.iaload, 1) := by decide +kernel
theorem dX3_workOf_91 : decode cX3_workOf 91 = .ok (.iadd, 1) := by decide +kernel
theorem dX3_workOf_92 : decode cX3_workOf 92 = .ok (.laload, 1) := by decide +kernel
theorem dX3_workOf_93 : decode cX3_workOf 93 = .ok (.lmul, 1) := by decide +kernel
theorem dX3_workOf_94 : decode cX3_workOf 94 = .ok (.ladd, 1) := by decide +kernel
theorem dX3_workOf_95 : decode cX3_workOf 95 = .ok (.lstore 4, 2) := by decide +kernel
theorem dX3_workOf_97 : decode cX3_workOf 97 = .ok (.iinc 9 1, 3) := by decide +kernel
theorem dX3_workOf_100 : decode cX3_workOf 100 = .ok (.goto (-60), 3) := by decide +kernel
theorem dX3_workOf_103 : decode cX3_workOf 103 = .ok (.iinc 6 1, 3) := by decide +kernel
theorem dX3_workOf_106 : decode cX3_workOf 106 = .ok (.goto (-100), 3) := by decide +kernel
theorem dX3_workOf_109 : decode cX3_workOf 109 = .ok (.lload 4, 2) := by decide +kernel
theorem dX3_workOf_111 : decode cX3_workOf 111 = .ok (.lreturn, 1) := by decide +kernel
abbrev rm_X3_workOf : Room := { frames := 0, cells := 0, slots := 0, locals := 0 }
noncomputable def f_X3_workOf_b97 (N : Nat) (kb40 : Int64 → Int32 → ZS → Option (Int64 × ZS)) (x1 : Int32) (x3 : Int32) (x4 : Int64) (x6 : Int32) (a7 : Nat) (a8 : Nat) (x9 : Int32) (σ : ZS) : Option (Int64 × ZS) := bd (x9 + (1 : Int32)) fun v11 => kb40 x4 v11 σ
noncomputable def f_X3_workOf_h40 (N : Nat) (kb6 : Int64 → Int32 → ZS → Option (Int64 × ZS)) (x1 : Int32) (x3 : Int32) (x6 : Int32) (a7 : Nat) (a8 : Nat) : Nat → Int64 → Int32 → ZS → Option (Int64 × ZS)
  | 0, _, _, _ => none
  | n + 1, x4, x9, σ => (if (gI σ 2 0) ≤ x9 then bd (x6 + (1 : Int32)) fun v7 => kb6 x4 v7 σ else ck (tg a7 == 1) (ck (inb x9 (ln a7)) ((if (gI σ a7 (x9.toNatClampNeg)) = 0 then f_X3_workOf_b97 N (fun x4_ x9_ σ_ => f_X3_workOf_h40 N kb6 x1 x3 x6 a7 a8 n x4_ x9_ σ_) x1 x3 x4 x6 a7 a8 x9 σ else ck (tg a8 == 1) (ck (inb x9 (ln a8)) ((if (gI σ a8 (x9.toNatClampNeg)) < 0 then f_X3_workOf_b97 N (fun x4_ x9_ σ_ => f_X3_workOf_h40 N kb6 x1 x3 x6 a7 a8 n x4_ x9_ σ_) x1 x3 x4 x6 a7 a8 x9 σ else ck (tg a7 == 1) (ck (inb x9 (ln a7)) (ck (inb x1 924) (ck (tg a8 == 1) (ck (inb x9 (ln a8)) (ck (tg (143 + x1.toNatClampNeg) == 2) (ck (inb ((gI σ 5 5) + (gI σ a8 (x9.toNatClampNeg))) (ln (143 + x1.toNatClampNeg))) (bd (x4 + (((gI σ a7 (x9.toNatClampNeg)).toInt64) * (gJ σ (143 + x1.toNatClampNeg) (((gI σ 5 5) + (gI σ a8 (x9.toNatClampNeg))).toNatClampNeg)))) fun v22 => f_X3_workOf_b97 N (fun x4_ x9_ σ_ => f_X3_workOf_h40 N kb6 x1 x3 x6 a7 a8 n x4_ x9_ σ_) x1 x3 v22 x6 a7 a8 x9 σ))))))))))))))
noncomputable def f_X3_workOf_h6 (N : Nat) (x1 : Int32) (x3 : Int32) : Nat → Int64 → Int32 → ZS → Option (Int64 × ZS)
  | 0, _, _, _ => none
  | n + 1, x4, x6, σ => (if (2 : Int32) ≤ x6 then some (x4, σ) else ck (inb (((2 : Int32) * x3) + x6) 6) (bd (38 + (((2 : Int32) * x3) + x6).toNatClampNeg) fun v3 => ck (inb x6 2) (bd (57 + x6.toNatClampNeg) fun v5 => f_X3_workOf_h40 N (fun x4_ x6_ σ_ => f_X3_workOf_h6 N x1 x3 n x4_ x6_ σ_) x1 x3 x6 v3 v5 N x4 (0 : Int32) σ)))
noncomputable def f_X3_workOf (N : Nat) (x1 : Int32) (x3 : Int32) (σ : ZS) : Option (Int64 × ZS) := f_X3_workOf_h6 N x1 x3 N (0 : Int64) (0 : Int32) σ
set_option maxHeartbeats 4000000 in
set_option maxRecDepth 100000 in
theorem k_X3_workOf_b97 {l : Launch} {Y : ZY} {G : ZG} {r : Int64} {σ' : ZS} (h : zOk (l, rm_X3_workOf, 10, 0, 0) Y G cX3_workOf RX3 (some .long)) (hq : zRet (l, rm_X3_workOf, 10, 0, 0) Y G (some (.long r)) σ') (N : Nat) {kb40 : Int64 → Int32 → ZS → Option (Int64 × ZS)} (x1 : Int32) (x3 : Int32) (x4 : Int64) (x6 : Int32) (a7 : Nat) (a8 : Nat) (x9 : Int32) (hb40 : ∀ (x4_ : Int64) (x9_ : Int32) (σ_ : ZS), kb40 x4_ x9_ σ_ = some (r, σ') → Z (l, rm_X3_workOf, 10, 0, 0) Y G σ_ [(0, .ref (G.1 6)), (1, .int x1), (2, .ref (G.1 2)), (3, .int x3), (4, .long x4_), (6, .int x6), (7, .ref (G.1 a7)), (8, .ref (G.1 a8)), (9, .int x9_)] [] 40) (σ : ZS) (hf : f_X3_workOf_b97 N kb40 x1 x3 x4 x6 a7 a8 x9 σ = some (r, σ')) : Z (l, rm_X3_workOf, 10, 0, 0) Y G σ [(0, .ref (G.1 6)), (1, .int x1), (2, .ref (G.1 2)), (3, .int x3), (4, .long x4), (6, .int x6), (7, .ref (G.1 a7)), (8, .ref (G.1 a8)), (9, .int x9)] [] 97 := by
  rw [f_X3_workOf_b97] at hf
  obtain ⟨v11, ev11, hf⟩ := bd_ex hf
  refine z_iinc h (v := v11) (lv' := [(9, .int v11), (0, .ref (G.1 6)), (1, .int x1), (2, .ref (G.1 2)), (3, .int x3), (4, .long x4), (6, .int x6), (7, .ref (G.1 a7)), (8, .ref (G.1 a8))]) dX3_workOf_97 8 rfl (by rw [ev11]; rfl) rfl rfl ?_
  refine z_goto h (tgt := 40) dX3_workOf_100 (by decide) ?_
  exact z_sub [1, 2, 3, 4, 5, 6, 7, 8, 0] rfl (hb40 _ _ _ hf)
set_option maxHeartbeats 4000000 in
set_option maxRecDepth 100000 in
theorem k_X3_workOf_h40 {l : Launch} {Y : ZY} {G : ZG} {r : Int64} {σ' : ZS} (h : zOk (l, rm_X3_workOf, 10, 0, 0) Y G cX3_workOf RX3 (some .long)) (hq : zRet (l, rm_X3_workOf, 10, 0, 0) Y G (some (.long r)) σ') (N : Nat) {kb6 : Int64 → Int32 → ZS → Option (Int64 × ZS)} (x1 : Int32) (x3 : Int32) (x6 : Int32) (a7 : Nat) (a8 : Nat) (hb6 : ∀ (x4_ : Int64) (x6_ : Int32) (σ_ : ZS), kb6 x4_ x6_ σ_ = some (r, σ') → Z (l, rm_X3_workOf, 10, 0, 0) Y G σ_ [(0, .ref (G.1 6)), (1, .int x1), (2, .ref (G.1 2)), (3, .int x3), (4, .long x4_), (6, .int x6_)] [] 6) : ∀ (n : Nat) (x4 : Int64) (x9 : Int32) (σ : ZS), f_X3_workOf_h40 N kb6 x1 x3 x6 a7 a8 n x4 x9 σ = some (r, σ') → Z (l, rm_X3_workOf, 10, 0, 0) Y G σ [(0, .ref (G.1 6)), (1, .int x1), (2, .ref (G.1 2)), (3, .int x3), (4, .long x4), (6, .int x6), (7, .ref (G.1 a7)), (8, .ref (G.1 a8)), (9, .int x9)] [] 40 := by
  intro n
  induction n with
  | zero =>
    intro x4 x9 σ hf
    rw [f_X3_workOf_h40] at hf
    cases hf
  | succ n ih =>
    intro x4 x9 σ hf
    rw [f_X3_workOf_h40] at hf
    refine z_iload h dX3_workOf_40 8 rfl ?_
    refine z_aload_n h dX3_workOf_42 rfl 2 rfl ?_
    refine z_gfIN h zC2 (c := 2) tg_2 ln_2 0 rfl ft_2_0 (by decide +kernel) dX3_workOf_43 ?_
    refine z_icmp_ge h (tgt := 103) dX3_workOf_46 (by decide) (fun g6 => ?_) (fun g6 => ?_)
    · have hf := it_pos g6 hf
      obtain ⟨v7, ev7, hf⟩ := bd_ex hf
      refine z_iinc h (v := v7) (lv' := [(6, .int v7), (0, .ref (G.1 6)), (1, .int x1), (2, .ref (G.1 2)), (3, .int x3), (4, .long x4), (7, .ref (G.1 a7)), (8, .ref (G.1 a8)), (9, .int x9)]) dX3_workOf_103 5 rfl (by rw [ev7]; rfl) rfl rfl ?_
      refine z_goto h (tgt := 6) dX3_workOf_106 (by decide) ?_
      exact z_sub [1, 2, 3, 4, 5, 0] rfl (hb6 _ _ _ hf)
    · have hf := it_neg g6 hf
      refine z_aload h dX3_workOf_49 6 rfl ?_
      refine z_iload h dX3_workOf_51 8 rfl ?_
      obtain ⟨g8, hf⟩ := ck_out hf
      obtain ⟨g9, hf⟩ := ck_out hf
      refine z_iald h (eq_of_beq g8) rfl g9 dX3_workOf_53 ?_
      refine z_if_eq h (tgt := 97) dX3_workOf_54 (by decide) (fun g10 => ?_) (fun g10 => ?_)
      · have hf := it_pos g10 hf
        exact z_sub [0, 1, 2, 3, 4, 5, 6, 7, 8] rfl (k_X3_workOf_b97 h hq N x1 x3 x4 x6 a7 a8 x9 (fun x4_ x9_ σ_ hf_ => ih x4_ x9_ σ_ hf_) _ hf)
      · have hf := it_neg g10 hf
        refine z_aload h dX3_workOf_57 7 rfl ?_
        refine z_iload h dX3_workOf_59 8 rfl ?_
        obtain ⟨g12, hf⟩ := ck_out hf
        obtain ⟨g13, hf⟩ := ck_out hf
        refine z_iald h (eq_of_beq g12) rfl g13 dX3_workOf_61 ?_
        refine z_if_lt h (tgt := 97) dX3_workOf_62 (by decide) (fun g14 => ?_) (fun g14 => ?_)
        · have hf := it_pos g14 hf
          exact z_sub [0, 1, 2, 3, 4, 5, 6, 7, 8] rfl (k_X3_workOf_b97 h hq N x1 x3 x4 x6 a7 a8 x9 (fun x4_ x9_ σ_ hf_ => ih x4_ x9_ σ_ hf_) _ hf)
        · have hf := it_neg g14 hf
          refine z_lload h dX3_workOf_65 4 rfl ?_
          refine z_aload h dX3_workOf_67 6 rfl ?_
          refine z_iload h dX3_workOf_69 8 rfl ?_
          obtain ⟨g15, hf⟩ := ck_out hf
          obtain ⟨g16, hf⟩ := ck_out hf
          refine z_iald h (eq_of_beq g15) rfl g16 dX3_workOf_71 ?_
          refine z_i2l h dX3_workOf_72 ?_
          refine z_aload_n h dX3_workOf_73 rfl 0 rfl ?_
          refine z_gfR h zC3 (d := 18) (c := 6) tg_6 ln_6 2 rfl ft_3_2 rf_6_2 wd_68 dX3_workOf_74 ?_
          refine z_iload_n h dX3_workOf_77 rfl 1 rfl ?_
          obtain ⟨g17, hf⟩ := ck_out hf
          refine z_aald h (c := 18) (d := 143 + x1.toNatClampNeg) tg_18 rfl ln_18 rfl g17 dX3_workOf_78 ?_
          refine z_aload_n h dX3_workOf_79 rfl 0 rfl ?_
          refine z_gfR h zC3 (d := 5) (c := 6) tg_6 ln_6 0 rfl ft_3_0 rf_6_0 wd_65 dX3_workOf_80 ?_
          refine z_gfIN h zC4 (c := 5) tg_5 ln_5 5 rfl ft_4_5 (by decide +kernel) dX3_workOf_83 ?_
          refine z_aload h dX3_workOf_86 7 rfl ?_
          refine z_iload h dX3_workOf_88 8 rfl ?_
          obtain ⟨g18, hf⟩ := ck_out hf
          obtain ⟨g19, hf⟩ := ck_out hf
          refine z_iald h (eq_of_beq g18) rfl g19 dX3_workOf_90 ?_
          refine z_iadd h dX3_workOf_91 ?_
          obtain ⟨g20, hf⟩ := ck_out hf
          obtain ⟨g21, hf⟩ := ck_out hf
          refine z_lald h (eq_of_beq g20) rfl g21 dX3_workOf_92 ?_
          refine z_lmul h dX3_workOf_93 ?_
          refine z_ladd h dX3_workOf_94 ?_
          refine z_topJ (fun v22 ev22 => ?_)
          have hf := bd_to ev22 hf
          refine z_lstore h dX3_workOf_95 (lv' := [(4, .long v22), (0, .ref (G.1 6)), (1, .int x1), (2, .ref (G.1 2)), (3, .int x3), (6, .int x6), (7, .ref (G.1 a7)), (8, .ref (G.1 a8)), (9, .int x9)]) rfl rfl ?_
          exact z_sub [1, 2, 3, 4, 0, 5, 6, 7, 8] rfl (k_X3_workOf_b97 h hq N x1 x3 v22 x6 a7 a8 x9 (fun x4_ x9_ σ_ hf_ => ih x4_ x9_ σ_ hf_) _ hf)
set_option maxHeartbeats 4000000 in
set_option maxRecDepth 100000 in
theorem k_X3_workOf_h6 {l : Launch} {Y : ZY} {G : ZG} {r : Int64} {σ' : ZS} (h : zOk (l, rm_X3_workOf, 10, 0, 0) Y G cX3_workOf RX3 (some .long)) (hq : zRet (l, rm_X3_workOf, 10, 0, 0) Y G (some (.long r)) σ') (N : Nat) (x1 : Int32) (x3 : Int32) : ∀ (n : Nat) (x4 : Int64) (x6 : Int32) (σ : ZS), f_X3_workOf_h6 N x1 x3 n x4 x6 σ = some (r, σ') → Z (l, rm_X3_workOf, 10, 0, 0) Y G σ [(0, .ref (G.1 6)), (1, .int x1), (2, .ref (G.1 2)), (3, .int x3), (4, .long x4), (6, .int x6)] [] 6 := by
  intro n
  induction n with
  | zero =>
    intro x4 x6 σ hf
    rw [f_X3_workOf_h6] at hf
    cases hf
  | succ n ih =>
    intro x4 x6 σ hf
    rw [f_X3_workOf_h6] at hf
    refine z_iload h dX3_workOf_6 5 rfl ?_
    refine z_iconst h (v := (2 : Int32)) dX3_workOf_8 ic_2 ?_
    refine z_icmp_ge h (tgt := 109) dX3_workOf_9 (by decide) (fun g1 => ?_) (fun g1 => ?_)
    · have hf := it_pos g1 hf
      refine z_lload h dX3_workOf_109 4 rfl ?_
      exact z_lret h (rt_J hf hq) dX3_workOf_111
    · have hf := it_neg g1 hf
      refine z_aload_n h dX3_workOf_12 rfl 2 rfl ?_
      refine z_gfRN h zC2 (d := 13) (c := 2) tg_2 ln_2 8 rfl ft_2_8 rf_2_8 (by decide +kernel) dX3_workOf_13 ?_
      refine z_iconst h (v := (2 : Int32)) dX3_workOf_16 ic_2 ?_
      refine z_iload_n h dX3_workOf_17 rfl 3 rfl ?_
      refine z_imul h dX3_workOf_18 ?_
      refine z_iload h dX3_workOf_19 5 rfl ?_
      refine z_iadd h dX3_workOf_21 ?_
      obtain ⟨g2, hf⟩ := ck_out hf
      refine z_aald h (c := 13) (d := 38 + (((2 : Int32) * x3) + x6).toNatClampNeg) tg_13 rfl ln_13 rfl g2 dX3_workOf_22 ?_
      refine z_topA (fun v3 ev3 => ?_)
      have hf := bd_to ev3 hf
      refine z_astore h dX3_workOf_23 (lv' := [(7, .ref (G.1 v3)), (0, .ref (G.1 6)), (1, .int x1), (2, .ref (G.1 2)), (3, .int x3), (4, .long x4), (6, .int x6)]) rfl rfl ?_
      refine z_aload_n h dX3_workOf_25 rfl 1 rfl ?_
      refine z_gfR h zC3 (d := 5) (c := 6) tg_6 ln_6 0 rfl ft_3_0 rf_6_0 wd_65 dX3_workOf_26 ?_
      refine z_gfRN h zC4 (d := 17) (c := 5) tg_5 ln_5 2 rfl ft_4_2 rf_5_2 (by decide +kernel) dX3_workOf_29 ?_
      refine z_iload h dX3_workOf_32 6 rfl ?_
      obtain ⟨g4, hf⟩ := ck_out hf
      refine z_aald h (c := 17) (d := 57 + x6.toNatClampNeg) tg_17 rfl ln_17 rfl g4 dX3_workOf_34 ?_
      refine z_topA (fun v5 ev5 => ?_)
      have hf := bd_to ev5 hf
      refine z_astore h dX3_workOf_35 (lv' := [(8, .ref (G.1 v5)), (7, .ref (G.1 v3)), (0, .ref (G.1 6)), (1, .int x1), (2, .ref (G.1 2)), (3, .int x3), (4, .long x4), (6, .int x6)]) rfl rfl ?_
      refine z_iconst h (v := (0 : Int32)) dX3_workOf_37 ic_0 ?_
      refine z_istore h dX3_workOf_38 (lv' := [(9, .int (0 : Int32)), (8, .ref (G.1 v5)), (7, .ref (G.1 v3)), (0, .ref (G.1 6)), (1, .int x1), (2, .ref (G.1 2)), (3, .int x3), (4, .long x4), (6, .int x6)]) rfl rfl ?_
      exact z_sub [3, 4, 5, 6, 7, 8, 2, 1, 0] rfl (k_X3_workOf_h40 h hq N x1 x3 x6 v3 v5 (fun x4_ x6_ σ_ hf_ => ih x4_ x6_ σ_ hf_) _ _ _ _ hf)
set_option maxHeartbeats 4000000 in
set_option maxRecDepth 100000 in
theorem c_X3_workOf (l : Launch) (G : ZG) {N : Nat} {x1 : Int32} {x3 : Int32} {σ σ' : ZS} {r : Int64} (hf : f_X3_workOf N x1 x3 σ = some (r, σ')) : zMet l G yX3_workOf cX3_workOf 10 (some .long) rm_X3_workOf [.ref (G.1 6), .int x1, .ref (G.1 2), .int x3] σ (some (.long r)) σ' := by
  refine z_met (by decide +kernel) rfl (fun Y h hq => ?_)
  have h : zOk (l, rm_X3_workOf, 10, 0, 0) Y G cX3_workOf RX3 (some .long) := h
  rw [f_X3_workOf] at hf
  refine z_sub (lv' := [(0, .ref (G.1 6)), (1, .int x1), (2, .ref (G.1 2)), (3, .int x3)]) [0, 1, 2, 3] rfl ?_
  refine z_lconst h (v := (0 : Int64)) dX3_workOf_0 lc_0 ?_
  refine z_lstore h dX3_workOf_1 (lv' := [(4, .long (0 : Int64)), (0, .ref (G.1 6)), (1, .int x1), (2, .ref (G.1 2)), (3, .int x3)]) rfl rfl ?_
  refine z_iconst h (v := (0 : Int32)) dX3_workOf_3 ic_0 ?_
  refine z_istore h dX3_workOf_4 (lv' := [(6, .int (0 : Int32)), (4, .long (0 : Int64)), (0, .ref (G.1 6)), (1, .int x1), (2, .ref (G.1 2)), (3, .int x3)]) rfl rfl ?_
  exact z_sub [2, 3, 4, 5, 1, 0] rfl (k_X3_workOf_h6 h hq N x1 x3 _ _ _ _ hf)
theorem dX3_twistOf_0 : decode cX3_twistOf 0 = .ok (.aload_n 0, 1) := by decide +kernel
theorem dX3_twistOf_1 : decode cX3_twistOf 1 = .ok (.getfield 24, 3) := by decide +kernel
theorem dX3_twistOf_4 : decode cX3_twistOf 4 = .ok (.iload_n 1, 1) := by decide +kernel
theorem dX3_twistOf_5 : decode cX3_twistOf 5 = .ok (.aaload, 1) := by decide +kernel
theorem dX3_twistOf_6 : decode cX3_twistOf 6 = .ok (.iload_n 2, 1) := by decide +kernel
theorem dX3_twistOf_7 : decode cX3_twistOf 7 = .ok (.laload, 1) := by decide +kernel
theorem dX3_twistOf_8 : decode cX3_twistOf 8 = .ok (.lreturn, 1) := by decide +kernel
abbrev rm_X3_twistOf : Room := { frames := 0, cells := 0, slots := 0, locals := 0 }
noncomputable def f_X3_twistOf (N : Nat) (x1 : Int32) (x2 : Int32) (σ : ZS) : Option (Int64 × ZS) := ck (inb x1 924) (ck (tg (143 + x1.toNatClampNeg) == 2) (ck (inb x2 (ln (143 + x1.toNatClampNeg))) (some (gJ σ (143 + x1.toNatClampNeg) (x2.toNatClampNeg), σ))))
set_option maxHeartbeats 4000000 in
set_option maxRecDepth 100000 in
theorem c_X3_twistOf (l : Launch) (G : ZG) {N : Nat} {x1 : Int32} {x2 : Int32} {σ σ' : ZS} {r : Int64} (hf : f_X3_twistOf N x1 x2 σ = some (r, σ')) : zMet l G yX3_twistOf cX3_twistOf 3 (some .long) rm_X3_twistOf [.ref (G.1 6), .int x1, .int x2] σ (some (.long r)) σ' := by
  refine z_met (by decide +kernel) rfl (fun Y h hq => ?_)
  have h : zOk (l, rm_X3_twistOf, 3, 0, 0) Y G cX3_twistOf RX3 (some .long) := h
  rw [f_X3_twistOf] at hf
  refine z_sub (lv' := [(0, .ref (G.1 6)), (1, .int x1), (2, .int x2)]) [0, 1, 2] rfl ?_
  refine z_aload_n h dX3_twistOf_0 rfl 0 rfl ?_
  refine z_gfR h zC3 (d := 18) (c := 6) tg_6 ln_6 2 rfl ft_3_2 rf_6_2 wd_68 dX3_twistOf_1 ?_
  refine z_iload_n h dX3_twistOf_4 rfl 1 rfl ?_
  obtain ⟨g1, hf⟩ := ck_out hf
  refine z_aald h (c := 18) (d := 143 + x1.toNatClampNeg) tg_18 rfl ln_18 rfl g1 dX3_twistOf_5 ?_
  refine z_iload_n h dX3_twistOf_6 rfl 2 rfl ?_
  obtain ⟨g2, hf⟩ := ck_out hf
  obtain ⟨g3, hf⟩ := ck_out hf
  refine z_lald h (eq_of_beq g2) rfl g3 dX3_twistOf_7 ?_
  exact z_lret h (rt_J hf hq) dX3_twistOf_8
theorem dX3_keep_0 : decode cX3_keep 0 = .ok (.aload_n 0, 1) := by decide +kernel
theorem dX3_keep_1 : decode cX3_keep 1 = .ok (.getfield 27, 3) := by decide +kernel
theorem dX3_keep_4 : decode cX3_keep 4 = .ok (.sipush 924, 3) := by decide +kernel
theorem dX3_keep_7 : decode cX3_keep 7 = .ok (.if_icmp .lt 4, 3) := by decide +kernel
theorem dX3_keep_10 : decode cX3_keep 10 = .ok (.return_, 1) := by decide +kernel
theorem dX3_keep_11 : decode cX3_keep 11 = .ok (.iconst 0, 1) := by decide +kernel
theorem dX3_keep_12 : decode cX3_keep 12 = .ok (.istore_n 2, 1) := by decide +kernel
theorem dX3_keep_13 : decode cX3_keep 13 = .ok (.aload_n 0, 1) := by decide +kernel
theorem dX3_keep_14 : decode cX3_keep 14 = .ok (.getfield 12, 3) := by decide +kernel
theorem dX3_keep_17 : decode cX3_keep 17 = .ok (.getfield 35, 3) := by decide +kernel
theorem dX3_keep_20 : decode cX3_keep 20 = .ok (.iconst 1, 1) := by decide +kernel
theorem dX3_keep_21 : decode cX3_keep 21 = .ok (.isub, 1) := by decide +kernel
theorem dX3_keep_22 : decode cX3_keep 22 = .ok (.istore_n 3, 1) := by decide +kernel
theorem dX3_keep_23 : decode cX3_keep 23 = .ok (.iload_n 3, 1) := by decide +kernel
theorem dX3_keep_24 : decode cX3_keep 24 = .ok (.ifCond .lt 27, 3) := by decide +kernel
theorem dX3_keep_27 : decode cX3_keep 27 = .ok (.iload_n 2, 1) := by decide +kernel
theorem dX3_keep_28 : decode cX3_keep 28 = .ok (.iconst 1, 1) := by decide +kernel
theorem dX3_keep_29 : decode cX3_keep 29 = .ok (.ishl, 1) := by decide +kernel
theorem dX3_keep_30 : decode cX3_keep 30 = .ok (.aload_n 1, 1) := by decide +kernel
theorem dX3_keep_31 : decode cX3_keep 31 = .ok (.iload_n 3, 1) := by decide +kernel
theorem dX3_keep_32 : decode cX3_keep 32 = .ok (.laload, 1) := by decide +kernel
theorem dX3_keep_33 : decode cX3_keep 33 = .ok (.lconst 0, 1) := by decide +kernel
theorem dX3_keep_34 : decode cX3_keep 34 = .ok (.lcmp, 1) := by decide +kernel
theorem dX3_keep_35 : decode cX3_keep 35 = .ok (.ifCond .eq 7, 3) := by decide +kernel
theorem dX3_keep_38 : decode cX3_keep 38 = .ok (.iconst 1, 1) := by decide +kernel
theorem dX3_keep_39 : decode cX3_keep 39 = .ok (.goto 4, 3) := by decide +kernel
theorem dX3_keep_42 : decode cX3_keep 42 = .ok (.iconst 0, 1) := by decide +kernel
theorem dX3_keep_43 : decode cX3_keep 43 = .ok (.ior, 1) := by decide +kernel
theorem dX3_keep_44 : decode cX3_keep 44 = .ok (.istore_n 2, 1) := by decide +kernel
theorem dX3_keep_45 : decode cX3_keep 45 = .ok (.iinc 3 (-1), 3) := by decide +kernel
theorem dX3_keep_48 : decode cX3_keep 48 = .ok (.goto (-25), 3) := by decide +kernel
theorem dX3_keep_51 : decode cX3_keep 51 = .ok (.iload_n 2, 1) := by decide +kernel
theorem dX3_keep_52 : decode cX3_keep 52 = .ok (.invokestatic 64, 3) := by decide +kernel
theorem dX3_keep_55 : decode cX3_keep 55 = .ok (.istore_n 3, 1) := by decide +kernel
theorem dX3_keep_56 : decode cX3_keep 56 = .ok (.iload_n 3, 1) := by decide +kernel
theorem dX3_keep_57 : decode cX3_keep 57 = .ok (.aload_n 0, 1) := by decide +kernel
theorem dX3_keep_58 : decode cX3_keep 58 = .ok (.getfield 12, 3) := by decide +kernel
theorem dX3_keep_61 : decode cX3_keep 61 = .ok (.getfield 35, 3) := by decide +kernel
theorem dX3_keep_64 : decode cX3_keep 64 = .ok (.if_icmp .ge 15, 3) := by decide +kernel
theorem dX3_keep_67 : decode cX3_keep 67 = .ok (.aload_n 1, 1) := by decide +kernel
theorem dX3_keep_68 : decode cX3_keep 68 = .ok (.iload_n 3, 1) := by decide +kernel
theorem dX3_keep_69 : decode cX3_keep 69 = .ok (.laload, 1) := by decide +kernel
theorem dX3_keep_70 : decode cX3_keep 70 = .ok (.lconst 0, 1) := by decide +kernel
theorem dX3_keep_71 : decode cX3_keep 71 = .ok (.lcmp, 1) := by decide +kernel
theorem dX3_keep_72 : decode cX3_keep 72 = .ok (.ifCond .ge 7, 3) := by decide +kernel
theorem dX3_keep_75 : decode cX3_keep 75 = .ok (.iconst 1, 1) := by decide +kernel
theorem dX3_keep_76 : decode cX3_keep 76 = .ok (.goto 4, 3) := by decide +kernel
theorem dX3_keep_79 : decode cX3_keep 79 = .ok (.iconst 0, 1) := by decide +kernel
theorem dX3_keep_80 : decode cX3_keep 80 = .ok (.istore 4, 2) := by decide +kernel
theorem dX3_keep_82 : decode cX3_keep 82 = .ok (.aload_n 0, 1) := by decide +kernel
theorem dX3_keep_83 : decode cX3_keep 83 = .ok (.getfield 24, 3) := by decide +kernel
theorem dX3_keep_86 : decode cX3_keep 86 = .ok (.aload_n 0, 1) := by decide +kernel
theorem dX3_keep_87 : decode cX3_keep 87 = .ok (.getfield 27, 3) := by decide +kernel
theorem dX3_keep_90 : decode cX3_keep 90 = .ok (.aaload, 1) := by decide +kernel
theorem dX3_keep_91 : decode cX3_keep 91 = .ok (.astore 5, 2) := by decide +kernel
theorem dX3_keep_93 : decode cX3_keep 93 = .ok (.aload_n 0, 1) := by decide +kernel
theorem dX3_keep_94 : decode cX3_keep 94 = .ok (.getfield 12, 3) := by decide +kernel
theorem dX3_keep_97 : decode cX3_keep 97 = .ok (.invokevirtual 70, 3) := by decide +kernel
theorem dX3_keep_100 : decode cX3_keep 100 = .ok (.istore 6, 2) := by decide +kernel
theorem dX3_keep_102 : decode cX3_keep 102 = .ok (.iconst 0, 1) := by decide +kernel
theorem dX3_keep_103 : decode cX3_keep 103 = .ok (.istore 7, 2) := by decide +kernel
theorem dX3_keep_105 : decode cX3_keep 105 = .ok (.iload 7, 2) := by decide +kernel
theorem dX3_keep_107 : decode cX3_keep 107 = .ok (.iload 6, 2) := by decide +kernel
theorem dX3_keep_109 : decode cX3_keep 109 = .ok (.if_icmp .ge 31, 3) := by decide +kernel
theorem dX3_keep_112 : decode cX3_keep 112 = .ok (.aload 5, 2) := by decide +kernel
theorem dX3_keep_114 : decode cX3_keep 114 = .ok (.iload 7, 2) := by decide +kernel
theorem dX3_keep_116 : decode cX3_keep 116 = .ok (.iload 4, 2) := by decide +kernel
theorem dX3_keep_118 : decode cX3_keep 118 = .ok (.ifCond .eq 11, 3) := by decide +kernel
theorem dX3_keep_121 : decode cX3_keep 121 = .ok (.aload_n 1, 1) := by decide +kernel
theorem dX3_keep_122 : decode cX3_keep 122 = .ok (.iload 7, 2) := by decide +kernel
theorem dX3_keep_124 : decode cX3_keep 124 = .ok (.laload, 1) := by decide +kernel
theorem dX3_keep_125 : decode cX3_keep 125 = .ok (.lneg, 1) := by decide +kernel
theorem dX3_keep_126 : decode cX3_keep 126 = .ok (.goto 7, 3) := by decide +kernel
theorem dX3_keep_129 : decode cX3_keep 129 = .ok (.aload_n 1, 1) := by decide +kernel
theorem dX3_keep_130 : decode cX3_keep 130 = .ok (.iload 7, 2) := by decide +kernel
theorem dX3_keep_132 : decode cX3_keep 132 = .ok (.laload, 1) := by decide +kernel
theorem dX3_keep_133 : decode cX3_keep 133 = .ok (.lastore, 1) := by decide +kernel
theorem dX3_keep_134 : decode cX3_keep 134 = .ok (.iinc 7 1, 3) := by decide +kernel
theorem dX3_keep_137 : decode cX3_keep 137 = .ok (.goto (-32), 3) := by decide +kernel
theorem dX3_keep_140 : decode cX3_keep 140 = .ok (.aload_n 0, 1) := by decide +kernel
theorem dX3_keep_141 : decode cX3_keep 141 = .ok (.getfield 18, 3) := by decide +kernel
theorem dX3_keep_144 : decode cX3_keep 144 = .ok (.aload_n 0, 1) := by decide +kernel
theorem dX3_keep_145 : decode cX3_keep 145 = .ok (.getfield 27, 3) := by decide +kernel
theorem dX3_keep_148 : decode cX3_keep 148 = .ok (.iload_n 2, 1) := by decide +kernel
theorem dX3_keep_149 : decode cX3_keep 149 = .ok (.iastore, 1) := by decide +kernel
theorem dX3_keep_150 : decode cX3_keep 150 = .ok (.aload_n 0, 1) := by decide +kernel
theorem dX3_keep_151 : decode cX3_keep 151 = .ok (.dup, 1) := by decide +kernel
theorem dX3_keep_152 : decode cX3_keep 152 = .ok (.getfield 27, 3) := by decide +kernel
theorem dX3_keep_155 : decode cX3_keep 155 = .ok (.iconst 1, 1) := by decide +kernel
theorem dX3_keep_156 : decode cX3_keep 156 = .ok (.iadd, 1) := by decide +kernel
theorem dX3_keep_157 : decode cX3_keep 157 = .ok (.putfield 27, 3) := by decide +kernel
theorem dX3_keep_160 : decode cX3_keep 160 = .ok (.return_, 1) := by decide +kernel
abbrev rm_X3_keep : Room := { frames := 1, cells := 0, slots := 0, locals := 29 }
noncomputable def f_X3_keep_b133 (N : Nat) (kb105 : Int32 → ZS → Option (Unit × ZS)) (a1 : Nat) (x2 : Int32) (x4 : Int32) (a5 : Nat) (x6 : Int32) (x7 : Int32) (s0 : Nat) (s1 : Int32) (s2 : Int64) (σ : ZS) : Option (Unit × ZS) := ck (tg s0 == 2) (ck (inb s1 (ln s0)) (bd (sJ σ s0 (s1.toNatClampNeg) s2) fun σ21 => bd (x7 + (1 : Int32)) fun v22 => kb105 v22 σ21))
noncomputable def f_X3_keep_h105 (N : Nat) (a1 : Nat) (x2 : Int32) (x4 : Int32) (a5 : Nat) (x6 : Int32) : Nat → Int32 → ZS → Option (Unit × ZS)
  | 0, _, _ => none
  | n + 1, x7, σ => (if x6 ≤ x7 then ck (inb (gI σ 6 3) 924) (bd (sI σ 59 ((gI σ 6 3).toNatClampNeg) x2) fun σ13 => bd ((gI σ13 6 3) + (1 : Int32)) fun v14 => bd (sI σ13 6 3 v14) fun σ15 => some ((), σ15)) else (if x4 = 0 then ck (tg a1 == 2) (ck (inb x7 (ln a1)) (f_X3_keep_b133 N (fun x7_ σ_ => f_X3_keep_h105 N a1 x2 x4 a5 x6 n x7_ σ_) a1 x2 x4 a5 x6 x7 a5 x7 (gJ σ a1 (x7.toNatClampNeg)) σ)) else ck (tg a1 == 2) (ck (inb x7 (ln a1)) (f_X3_keep_b133 N (fun x7_ σ_ => f_X3_keep_h105 N a1 x2 x4 a5 x6 n x7_ σ_) a1 x2 x4 a5 x6 x7 a5 x7 (-(gJ σ a1 (x7.toNatClampNeg))) σ))))
noncomputable def f_X3_keep_b80 (N : Nat) (a1 : Nat) (x2 : Int32) (s0 : Int32) (σ : ZS) : Option (Unit × ZS) := ck (inb (gI σ 6 3) 924) (bd (143 + (gI σ 6 3).toNatClampNeg) fun v8 => obd (f_X4_width N σ) fun v9 σ10 => f_X3_keep_h105 N a1 x2 s0 v8 v9 N (0 : Int32) σ10)
noncomputable def f_X3_keep_b79 (N : Nat) (a1 : Nat) (x2 : Int32) (σ : ZS) : Option (Unit × ZS) := f_X3_keep_b80 N a1 x2 (0 : Int32) σ
noncomputable def f_X3_keep_b43 (N : Nat) (kb23 : Int32 → Int32 → ZS → Option (Unit × ZS)) (a1 : Nat) (x3 : Int32) (s0 : Int32) (s1 : Int32) (σ : ZS) : Option (Unit × ZS) := bd (s0 ||| s1) fun v31 => bd (x3 + (-1 : Int32)) fun v32 => kb23 v31 v32 σ
noncomputable def f_X3_keep_h23 (N : Nat) (a1 : Nat) : Nat → Int32 → Int32 → ZS → Option (Unit × ZS)
  | 0, _, _, _ => none
  | n + 1, x2, x3, σ => (if x3 < 0 then obd (f_J6_numberOfTrailingZeros_0f7a4 N x2 σ) fun v4 σ5 => (if (gI σ5 5 5) ≤ v4 then f_X3_keep_b79 N a1 x2 σ5 else ck (tg a1 == 2) (ck (inb v4 (ln a1)) ((if (gJ σ5 a1 (v4.toNatClampNeg)) < (0 : Int64) then f_X3_keep_b80 N a1 x2 (1 : Int32) σ5 else f_X3_keep_b79 N a1 x2 σ5)))) else ck (tg a1 == 2) (ck (inb x3 (ln a1)) ((if (gJ σ a1 (x3.toNatClampNeg)) = (0 : Int64) then f_X3_keep_b43 N (fun x2_ x3_ σ_ => f_X3_keep_h23 N a1 n x2_ x3_ σ_) a1 x3 (x2 <<< ((1 : Int32) &&& 31)) (0 : Int32) σ else f_X3_keep_b43 N (fun x2_ x3_ σ_ => f_X3_keep_h23 N a1 n x2_ x3_ σ_) a1 x3 (x2 <<< ((1 : Int32) &&& 31)) (1 : Int32) σ))))
noncomputable def f_X3_keep (N : Nat) (a1 : Nat) (σ : ZS) : Option (Unit × ZS) := (if (gI σ 6 3) < (924 : Int32) then bd ((gI σ 5 5) - (1 : Int32)) fun v2 => f_X3_keep_h23 N a1 N (0 : Int32) v2 σ else some ((), σ))
set_option maxHeartbeats 4000000 in
set_option maxRecDepth 100000 in
theorem k_X3_keep_b133 {l : Launch} {Y : ZY} {G : ZG} {σ' : ZS} (h : zOk (l, rm_X3_keep, 8, 0, 0) Y G cX3_keep RX3 none) (hq : zRet (l, rm_X3_keep, 8, 0, 0) Y G none σ') (N : Nat) {kb105 : Int32 → ZS → Option (Unit × ZS)} (a1 : Nat) (x2 : Int32) (x4 : Int32) (a5 : Nat) (x6 : Int32) (x7 : Int32) (s0 : Nat) (s1 : Int32) (s2 : Int64) (hb105 : ∀ (x7_ : Int32) (σ_ : ZS), kb105 x7_ σ_ = some ((), σ') → Z (l, rm_X3_keep, 8, 0, 0) Y G σ_ [(0, .ref (G.1 6)), (1, .ref (G.1 a1)), (2, .int x2), (4, .int x4), (5, .ref (G.1 a5)), (6, .int x6), (7, .int x7_)] [] 105) (σ : ZS) (hf : f_X3_keep_b133 N kb105 a1 x2 x4 a5 x6 x7 s0 s1 s2 σ = some ((), σ')) : Z (l, rm_X3_keep, 8, 0, 0) Y G σ [(0, .ref (G.1 6)), (1, .ref (G.1 a1)), (2, .int x2), (4, .int x4), (5, .ref (G.1 a5)), (6, .int x6), (7, .int x7)] [.long s2, .int s1, .ref (G.1 s0)] 133 := by
  rw [f_X3_keep_b133] at hf
  obtain ⟨g19, hf⟩ := ck_out hf
  obtain ⟨g20, hf⟩ := ck_out hf
  refine z_last h (eq_of_beq g19) rfl g20 dX3_keep_133 ?_
  refine z_gen (fun σ21 eσ21 => ?_)
  have hf := bd_to eσ21 hf
  obtain ⟨v22, ev22, hf⟩ := bd_ex hf
  refine z_iinc h (v := v22) (lv' := [(7, .int v22), (0, .ref (G.1 6)), (1, .ref (G.1 a1)), (2, .int x2), (4, .int x4), (5, .ref (G.1 a5)), (6, .int x6)]) dX3_keep_134 6 rfl (by rw [ev22]; rfl) rfl rfl ?_
  refine z_goto h (tgt := 105) dX3_keep_137 (by decide) ?_
  exact z_sub [1, 2, 3, 4, 5, 6, 0] rfl (hb105 _ _ hf)
set_option maxHeartbeats 4000000 in
set_option maxRecDepth 100000 in
theorem k_X3_keep_h105 {l : Launch} {Y : ZY} {G : ZG} {σ' : ZS} (h : zOk (l, rm_X3_keep, 8, 0, 0) Y G cX3_keep RX3 none) (hq : zRet (l, rm_X3_keep, 8, 0, 0) Y G none σ') (N : Nat) (a1 : Nat) (x2 : Int32) (x4 : Int32) (a5 : Nat) (x6 : Int32) : ∀ (n : Nat) (x7 : Int32) (σ : ZS), f_X3_keep_h105 N a1 x2 x4 a5 x6 n x7 σ = some ((), σ') → Z (l, rm_X3_keep, 8, 0, 0) Y G σ [(0, .ref (G.1 6)), (1, .ref (G.1 a1)), (2, .int x2), (4, .int x4), (5, .ref (G.1 a5)), (6, .int x6), (7, .int x7)] [] 105 := by
  intro n
  induction n with
  | zero =>
    intro x7 σ hf
    rw [f_X3_keep_h105] at hf
    cases hf
  | succ n ih =>
    intro x7 σ hf
    rw [f_X3_keep_h105] at hf
    refine z_iload h dX3_keep_105 6 rfl ?_
    refine z_iload h dX3_keep_107 5 rfl ?_
    refine z_icmp_ge h (tgt := 140) dX3_keep_109 (by decide) (fun g11 => ?_) (fun g11 => ?_)
    · have hf := it_pos g11 hf
      refine z_aload_n h dX3_keep_140 rfl 0 rfl ?_
      refine z_gfR h zC3 (d := 59) (c := 6) tg_6 ln_6 1 rfl ft_3_1 rf_6_1 wd_66 dX3_keep_141 ?_
      refine z_aload_n h dX3_keep_144 rfl 0 rfl ?_
      refine z_gfI h zC3 (c := 6) tg_6 ln_6 3 rfl ft_3_3 wd_362 dX3_keep_145 ?_
      refine z_iload_n h dX3_keep_148 rfl 2 rfl ?_
      obtain ⟨g12, hf⟩ := ck_out hf
      refine z_iast h (c := 59) tg_59 ln_59 g12 dX3_keep_149 ?_
      refine z_gen (fun σ13 eσ13 => ?_)
      have hf := bd_to eσ13 hf
      refine z_aload_n h dX3_keep_150 rfl 0 rfl ?_
      refine z_dup h dX3_keep_151 rfl ?_
      refine z_gfI h zC3 (c := 6) tg_6 ln_6 3 rfl ft_3_3 wd_362 dX3_keep_152 ?_
      refine z_iconst h (v := (1 : Int32)) dX3_keep_155 ic_1 ?_
      refine z_iadd h dX3_keep_156 ?_
      refine z_topI (fun v14 ev14 => ?_)
      have hf := bd_to ev14 hf
      refine z_pfI h zC3 (c := 6) tg_6 ln_6 3 rfl ft_3_3 wd_362 rfl (ty := .int) (by decide +kernel) rfl rfl dX3_keep_157 ?_
      refine z_gen (fun σ15 eσ15 => ?_)
      have hf := bd_to eσ15 hf
      exact z_vret h (rt_V hf hq) dX3_keep_160
    · have hf := it_neg g11 hf
      refine z_aload h dX3_keep_112 4 rfl ?_
      refine z_iload h dX3_keep_114 6 rfl ?_
      refine z_iload h dX3_keep_116 3 rfl ?_
      refine z_if_eq h (tgt := 129) dX3_keep_118 (by decide) (fun g16 => ?_) (fun g16 => ?_)
      · have hf := it_pos g16 hf
        refine z_aload_n h dX3_keep_129 rfl 1 rfl ?_
        refine z_iload h dX3_keep_130 6 rfl ?_
        obtain ⟨g17, hf⟩ := ck_out hf
        obtain ⟨g18, hf⟩ := ck_out hf
        refine z_lald h (eq_of_beq g17) rfl g18 dX3_keep_132 ?_
        exact z_sub [0, 1, 2, 3, 4, 5, 6] rfl (k_X3_keep_b133 h hq N a1 x2 x4 a5 x6 x7 a5 x7 (gJ σ a1 (x7.toNatClampNeg)) (fun x7_ σ_ hf_ => ih x7_ σ_ hf_) _ hf)
      · have hf := it_neg g16 hf
        refine z_aload_n h dX3_keep_121 rfl 1 rfl ?_
        refine z_iload h dX3_keep_122 6 rfl ?_
        obtain ⟨g23, hf⟩ := ck_out hf
        obtain ⟨g24, hf⟩ := ck_out hf
        refine z_lald h (eq_of_beq g23) rfl g24 dX3_keep_124 ?_
        refine z_lneg h dX3_keep_125 ?_
        refine z_goto h (tgt := 133) dX3_keep_126 (by decide) ?_
        exact z_sub [0, 1, 2, 3, 4, 5, 6] rfl (k_X3_keep_b133 h hq N a1 x2 x4 a5 x6 x7 a5 x7 (-(gJ σ a1 (x7.toNatClampNeg))) (fun x7_ σ_ hf_ => ih x7_ σ_ hf_) _ hf)
set_option maxHeartbeats 4000000 in
set_option maxRecDepth 100000 in
theorem k_X3_keep_b80 {l : Launch} {Y : ZY} {G : ZG} {σ' : ZS} (h : zOk (l, rm_X3_keep, 8, 0, 0) Y G cX3_keep RX3 none) (hq : zRet (l, rm_X3_keep, 8, 0, 0) Y G none σ') (N : Nat) (a1 : Nat) (x2 : Int32) (s0 : Int32) (σ : ZS) (hf : f_X3_keep_b80 N a1 x2 s0 σ = some ((), σ')) : Z (l, rm_X3_keep, 8, 0, 0) Y G σ [(0, .ref (G.1 6)), (1, .ref (G.1 a1)), (2, .int x2)] [.int s0] 80 := by
  rw [f_X3_keep_b80] at hf
  refine z_istore h dX3_keep_80 (lv' := [(4, .int s0), (0, .ref (G.1 6)), (1, .ref (G.1 a1)), (2, .int x2)]) rfl rfl ?_
  refine z_aload_n h dX3_keep_82 rfl 1 rfl ?_
  refine z_gfR h zC3 (d := 18) (c := 6) tg_6 ln_6 2 rfl ft_3_2 rf_6_2 wd_68 dX3_keep_83 ?_
  refine z_aload_n h dX3_keep_86 rfl 1 rfl ?_
  refine z_gfI h zC3 (c := 6) tg_6 ln_6 3 rfl ft_3_3 wd_362 dX3_keep_87 ?_
  obtain ⟨g7, hf⟩ := ck_out hf
  refine z_aald h (c := 18) (d := 143 + (gI σ 6 3).toNatClampNeg) tg_18 rfl ln_18 rfl g7 dX3_keep_90 ?_
  refine z_topA (fun v8 ev8 => ?_)
  have hf := bd_to ev8 hf
  refine z_astore h dX3_keep_91 (lv' := [(5, .ref (G.1 v8)), (4, .int s0), (0, .ref (G.1 6)), (1, .ref (G.1 a1)), (2, .int x2)]) rfl rfl ?_
  refine z_aload_n h dX3_keep_93 rfl 2 rfl ?_
  refine z_gfR h zC3 (d := 5) (c := 6) tg_6 ln_6 0 rfl ft_3_0 rf_6_0 wd_65 dX3_keep_94 ?_
  obtain ⟨v9, σ10, e10, hf⟩ := obd_out hf
  refine z_cVv h (n := 0) (c_X4_width l G e10) zC4 tg_5 ln_5 rfl rfl wd_380 wd_332 wd_333 wd_64 wd_334 (by decide +kernel) ⟨rfl, rfl⟩ rfl rfl rfl dX3_keep_97 ⟨Nat.zero_le _, Nat.zero_le _⟩ ?_
  refine z_istore h dX3_keep_100 (lv' := [(6, .int v9), (5, .ref (G.1 v8)), (4, .int s0), (0, .ref (G.1 6)), (1, .ref (G.1 a1)), (2, .int x2)]) rfl rfl ?_
  refine z_iconst h (v := (0 : Int32)) dX3_keep_102 ic_0 ?_
  refine z_istore h dX3_keep_103 (lv' := [(7, .int (0 : Int32)), (6, .int v9), (5, .ref (G.1 v8)), (4, .int s0), (0, .ref (G.1 6)), (1, .ref (G.1 a1)), (2, .int x2)]) rfl rfl ?_
  exact z_sub [4, 5, 6, 3, 2, 1, 0] rfl (k_X3_keep_h105 h hq N a1 x2 s0 v8 v9 _ _ _ hf)
set_option maxHeartbeats 4000000 in
set_option maxRecDepth 100000 in
theorem k_X3_keep_b79 {l : Launch} {Y : ZY} {G : ZG} {σ' : ZS} (h : zOk (l, rm_X3_keep, 8, 0, 0) Y G cX3_keep RX3 none) (hq : zRet (l, rm_X3_keep, 8, 0, 0) Y G none σ') (N : Nat) (a1 : Nat) (x2 : Int32) (σ : ZS) (hf : f_X3_keep_b79 N a1 x2 σ = some ((), σ')) : Z (l, rm_X3_keep, 8, 0, 0) Y G σ [(0, .ref (G.1 6)), (1, .ref (G.1 a1)), (2, .int x2)] [] 79 := by
  rw [f_X3_keep_b79] at hf
  refine z_iconst h (v := (0 : Int32)) dX3_keep_79 ic_0 ?_
  exact z_sub [0, 1, 2] rfl (k_X3_keep_b80 h hq N a1 x2 (0 : Int32) _ hf)
set_option maxHeartbeats 4000000 in
set_option maxRecDepth 100000 in
theorem k_X3_keep_b43 {l : Launch} {Y : ZY} {G : ZG} {σ' : ZS} (h : zOk (l, rm_X3_keep, 8, 0, 0) Y G cX3_keep RX3 none) (hq : zRet (l, rm_X3_keep, 8, 0, 0) Y G none σ') (N : Nat) {kb23 : Int32 → Int32 → ZS → Option (Unit × ZS)} (a1 : Nat) (x3 : Int32) (s0 : Int32) (s1 : Int32) (hb23 : ∀ (x2_ : Int32) (x3_ : Int32) (σ_ : ZS), kb23 x2_ x3_ σ_ = some ((), σ') → Z (l, rm_X3_keep, 8, 0, 0) Y G σ_ [(0, .ref (G.1 6)), (1, .ref (G.1 a1)), (2, .int x2_), (3, .int x3_)] [] 23) (σ : ZS) (hf : f_X3_keep_b43 N kb23 a1 x3 s0 s1 σ = some ((), σ')) : Z (l, rm_X3_keep, 8, 0, 0) Y G σ [(0, .ref (G.1 6)), (1, .ref (G.1 a1)), (3, .int x3)] [.int s1, .int s0] 43 := by
  rw [f_X3_keep_b43] at hf
  refine z_ior h dX3_keep_43 ?_
  refine z_topI (fun v31 ev31 => ?_)
  have hf := bd_to ev31 hf
  refine z_istore_n h dX3_keep_44 rfl (lv' := [(2, .int v31), (0, .ref (G.1 6)), (1, .ref (G.1 a1)), (3, .int x3)]) rfl rfl ?_
  obtain ⟨v32, ev32, hf⟩ := bd_ex hf
  refine z_iinc h (v := v32) (lv' := [(3, .int v32), (2, .int v31), (0, .ref (G.1 6)), (1, .ref (G.1 a1))]) dX3_keep_45 3 rfl (by rw [ev32]; rfl) rfl rfl ?_
  refine z_goto h (tgt := 23) dX3_keep_48 (by decide) ?_
  exact z_sub [2, 3, 1, 0] rfl (hb23 _ _ _ hf)
set_option maxHeartbeats 4000000 in
set_option maxRecDepth 100000 in
theorem k_X3_keep_h23 {l : Launch} {Y : ZY} {G : ZG} {σ' : ZS} (h : zOk (l, rm_X3_keep, 8, 0, 0) Y G cX3_keep RX3 none) (hq : zRet (l, rm_X3_keep, 8, 0, 0) Y G none σ') (N : Nat) (a1 : Nat) : ∀ (n : Nat) (x2 : Int32) (x3 : Int32) (σ : ZS), f_X3_keep_h23 N a1 n x2 x3 σ = some ((), σ') → Z (l, rm_X3_keep, 8, 0, 0) Y G σ [(0, .ref (G.1 6)), (1, .ref (G.1 a1)), (2, .int x2), (3, .int x3)] [] 23 := by
  intro n
  induction n with
  | zero =>
    intro x2 x3 σ hf
    rw [f_X3_keep_h23] at hf
    cases hf
  | succ n ih =>
    intro x2 x3 σ hf
    rw [f_X3_keep_h23] at hf
    refine z_iload_n h dX3_keep_23 rfl 3 rfl ?_
    refine z_if_lt h (tgt := 51) dX3_keep_24 (by decide) (fun g3 => ?_) (fun g3 => ?_)
    · have hf := it_pos g3 hf
      refine z_iload_n h dX3_keep_51 rfl 2 rfl ?_
      obtain ⟨v4, σ5, e5, hf⟩ := obd_out hf
      refine z_cSv h (n := 1) (c_J6_numberOfTrailingZeros_0f7a4 l G e5) rfl wd_375 wd_376 wd_377 wd_378 (by decide +kernel) ⟨rfl, rfl⟩ rfl rfl rfl dX3_keep_52 ⟨Nat.zero_le _, Nat.zero_le _⟩ ?_
      refine z_istore_n h dX3_keep_55 rfl (lv' := [(3, .int v4), (0, .ref (G.1 6)), (1, .ref (G.1 a1)), (2, .int x2)]) rfl rfl ?_
      refine z_iload_n h dX3_keep_56 rfl 0 rfl ?_
      refine z_aload_n h dX3_keep_57 rfl 1 rfl ?_
      refine z_gfR h zC3 (d := 5) (c := 6) tg_6 ln_6 0 rfl ft_3_0 rf_6_0 wd_65 dX3_keep_58 ?_
      refine z_gfIN h zC4 (c := 5) tg_5 ln_5 5 rfl ft_4_5 (by decide +kernel) dX3_keep_61 ?_
      refine z_icmp_ge h (tgt := 79) dX3_keep_64 (by decide) (fun g6 => ?_) (fun g6 => ?_)
      · have hf := it_pos g6 hf
        exact z_sub [1, 2, 3] rfl (k_X3_keep_b79 h hq N a1 x2 _ hf)
      · have hf := it_neg g6 hf
        refine z_aload_n h dX3_keep_67 rfl 2 rfl ?_
        refine z_iload_n h dX3_keep_68 rfl 0 rfl ?_
        obtain ⟨g25, hf⟩ := ck_out hf
        obtain ⟨g26, hf⟩ := ck_out hf
        refine z_lald h (eq_of_beq g25) rfl g26 dX3_keep_69 ?_
        refine z_lconst h (v := (0 : Int64)) dX3_keep_70 lc_0 ?_
        refine z_lif_ge h (tgt := 79) dX3_keep_71 dX3_keep_72 (by decide) (fun g27 => ?_) (fun g27 => ?_)
        · have hf := it_neg g27 hf
          exact z_sub [1, 2, 3] rfl (k_X3_keep_b79 h hq N a1 x2 _ hf)
        · have hf := it_pos g27 hf
          refine z_iconst h (v := (1 : Int32)) dX3_keep_75 ic_1 ?_
          refine z_goto h (tgt := 80) dX3_keep_76 (by decide) ?_
          exact z_sub [1, 2, 3] rfl (k_X3_keep_b80 h hq N a1 x2 (1 : Int32) _ hf)
    · have hf := it_neg g3 hf
      refine z_iload_n h dX3_keep_27 rfl 2 rfl ?_
      refine z_iconst h (v := (1 : Int32)) dX3_keep_28 ic_1 ?_
      refine z_ishl h dX3_keep_29 ?_
      refine z_aload_n h dX3_keep_30 rfl 1 rfl ?_
      refine z_iload_n h dX3_keep_31 rfl 3 rfl ?_
      obtain ⟨g28, hf⟩ := ck_out hf
      obtain ⟨g29, hf⟩ := ck_out hf
      refine z_lald h (eq_of_beq g28) rfl g29 dX3_keep_32 ?_
      refine z_lconst h (v := (0 : Int64)) dX3_keep_33 lc_0 ?_
      refine z_lif_eq h (tgt := 42) dX3_keep_34 dX3_keep_35 (by decide) (fun g30 => ?_) (fun g30 => ?_)
      · have hf := it_pos g30 hf
        refine z_iconst h (v := (0 : Int32)) dX3_keep_42 ic_0 ?_
        exact z_sub [0, 1, 3] rfl (k_X3_keep_b43 h hq N a1 x3 (x2 <<< ((1 : Int32) &&& 31)) (0 : Int32) (fun x2_ x3_ σ_ hf_ => ih x2_ x3_ σ_ hf_) _ hf)
      · have hf := it_neg g30 hf
        refine z_iconst h (v := (1 : Int32)) dX3_keep_38 ic_1 ?_
        refine z_goto h (tgt := 43) dX3_keep_39 (by decide) ?_
        exact z_sub [0, 1, 3] rfl (k_X3_keep_b43 h hq N a1 x3 (x2 <<< ((1 : Int32) &&& 31)) (1 : Int32) (fun x2_ x3_ σ_ hf_ => ih x2_ x3_ σ_ hf_) _ hf)
set_option maxHeartbeats 4000000 in
set_option maxRecDepth 100000 in
theorem c_X3_keep (l : Launch) (G : ZG) {N : Nat} {a1 : Nat} {σ σ' : ZS} {r : Unit} (hf : f_X3_keep N a1 σ = some (r, σ')) : zMet l G yX3_keep cX3_keep 8 none rm_X3_keep [.ref (G.1 6), .ref (G.1 a1)] σ none σ' := by
  refine z_met (by decide +kernel) rfl (fun Y h hq => ?_)
  have h : zOk (l, rm_X3_keep, 8, 0, 0) Y G cX3_keep RX3 none := h
  rw [f_X3_keep] at hf
  refine z_sub (lv' := [(0, .ref (G.1 6)), (1, .ref (G.1 a1))]) [0, 1] rfl ?_
  refine z_aload_n h dX3_keep_0 rfl 0 rfl ?_
  refine z_gfI h zC3 (c := 6) tg_6 ln_6 3 rfl ft_3_3 wd_362 dX3_keep_1 ?_
  refine z_sipush h (v := (924 : Int32)) dX3_keep_4 sp_924 ?_
  refine z_icmp_lt h (tgt := 11) dX3_keep_7 (by decide) (fun g1 => ?_) (fun g1 => ?_)
  · have hf := it_pos g1 hf
    refine z_iconst h (v := (0 : Int32)) dX3_keep_11 ic_0 ?_
    refine z_istore_n h dX3_keep_12 rfl (lv' := [(2, .int (0 : Int32)), (0, .ref (G.1 6)), (1, .ref (G.1 a1))]) rfl rfl ?_
    refine z_aload_n h dX3_keep_13 rfl 1 rfl ?_
    refine z_gfR h zC3 (d := 5) (c := 6) tg_6 ln_6 0 rfl ft_3_0 rf_6_0 wd_65 dX3_keep_14 ?_
    refine z_gfIN h zC4 (c := 5) tg_5 ln_5 5 rfl ft_4_5 (by decide +kernel) dX3_keep_17 ?_
    refine z_iconst h (v := (1 : Int32)) dX3_keep_20 ic_1 ?_
    refine z_isub h dX3_keep_21 ?_
    refine z_topI (fun v2 ev2 => ?_)
    have hf := bd_to ev2 hf
    refine z_istore_n h dX3_keep_22 rfl (lv' := [(3, .int v2), (2, .int (0 : Int32)), (0, .ref (G.1 6)), (1, .ref (G.1 a1))]) rfl rfl ?_
    exact z_sub [2, 3, 1, 0] rfl (k_X3_keep_h23 h hq N a1 _ _ _ _ hf)
  · have hf := it_neg g1 hf
    exact z_vret h (rt_V hf hq) dX3_keep_10
theorem dX3_allTwist_0 : decode cX3_allTwist 0 = .ok (.iconst 0, 1) := by decide +kernel
theorem dX3_allTwist_1 : decode cX3_allTwist 1 = .ok (.istore 4, 2) := by decide +kernel
theorem dX3_allTwist_3 : decode cX3_allTwist 3 = .ok (.iload 4, 2) := by decide +kernel
theorem dX3_allTwist_5 : decode cX3_allTwist 5 = .ok (.aload_n 0, 1) := by decide +kernel
theorem dX3_allTwist_6 : decode cX3_allTwist 6 = .ok (.getfield 12, 3) := by decide +kernel
theorem dX3_allTwist_9 : decode cX3_allTwist 9 = .ok (.getfield 35, 3) := by decide +kernel
theorem dX3_allTwist_12 : decode cX3_allTwist 12 = .ok (.if_icmp .ge 34, 3) := by decide +kernel
theorem dX3_allTwist_15 : decode cX3_allTwist 15 = .ok (.iload_n 1, 1) := by decide +kernel
theorem dX3_allTwist_16 : decode cX3_allTwist 16 = .ok (.iload 4, 2) := by decide +kernel
theorem dX3_allTwist_18 : decode cX3_allTwist 18 = .ok (.ishr, 1) := by decide +kernel
theorem dX3_allTwist_19 : decode cX3_allTwist 19 = .ok (.iconst 1, 1) := by decide +kernel
theorem dX3_allTwist_20 : decode cX3_allTwist 20 = .ok (.iand, 1) := by decide +kernel
theorem dX3_allTwist_21 : decode cX3_allTwist 21 = .ok (.ifCond .eq 19, 3) := by decide +kernel
theorem dX3_allTwist_24 : decode cX3_allTwist 24 = .ok (.aload_n 0, 1) := by decide +kernel
theorem dX3_allTwist_25 : decode cX3_allTwist 25 = .ok (.getfield 12, 3) := by decide +kernel
theorem dX3_allTwist_28 : decode cX3_allTwist 28 = .ok (.iload 4, 2) := by decide +kernel
theorem dX3_allTwist_30 : decode cX3_allTwist 30 = .ok (.iload_n 2, 1) := by decide +kernel
theorem dX3_allTwist_31 : decode cX3_allTwist 31 = .ok (.iload_n 3, 1) := by decide +kernel
theorem dX3_allTwist_32 : decode cX3_allTwist 32 = .ok (.invokevirtual 52, 3) := by decide +kernel
theorem dX3_allTwist_35 : decode cX3_allTwist 35 = .ok (.ifCond .ge 5, 3) := by decide +kernel
theorem dX3_allTwist_38 : decode cX3_allTwist 38 = .ok (.iconst 0, 1) := by decide +kernel
theorem dX3_allTwist_39 : decode cX3_allTwist 39 = .ok (.ireturn, 1) := by decide +kernel
theorem dX3_allTwist_40 : decode cX3_allTwist 40 = .ok (.iinc 4 1, 3) := by decide +kernel
theorem dX3_allTwist_43 : decode cX3_allTwist 43 = .ok (.goto (-40), 3) := by decide +kernel
theorem dX3_allTwist_46 : decode cX3_allTwist 46 = .ok (.iconst 1, 1) := by decide +kernel
theorem dX3_allTwist_47 : decode cX3_allTwist 47 = .ok (.ireturn, 1) := by decide +kernel
abbrev rm_X3_allTwist : Room := { frames := 1, cells := 0, slots := 0, locals := 32 }
noncomputable def f_X3_allTwist_b40 (N : Nat) (kb3 : Int32 → ZS → Option (Int32 × ZS)) (x1 : Int32) (x2 : Int32) (x3 : Int32) (x4 : Int32) (σ : ZS) : Option (Int32 × ZS) := bd (x4 + (1 : Int32)) fun v3 => kb3 v3 σ
noncomputable def f_X3_allTwist_h3 (N : Nat) (x1 : Int32) (x2 : Int32) (x3 : Int32) : Nat → Int32 → ZS → Option (Int32 × ZS)
  | 0, _, _ => none
  | n + 1, x4, σ => (if (gI σ 5 5) ≤ x4 then some ((1 : Int32), σ) else (if ((x1 >>> (x4 &&& 31)) &&& (1 : Int32)) = 0 then f_X3_allTwist_b40 N (fun x4_ σ_ => f_X3_allTwist_h3 N x1 x2 x3 n x4_ σ_) x1 x2 x3 x4 σ else obd (f_X4_rowWith N x4 x2 x3 σ) fun v4 σ5 => (if 0 ≤ v4 then f_X3_allTwist_b40 N (fun x4_ σ_ => f_X3_allTwist_h3 N x1 x2 x3 n x4_ σ_) x1 x2 x3 x4 σ5 else some ((0 : Int32), σ5))))
noncomputable def f_X3_allTwist (N : Nat) (x1 : Int32) (x2 : Int32) (x3 : Int32) (σ : ZS) : Option (Int32 × ZS) := f_X3_allTwist_h3 N x1 x2 x3 N (0 : Int32) σ
set_option maxHeartbeats 4000000 in
set_option maxRecDepth 100000 in
theorem k_X3_allTwist_b40 {l : Launch} {Y : ZY} {G : ZG} {r : Int32} {σ' : ZS} (h : zOk (l, rm_X3_allTwist, 5, 0, 0) Y G cX3_allTwist RX3 (some .boolean)) (hq : zRet (l, rm_X3_allTwist, 5, 0, 0) Y G (some (.int r)) σ') (N : Nat) {kb3 : Int32 → ZS → Option (Int32 × ZS)} (x1 : Int32) (x2 : Int32) (x3 : Int32) (x4 : Int32) (hb3 : ∀ (x4_ : Int32) (σ_ : ZS), kb3 x4_ σ_ = some (r, σ') → Z (l, rm_X3_allTwist, 5, 0, 0) Y G σ_ [(0, .ref (G.1 6)), (1, .int x1), (2, .int x2), (3, .int x3), (4, .int x4_)] [] 3) (σ : ZS) (hf : f_X3_allTwist_b40 N kb3 x1 x2 x3 x4 σ = some (r, σ')) : Z (l, rm_X3_allTwist, 5, 0, 0) Y G σ [(0, .ref (G.1 6)), (1, .int x1), (2, .int x2), (3, .int x3), (4, .int x4)] [] 40 := by
  rw [f_X3_allTwist_b40] at hf
  obtain ⟨v3, ev3, hf⟩ := bd_ex hf
  refine z_iinc h (v := v3) (lv' := [(4, .int v3), (0, .ref (G.1 6)), (1, .int x1), (2, .int x2), (3, .int x3)]) dX3_allTwist_40 4 rfl (by rw [ev3]; rfl) rfl rfl ?_
  refine z_goto h (tgt := 3) dX3_allTwist_43 (by decide) ?_
  exact z_sub [1, 2, 3, 4, 0] rfl (hb3 _ _ hf)
set_option maxHeartbeats 4000000 in
set_option maxRecDepth 100000 in
theorem k_X3_allTwist_h3 {l : Launch} {Y : ZY} {G : ZG} {r : Int32} {σ' : ZS} (h : zOk (l, rm_X3_allTwist, 5, 0, 0) Y G cX3_allTwist RX3 (some .boolean)) (hq : zRet (l, rm_X3_allTwist, 5, 0, 0) Y G (some (.int r)) σ') (N : Nat) (x1 : Int32) (x2 : Int32) (x3 : Int32) : ∀ (n : Nat) (x4 : Int32) (σ : ZS), f_X3_allTwist_h3 N x1 x2 x3 n x4 σ = some (r, σ') → Z (l, rm_X3_allTwist, 5, 0, 0) Y G σ [(0, .ref (G.1 6)), (1, .int x1), (2, .int x2), (3, .int x3), (4, .int x4)] [] 3 := by
  intro n
  induction n with
  | zero =>
    intro x4 σ hf
    rw [f_X3_allTwist_h3] at hf
    cases hf
  | succ n ih =>
    intro x4 σ hf
    rw [f_X3_allTwist_h3] at hf
    refine z_iload h dX3_allTwist_3 4 rfl ?_
    refine z_aload_n h dX3_allTwist_5 rfl 0 rfl ?_
    refine z_gfR h zC3 (d := 5) (c := 6) tg_6 ln_6 0 rfl ft_3_0 rf_6_0 wd_65 dX3_allTwist_6 ?_
    refine z_gfIN h zC4 (c := 5) tg_5 ln_5 5 rfl ft_4_5 (by decide +kernel) dX3_allTwist_9 ?_
    refine z_icmp_ge h (tgt := 46) dX3_allTwist_12 (by decide) (fun g1 => ?_) (fun g1 => ?_)
    · have hf := it_pos g1 hf
      refine z_iconst h (v := (1 : Int32)) dX3_allTwist_46 ic_1 ?_
      exact z_zret h rfl (rt_I hf hq) dX3_allTwist_47
    · have hf := it_neg g1 hf
      refine z_iload_n h dX3_allTwist_15 rfl 1 rfl ?_
      refine z_iload h dX3_allTwist_16 4 rfl ?_
      refine z_ishr h dX3_allTwist_18 ?_
      refine z_iconst h (v := (1 : Int32)) dX3_allTwist_19 ic_1 ?_
      refine z_iand h dX3_allTwist_20 ?_
      refine z_if_eq h (tgt := 40) dX3_allTwist_21 (by decide) (fun g2 => ?_) (fun g2 => ?_)
      · have hf := it_pos g2 hf
        exact z_sub [0, 1, 2, 3, 4] rfl (k_X3_allTwist_b40 h hq N x1 x2 x3 x4 (fun x4_ σ_ hf_ => ih x4_ σ_ hf_) _ hf)
      · have hf := it_neg g2 hf
        refine z_aload_n h dX3_allTwist_24 rfl 0 rfl ?_
        refine z_gfR h zC3 (d := 5) (c := 6) tg_6 ln_6 0 rfl ft_3_0 rf_6_0 wd_65 dX3_allTwist_25 ?_
        refine z_iload h dX3_allTwist_28 4 rfl ?_
        refine z_iload_n h dX3_allTwist_30 rfl 2 rfl ?_
        refine z_iload_n h dX3_allTwist_31 rfl 3 rfl ?_
        obtain ⟨v4, σ5, e5, hf⟩ := obd_out hf
        refine z_cVv h (n := 3) (c_X4_rowWith l G e5) zC4 tg_5 ln_5 rfl rfl wd_381 wd_347 wd_348 wd_64 wd_349 (by decide +kernel) ⟨rfl, rfl⟩ rfl rfl rfl dX3_allTwist_32 ⟨Nat.zero_le _, Nat.zero_le _⟩ ?_
        refine z_if_ge h (tgt := 40) dX3_allTwist_35 (by decide) (fun g6 => ?_) (fun g6 => ?_)
        · have hf := it_pos g6 hf
          exact z_sub [0, 1, 2, 3, 4] rfl (k_X3_allTwist_b40 h hq N x1 x2 x3 x4 (fun x4_ σ_ hf_ => ih x4_ σ_ hf_) _ hf)
        · have hf := it_neg g6 hf
          refine z_iconst h (v := (0 : Int32)) dX3_allTwist_38 ic_0 ?_
          exact z_zret h rfl (rt_I hf hq) dX3_allTwist_39
set_option maxHeartbeats 4000000 in
set_option maxRecDepth 100000 in
theorem c_X3_allTwist (l : Launch) (G : ZG) {N : Nat} {x1 : Int32} {x2 : Int32} {x3 : Int32} {σ σ' : ZS} {r : Int32} (hf : f_X3_allTwist N x1 x2 x3 σ = some (r, σ')) : zMet l G yX3_allTwist cX3_allTwist 5 (some .boolean) rm_X3_allTwist [.ref (G.1 6), .int x1, .int x2, .int x3] σ (some (.int r)) σ' := by
  refine z_met (by decide +kernel) rfl (fun Y h hq => ?_)
  have h : zOk (l, rm_X3_allTwist, 5, 0, 0) Y G cX3_allTwist RX3 (some .boolean) := h
  rw [f_X3_allTwist] at hf
  refine z_sub (lv' := [(0, .ref (G.1 6)), (1, .int x1), (2, .int x2), (3, .int x3)]) [0, 1, 2, 3] rfl ?_
  refine z_iconst h (v := (0 : Int32)) dX3_allTwist_0 ic_0 ?_
  refine z_istore h dX3_allTwist_1 (lv' := [(4, .int (0 : Int32)), (0, .ref (G.1 6)), (1, .int x1), (2, .int x2), (3, .int x3)]) rfl rfl ?_
  exact z_sub [1, 2, 3, 4, 0] rfl (k_X3_allTwist_h3 h hq N x1 x2 x3 _ _ _ hf)
theorem dX3_search_0 : decode cX3_search 0 = .ok (.iload_n 3, 1) := by decide +kernel
theorem dX3_search_1 : decode cX3_search 1 = .ok (.iload_n 1, 1) := by decide +kernel
theorem dX3_search_2 : decode cX3_search 2 = .ok (.iconst 2, 1) := by decide +kernel
theorem dX3_search_3 : decode cX3_search 3 = .ok (.iadd, 1) := by decide +kernel
theorem dX3_search_4 : decode cX3_search 4 = .ok (.if_icmp .gt 20, 3) := by decide +kernel
theorem dX3_search_7 : decode cX3_search 7 = .ok (.iload_n 3, 1) := by decide +kernel
theorem dX3_search_8 : decode cX3_search 8 = .ok (.iconst 1, 1) := by decide +kernel
theorem dX3_search_9 : decode cX3_search 9 = .ok (.if_icmp .lt 15, 3) := by decide +kernel
theorem dX3_search_12 : decode cX3_search 12 = .ok (.iload_n 2, 1) := by decide +kernel
theorem dX3_search_13 : decode cX3_search 13 = .ok (.iconst 2, 1) := by decide +kernel
theorem dX3_search_14 : decode cX3_search 14 = .ok (.iload_n 3, 1) := by decide +kernel
theorem dX3_search_15 : decode cX3_search 15 = .ok (.imul, 1) := by decide +kernel
theorem dX3_search_16 : decode cX3_search 16 = .ok (.iadd, 1) := by decide +kernel
theorem dX3_search_17 : decode cX3_search 17 = .ok (.iconst 1, 1) := by decide +kernel
theorem dX3_search_18 : decode cX3_search 18 = .ok (.isub, 1) := by decide +kernel
theorem dX3_search_19 : decode cX3_search 19 = .ok (.bipush 78, 2) := by decide +kernel
theorem dX3_search_21 : decode cX3_search 21 = .ok (.if_icmp .le 4, 3) := by decide +kernel
theorem dX3_search_24 : decode cX3_search 24 = .ok (.return_, 1) := by decide +kernel
theorem dX3_search_25 : decode cX3_search 25 = .ok (.iload_n 3, 1) := by decide +kernel
theorem dX3_search_26 : decode cX3_search 26 = .ok (.iconst 1, 1) := by decide +kernel
theorem dX3_search_27 : decode cX3_search 27 = .ok (.if_icmp .ne 17, 3) := by decide +kernel
theorem dX3_search_30 : decode cX3_search 30 = .ok (.aload_n 0, 1) := by decide +kernel
theorem dX3_search_31 : decode cX3_search 31 = .ok (.aload_n 0, 1) := by decide +kernel
theorem dX3_search_32 : decode cX3_search 32 = .ok (.getfield 12, 3) := by decide +kernel
theorem dX3_search_35 : decode cX3_search 35 = .ok (.getfield 45, 3) := by decide +kernel
theorem dX3_search_38 : decode cX3_search 38 = .ok (.iload_n 2, 1) := by decide +kernel
theorem dX3_search_39 : decode cX3_search 39 = .ok (.aaload, 1) := by decide +kernel
theorem dX3_search_40 : decode cX3_search 40 = .ok (.invokevirtual 48, 3) := by decide +kernel
theorem dX3_search_43 : decode cX3_search 43 = .ok (.return_, 1) := by decide +kernel
theorem dX3_search_44 : decode cX3_search 44 = .ok (.aload_n 0, 1) := by decide +kernel
theorem dX3_search_45 : decode cX3_search 45 = .ok (.getfield 12, 3) := by decide +kernel
theorem dX3_search_48 : decode cX3_search 48 = .ok (.iload_n 1, 1) := by decide +kernel
theorem dX3_search_49 : decode cX3_search 49 = .ok (.iload_n 2, 1) := by decide +kernel
theorem dX3_search_50 : decode cX3_search 50 = .ok (.iload_n 3, 1) := by decide +kernel
theorem dX3_search_51 : decode cX3_search 51 = .ok (.invokevirtual 52, 3) := by decide +kernel
theorem dX3_search_54 : decode cX3_search 54 = .ok (.istore 5, 2) := by decide +kernel
theorem dX3_search_56 : decode cX3_search 56 = .ok (.iload 5, 2) := by decide +kernel
theorem dX3_search_58 : decode cX3_search 58 = .ok (.ifCond .ge 15, 3) := by decide +kernel
theorem dX3_search_61 : decode cX3_search 61 = .ok (.aload_n 0, 1) := by decide +kernel
theorem dX3_search_62 : decode cX3_search 62 = .ok (.iload_n 1, 1) := by decide +kernel
theorem dX3_search_63 : decode cX3_search 63 = .ok (.iconst 1, 1) := by decide +kernel
theorem dX3_search_64 : decode cX3_search 64 = .ok (.isub, 1) := by decide +kernel
theorem dX3_search_65 : decode cX3_search 65 = .ok (.iload_n 2, 1) := by decide +kernel
theorem dX3_search_66 : decode cX3_search 66 = .ok (.iload_n 3, 1) := by decide +kernel
theorem dX3_search_67 : decode cX3_search 67 = .ok (.iload 4, 2) := by decide +kernel
theorem dX3_search_69 : decode cX3_search 69 = .ok (.invokevirtual 41, 3) := by decide +kernel
theorem dX3_search_72 : decode cX3_search 72 = .ok (.return_, 1) := by decide +kernel
theorem dX3_search_73 : decode cX3_search 73 = .ok (.iload_n 2, 1) := by decide +kernel
theorem dX3_search_74 : decode cX3_search 74 = .ok (.iload_n 3, 1) := by decide +kernel
theorem dX3_search_75 : decode cX3_search 75 = .ok (.iadd, 1) := by decide +kernel
theorem dX3_search_76 : decode cX3_search 76 = .ok (.istore 6, 2) := by decide +kernel
theorem dX3_search_78 : decode cX3_search 78 = .ok (.iload_n 2, 1) := by decide +kernel
theorem dX3_search_79 : decode cX3_search 79 = .ok (.istore 7, 2) := by decide +kernel
theorem dX3_search_81 : decode cX3_search 81 = .ok (.iload 7, 2) := by decide +kernel
theorem dX3_search_83 : decode cX3_search 83 = .ok (.iload_n 2, 1) := by decide +kernel
theorem dX3_search_84 : decode cX3_search 84 = .ok (.iload_n 3, 1) := by decide +kernel
theorem dX3_search_85 : decode cX3_search 85 = .ok (.iadd, 1) := by decide +kernel
theorem dX3_search_86 : decode cX3_search 86 = .ok (.if_icmp .ge 57, 3) := by decide +kernel
theorem dX3_search_89 : decode cX3_search 89 = .ok (.iload 7, 2) := by decide +kernel
theorem dX3_search_91 : decode cX3_search 91 = .ok (.iload 5, 2) := by decide +kernel
theorem dX3_search_93 : decode cX3_search 93 = .ok (.if_icmp .eq 44, 3) := by decide +kernel
theorem dX3_search_96 : decode cX3_search 96 = .ok (.aload_n 0, 1) := by decide +kernel
theorem dX3_search_97 : decode cX3_search 97 = .ok (.getfield 12, 3) := by decide +kernel
theorem dX3_search_100 : decode cX3_search 100 = .ok (.aload_n 0, 1) := by decide +kernel
theorem dX3_search_101 : decode cX3_search 101 = .ok (.getfield 12, 3) := by decide +kernel
theorem dX3_search_104 : decode cX3_search 104 = .ok (.getfield 45, 3) := by decide +kernel
theorem dX3_search_107 : decode cX3_search 107 = .ok (.iload 7, 2) := by decide +kernel
theorem dX3_search_109 : decode cX3_search 109 = .ok (.aaload, 1) := by decide +kernel
theorem dX3_search_110 : decode cX3_search 110 = .ok (.aload_n 0, 1) := by decide +kernel
theorem dX3_search_111 : decode cX3_search 111 = .ok (.getfield 12, 3) := by decide +kernel
theorem dX3_search_114 : decode cX3_search 114 = .ok (.getfield 45, 3) := by decide +kernel
theorem dX3_search_117 : decode cX3_search 117 = .ok (.iload 5, 2) := by decide +kernel
theorem dX3_search_119 : decode cX3_search 119 = .ok (.aaload, 1) := by decide +kernel
theorem dX3_search_120 : decode cX3_search 120 = .ok (.iload_n 1, 1) := by decide +kernel
theorem dX3_search_121 : decode cX3_search 121 = .ok (.aload_n 0, 1) := by decide +kernel
theorem dX3_search_122 : decode cX3_search 122 = .ok (.getfield 12, 3) := by decide +kernel
theorem dX3_search_125 : decode cX3_search 125 = .ok (.getfield 45, 3) := by decide +kernel
theorem dX3_search_128 : decode cX3_search 128 = .ok (.iload 6, 2) := by decide +kernel
theorem dX3_search_130 : decode cX3_search 130 = .ok (.aaload, 1) := by decide +kernel
theorem dX3_search_131 : decode cX3_search 131 = .ok (.invokevirtual 56, 3) := by decide +kernel
theorem dX3_search_134 : decode cX3_search 134 = .ok (.iinc 6 1, 3) := by decide +kernel
theorem dX3_search_137 : decode cX3_search 137 = .ok (.iinc 7 1, 3) := by decide +kernel
theorem dX3_search_140 : decode cX3_search 140 = .ok (.goto (-59), 3) := by decide +kernel
theorem dX3_search_143 : decode cX3_search 143 = .ok (.aload_n 0, 1) := by decide +kernel
theorem dX3_search_144 : decode cX3_search 144 = .ok (.iload 4, 2) := by decide +kernel
theorem dX3_search_146 : decode cX3_search 146 = .ok (.iload_n 2, 1) := by decide +kernel
theorem dX3_search_147 : decode cX3_search 147 = .ok (.iload_n 3, 1) := by decide +kernel
theorem dX3_search_148 : decode cX3_search 148 = .ok (.iadd, 1) := by decide +kernel
theorem dX3_search_149 : decode cX3_search 149 = .ok (.iload_n 3, 1) := by decide +kernel
theorem dX3_search_150 : decode cX3_search 150 = .ok (.iconst 1, 1) := by decide +kernel
theorem dX3_search_151 : decode cX3_search 151 = .ok (.isub, 1) := by decide +kernel
theorem dX3_search_152 : decode cX3_search 152 = .ok (.invokevirtual 60, 3) := by decide +kernel
theorem dX3_search_155 : decode cX3_search 155 = .ok (.ifCond .eq 18, 3) := by decide +kernel
theorem dX3_search_158 : decode cX3_search 158 = .ok (.aload_n 0, 1) := by decide +kernel
theorem dX3_search_159 : decode cX3_search 159 = .ok (.iload_n 1, 1) := by decide +kernel
theorem dX3_search_160 : decode cX3_search 160 = .ok (.iconst 1, 1) := by decide +kernel
theorem dX3_search_161 : decode cX3_search 161 = .ok (.isub, 1) := by decide +kernel
theorem dX3_search_162 : decode cX3_search 162 = .ok (.iload_n 2, 1) := by decide +kernel
theorem dX3_search_163 : decode cX3_search 163 = .ok (.iload_n 3, 1) := by decide +kernel
theorem dX3_search_164 : decode cX3_search 164 = .ok (.iadd, 1) := by decide +kernel
theorem dX3_search_165 : decode cX3_search 165 = .ok (.iload_n 3, 1) := by decide +kernel
theorem dX3_search_166 : decode cX3_search 166 = .ok (.iconst 1, 1) := by decide +kernel
theorem dX3_search_167 : decode cX3_search 167 = .ok (.isub, 1) := by decide +kernel
theorem dX3_search_168 : decode cX3_search 168 = .ok (.iload 4, 2) := by decide +kernel
theorem dX3_search_170 : decode cX3_search 170 = .ok (.invokevirtual 41, 3) := by decide +kernel
theorem dX3_search_173 : decode cX3_search 173 = .ok (.aload_n 0, 1) := by decide +kernel
theorem dX3_search_174 : decode cX3_search 174 = .ok (.iload_n 1, 1) := by decide +kernel
theorem dX3_search_175 : decode cX3_search 175 = .ok (.iconst 1, 1) := by decide +kernel
theorem dX3_search_176 : decode cX3_search 176 = .ok (.isub, 1) := by decide +kernel
theorem dX3_search_177 : decode cX3_search 177 = .ok (.iload_n 2, 1) := by decide +kernel
theorem dX3_search_178 : decode cX3_search 178 = .ok (.iload_n 3, 1) := by decide +kernel
theorem dX3_search_179 : decode cX3_search 179 = .ok (.iload 4, 2) := by decide +kernel
theorem dX3_search_181 : decode cX3_search 181 = .ok (.iconst 1, 1) := by decide +kernel
theorem dX3_search_182 : decode cX3_search 182 = .ok (.iload_n 1, 1) := by decide +kernel
theorem dX3_search_183 : decode cX3_search 183 = .ok (.ishl, 1) := by decide +kernel
theorem dX3_search_184 : decode cX3_search 184 = .ok (.ior, 1) := by decide +kernel
theorem dX3_search_185 : decode cX3_search 185 = .ok (.invokevirtual 41, 3) := by decide +kernel
theorem dX3_search_188 : decode cX3_search 188 = .ok (.return_, 1) := by decide +kernel
abbrev rm_X3_search (dd : Nat) : Room := { frames := 4 + dd, cells := 0, slots := 0, locals := 140 + 27 * dd }
noncomputable def f_X3_search_b173 (N : Nat) (rc : Int32 → Int32 → Int32 → Int32 → ZS → Option (Unit × ZS)) (x1 : Int32) (x2 : Int32) (x3 : Int32) (x4 : Int32) (σ : ZS) : Option (Unit × ZS) := obd (rc (x1 - (1 : Int32)) x2 x3 (x4 ||| ((1 : Int32) <<< (x1 &&& 31))) σ) fun _ σ14 => some ((), σ14)
noncomputable def f_X3_search_b137 (N : Nat) (rc : Int32 → Int32 → Int32 → Int32 → ZS → Option (Unit × ZS)) (kb81 : Int32 → Int32 → ZS → Option (Unit × ZS)) (x1 : Int32) (x2 : Int32) (x3 : Int32) (x4 : Int32) (x5 : Int32) (x6 : Int32) (x7 : Int32) (σ : ZS) : Option (Unit × ZS) := bd (x7 + (1 : Int32)) fun v18 => kb81 x6 v18 σ
noncomputable def f_X3_search_h81 (N : Nat) (rc : Int32 → Int32 → Int32 → Int32 → ZS → Option (Unit × ZS)) (x1 : Int32) (x2 : Int32) (x3 : Int32) (x4 : Int32) (x5 : Int32) : Nat → Int32 → Int32 → ZS → Option (Unit × ZS)
  | 0, _, _, _ => none
  | n + 1, x6, x7, σ => (if (x2 + x3) ≤ x7 then obd (f_X3_allTwist N x4 (x2 + x3) (x3 - (1 : Int32)) σ) fun v10 σ11 => (if v10 = 0 then f_X3_search_b173 N rc x1 x2 x3 x4 σ11 else obd (rc (x1 - (1 : Int32)) (x2 + x3) (x3 - (1 : Int32)) x4 σ11) fun _ σ16 => f_X3_search_b173 N rc x1 x2 x3 x4 σ16) else (if x7 = x5 then f_X3_search_b137 N rc (fun x6_ x7_ σ_ => f_X3_search_h81 N rc x1 x2 x3 x4 x5 n x6_ x7_ σ_) x1 x2 x3 x4 x5 x6 x7 σ else ck (inb x7 78) (ck (inb x5 78) (ck (inb x6 78) (obd (f_X4_cancel N (65 + x7.toNatClampNeg) (65 + x5.toNatClampNeg) x1 (65 + x6.toNatClampNeg) σ) fun _ σ23 => bd (x6 + (1 : Int32)) fun v24 => f_X3_search_b137 N rc (fun x6_ x7_ σ_ => f_X3_search_h81 N rc x1 x2 x3 x4 x5 n x6_ x7_ σ_) x1 x2 x3 x4 x5 v24 x7 σ23)))))
noncomputable def f_X3_search_body (N : Nat) (rc : Int32 → Int32 → Int32 → Int32 → ZS → Option (Unit × ZS)) (x1 : Int32) (x2 : Int32) (x3 : Int32) (x4 : Int32) (σ : ZS) : Option (Unit × ZS) := (if (x1 + (2 : Int32)) < x3 then some ((), σ) else (if x3 < (1 : Int32) then some ((), σ) else (if ((x2 + ((2 : Int32) * x3)) - (1 : Int32)) ≤ (78 : Int32) then (if x3 = (1 : Int32) then ck (inb x2 78) (obd (f_X3_keep N (65 + x2.toNatClampNeg) σ) fun _ σ29 => some ((), σ29)) else obd (f_X4_rowWith N x1 x2 x3 σ) fun v5 σ6 => (if 0 ≤ v5 then bd (x2 + x3) fun v8 => f_X3_search_h81 N rc x1 x2 x3 x4 v5 N v8 x2 σ6 else obd (rc (x1 - (1 : Int32)) x2 x3 x4 σ6) fun _ σ26 => some ((), σ26))) else some ((), σ))))
noncomputable def f_X3_search (N : Nat) : Nat → Int32 → Int32 → Int32 → Int32 → ZS → Option (Unit × ZS)
  | 0, _, _, _, _, _ => none
  | dd + 1, x1, x2, x3, x4, σ => f_X3_search_body N (f_X3_search N dd) x1 x2 x3 x4 σ
set_option maxHeartbeats 4000000 in
set_option maxRecDepth 100000 in
theorem k_X3_search_b173 {l : Launch} {Y : ZY} {G : ZG} {σ' : ZS} {dd : Nat} {rc : Int32 → Int32 → Int32 → Int32 → ZS → Option (Unit × ZS)} (hrc : ∀ (x1 : Int32) (x2 : Int32) (x3 : Int32) (x4 : Int32) (σ σ1 : ZS), rc x1 x2 x3 x4 σ = some ((), σ1) → zMet l G yX3_search cX3_search 8 none (rm_X3_search dd) [.ref (G.1 6), .int x1, .int x2, .int x3, .int x4] σ none σ1) (h : zOk (l, rm_X3_search (dd + 1), 8, 0, 0) Y G cX3_search RX3 none) (hq : zRet (l, rm_X3_search (dd + 1), 8, 0, 0) Y G none σ') (N : Nat) (x1 : Int32) (x2 : Int32) (x3 : Int32) (x4 : Int32) (σ : ZS) (hf : f_X3_search_b173 N rc x1 x2 x3 x4 σ = some ((), σ')) : Z (l, rm_X3_search (dd + 1), 8, 0, 0) Y G σ [(0, .ref (G.1 6)), (1, .int x1), (2, .int x2), (3, .int x3), (4, .int x4)] [] 173 := by
  rw [f_X3_search_b173] at hf
  refine z_aload_n h dX3_search_173 rfl 0 rfl ?_
  refine z_iload_n h dX3_search_174 rfl 1 rfl ?_
  refine z_iconst h (v := (1 : Int32)) dX3_search_175 ic_1 ?_
  refine z_isub h dX3_search_176 ?_
  refine z_iload_n h dX3_search_177 rfl 2 rfl ?_
  refine z_iload_n h dX3_search_178 rfl 3 rfl ?_
  refine z_iload h dX3_search_179 4 rfl ?_
  refine z_iconst h (v := (1 : Int32)) dX3_search_181 ic_1 ?_
  refine z_iload_n h dX3_search_182 rfl 1 rfl ?_
  refine z_ishl h dX3_search_183 ?_
  refine z_ior h dX3_search_184 ?_
  obtain ⟨v13, σ14, e14, hf⟩ := obd_out hf
  refine z_cV0 h (n := 4) (hrc _ _ _ _ _ _ e14) zC3 tg_6 ln_6 rfl rfl wd_367 wd_368 wd_369 wd_46 wd_370 (by decide +kernel) ⟨rfl, rfl⟩ (ble2 (show (4 + dd) + 1 ≤ 4 + (dd + 1) by omega) (show 8 + (8 + 11) + (140 + 27 * dd) ≤ 140 + 27 * (dd + 1) by omega)) rfl rfl dX3_search_185 ⟨Nat.zero_le _, Nat.zero_le _⟩ ?_
  exact z_vret h (rt_V hf hq) dX3_search_188
set_option maxHeartbeats 4000000 in
set_option maxRecDepth 100000 in
theorem k_X3_search_b137 {l : Launch} {Y : ZY} {G : ZG} {σ' : ZS} {dd : Nat} {rc : Int32 → Int32 → Int32 → Int32 → ZS → Option (Unit × ZS)} (hrc : ∀ (x1 : Int32) (x2 : Int32) (x3 : Int32) (x4 : Int32) (σ σ1 : ZS), rc x1 x2 x3 x4 σ = some ((), σ1) → zMet l G yX3_search cX3_search 8 none (rm_X3_search dd) [.ref (G.1 6), .int x1, .int x2, .int x3, .int x4] σ none σ1) (h : zOk (l, rm_X3_search (dd + 1), 8, 0, 0) Y G cX3_search RX3 none) (hq : zRet (l, rm_X3_search (dd + 1), 8, 0, 0) Y G none σ') (N : Nat) {kb81 : Int32 → Int32 → ZS → Option (Unit × ZS)} (x1 : Int32) (x2 : Int32) (x3 : Int32) (x4 : Int32) (x5 : Int32) (x6 : Int32) (x7 : Int32) (hb81 : ∀ (x6_ : Int32) (x7_ : Int32) (σ_ : ZS), kb81 x6_ x7_ σ_ = some ((), σ') → Z (l, rm_X3_search (dd + 1), 8, 0, 0) Y G σ_ [(0, .ref (G.1 6)), (1, .int x1), (2, .int x2), (3, .int x3), (4, .int x4), (5, .int x5), (6, .int x6_), (7, .int x7_)] [] 81) (σ : ZS) (hf : f_X3_search_b137 N rc kb81 x1 x2 x3 x4 x5 x6 x7 σ = some ((), σ')) : Z (l, rm_X3_search (dd + 1), 8, 0, 0) Y G σ [(0, .ref (G.1 6)), (1, .int x1), (2, .int x2), (3, .int x3), (4, .int x4), (5, .int x5), (6, .int x6), (7, .int x7)] [] 137 := by
  rw [f_X3_search_b137] at hf
  obtain ⟨v18, ev18, hf⟩ := bd_ex hf
  refine z_iinc h (v := v18) (lv' := [(7, .int v18), (0, .ref (G.1 6)), (1, .int x1), (2, .int x2), (3, .int x3), (4, .int x4), (5, .int x5), (6, .int x6)]) dX3_search_137 7 rfl (by rw [ev18]; rfl) rfl rfl ?_
  refine z_goto h (tgt := 81) dX3_search_140 (by decide) ?_
  exact z_sub [1, 2, 3, 4, 5, 6, 7, 0] rfl (hb81 _ _ _ hf)
set_option maxHeartbeats 4000000 in
set_option maxRecDepth 100000 in
theorem k_X3_search_h81 {l : Launch} {Y : ZY} {G : ZG} {σ' : ZS} {dd : Nat} {rc : Int32 → Int32 → Int32 → Int32 → ZS → Option (Unit × ZS)} (hrc : ∀ (x1 : Int32) (x2 : Int32) (x3 : Int32) (x4 : Int32) (σ σ1 : ZS), rc x1 x2 x3 x4 σ = some ((), σ1) → zMet l G yX3_search cX3_search 8 none (rm_X3_search dd) [.ref (G.1 6), .int x1, .int x2, .int x3, .int x4] σ none σ1) (h : zOk (l, rm_X3_search (dd + 1), 8, 0, 0) Y G cX3_search RX3 none) (hq : zRet (l, rm_X3_search (dd + 1), 8, 0, 0) Y G none σ') (N : Nat) (x1 : Int32) (x2 : Int32) (x3 : Int32) (x4 : Int32) (x5 : Int32) : ∀ (n : Nat) (x6 : Int32) (x7 : Int32) (σ : ZS), f_X3_search_h81 N rc x1 x2 x3 x4 x5 n x6 x7 σ = some ((), σ') → Z (l, rm_X3_search (dd + 1), 8, 0, 0) Y G σ [(0, .ref (G.1 6)), (1, .int x1), (2, .int x2), (3, .int x3), (4, .int x4), (5, .int x5), (6, .int x6), (7, .int x7)] [] 81 := by
  intro n
  induction n with
  | zero =>
    intro x6 x7 σ hf
    rw [f_X3_search_h81] at hf
    cases hf
  | succ n ih =>
    intro x6 x7 σ hf
    rw [f_X3_search_h81] at hf
    refine z_iload h dX3_search_81 7 rfl ?_
    refine z_iload_n h dX3_search_83 rfl 2 rfl ?_
    refine z_iload_n h dX3_search_84 rfl 3 rfl ?_
    refine z_iadd h dX3_search_85 ?_
    refine z_icmp_ge h (tgt := 143) dX3_search_86 (by decide) (fun g9 => ?_) (fun g9 => ?_)
    · have hf := it_pos g9 hf
      refine z_aload_n h dX3_search_143 rfl 0 rfl ?_
      refine z_iload h dX3_search_144 4 rfl ?_
      refine z_iload_n h dX3_search_146 rfl 2 rfl ?_
      refine z_iload_n h dX3_search_147 rfl 3 rfl ?_
      refine z_iadd h dX3_search_148 ?_
      refine z_iload_n h dX3_search_149 rfl 3 rfl ?_
      refine z_iconst h (v := (1 : Int32)) dX3_search_150 ic_1 ?_
      refine z_isub h dX3_search_151 ?_
      obtain ⟨v10, σ11, e11, hf⟩ := obd_out hf
      refine z_cVv h (n := 3) (c_X3_allTwist l G e11) zC3 tg_6 ln_6 rfl rfl wd_383 wd_384 wd_385 wd_46 wd_386 (by decide +kernel) ⟨rfl, rfl⟩ (ble2 (show 1 + 1 ≤ 4 + (dd + 1) by omega) (show 8 + (5 + 11) + 32 ≤ 140 + 27 * (dd + 1) by omega)) rfl rfl dX3_search_152 ⟨Nat.zero_le _, Nat.zero_le _⟩ ?_
      refine z_if_eq h (tgt := 173) dX3_search_155 (by decide) (fun g12 => ?_) (fun g12 => ?_)
      · have hf := it_pos g12 hf
        exact z_sub [0, 1, 2, 3, 4] rfl (k_X3_search_b173 hrc h hq N x1 x2 x3 x4 _ hf)
      · have hf := it_neg g12 hf
        refine z_aload_n h dX3_search_158 rfl 0 rfl ?_
        refine z_iload_n h dX3_search_159 rfl 1 rfl ?_
        refine z_iconst h (v := (1 : Int32)) dX3_search_160 ic_1 ?_
        refine z_isub h dX3_search_161 ?_
        refine z_iload_n h dX3_search_162 rfl 2 rfl ?_
        refine z_iload_n h dX3_search_163 rfl 3 rfl ?_
        refine z_iadd h dX3_search_164 ?_
        refine z_iload_n h dX3_search_165 rfl 3 rfl ?_
        refine z_iconst h (v := (1 : Int32)) dX3_search_166 ic_1 ?_
        refine z_isub h dX3_search_167 ?_
        refine z_iload h dX3_search_168 4 rfl ?_
        obtain ⟨v15, σ16, e16, hf⟩ := obd_out hf
        refine z_cV0 h (n := 4) (hrc _ _ _ _ _ _ e16) zC3 tg_6 ln_6 rfl rfl wd_367 wd_368 wd_369 wd_46 wd_370 (by decide +kernel) ⟨rfl, rfl⟩ (ble2 (show (4 + dd) + 1 ≤ 4 + (dd + 1) by omega) (show 8 + (8 + 11) + (140 + 27 * dd) ≤ 140 + 27 * (dd + 1) by omega)) rfl rfl dX3_search_170 ⟨Nat.zero_le _, Nat.zero_le _⟩ ?_
        exact z_sub [0, 1, 2, 3, 4] rfl (k_X3_search_b173 hrc h hq N x1 x2 x3 x4 _ hf)
    · have hf := it_neg g9 hf
      refine z_iload h dX3_search_89 7 rfl ?_
      refine z_iload h dX3_search_91 5 rfl ?_
      refine z_icmp_eq h (tgt := 137) dX3_search_93 (by decide) (fun g17 => ?_) (fun g17 => ?_)
      · have hf := it_pos g17 hf
        exact z_sub [0, 1, 2, 3, 4, 5, 6, 7] rfl (k_X3_search_b137 hrc h hq N x1 x2 x3 x4 x5 x6 x7 (fun x6_ x7_ σ_ hf_ => ih x6_ x7_ σ_ hf_) _ hf)
      · have hf := it_neg g17 hf
        refine z_aload_n h dX3_search_96 rfl 0 rfl ?_
        refine z_gfR h zC3 (d := 5) (c := 6) tg_6 ln_6 0 rfl ft_3_0 rf_6_0 wd_65 dX3_search_97 ?_
        refine z_aload_n h dX3_search_100 rfl 0 rfl ?_
        refine z_gfR h zC3 (d := 5) (c := 6) tg_6 ln_6 0 rfl ft_3_0 rf_6_0 wd_65 dX3_search_101 ?_
        refine z_gfRN h zC4 (d := 16) (c := 5) tg_5 ln_5 0 rfl ft_4_0 rf_5_0 (by decide +kernel) dX3_search_104 ?_
        refine z_iload h dX3_search_107 7 rfl ?_
        obtain ⟨g19, hf⟩ := ck_out hf
        refine z_aald h (c := 16) (d := 65 + x7.toNatClampNeg) tg_16 rfl ln_16 rfl g19 dX3_search_109 ?_
        refine z_aload_n h dX3_search_110 rfl 0 rfl ?_
        refine z_gfR h zC3 (d := 5) (c := 6) tg_6 ln_6 0 rfl ft_3_0 rf_6_0 wd_65 dX3_search_111 ?_
        refine z_gfRN h zC4 (d := 16) (c := 5) tg_5 ln_5 0 rfl ft_4_0 rf_5_0 (by decide +kernel) dX3_search_114 ?_
        refine z_iload h dX3_search_117 5 rfl ?_
        obtain ⟨g20, hf⟩ := ck_out hf
        refine z_aald h (c := 16) (d := 65 + x5.toNatClampNeg) tg_16 rfl ln_16 rfl g20 dX3_search_119 ?_
        refine z_iload_n h dX3_search_120 rfl 1 rfl ?_
        refine z_aload_n h dX3_search_121 rfl 0 rfl ?_
        refine z_gfR h zC3 (d := 5) (c := 6) tg_6 ln_6 0 rfl ft_3_0 rf_6_0 wd_65 dX3_search_122 ?_
        refine z_gfRN h zC4 (d := 16) (c := 5) tg_5 ln_5 0 rfl ft_4_0 rf_5_0 (by decide +kernel) dX3_search_125 ?_
        refine z_iload h dX3_search_128 6 rfl ?_
        obtain ⟨g21, hf⟩ := ck_out hf
        refine z_aald h (c := 16) (d := 65 + x6.toNatClampNeg) tg_16 rfl ln_16 rfl g21 dX3_search_130 ?_
        obtain ⟨v22, σ23, e23, hf⟩ := obd_out hf
        refine z_cV0 h (n := 4) (c_X4_cancel l G e23) zC4 tg_5 ln_5 rfl rfl wd_382 wd_355 wd_356 wd_64 wd_357 (by decide +kernel) ⟨rfl, rfl⟩ (ble2 (show 3 + 1 ≤ 4 + (dd + 1) by omega) (show 8 + (13 + 11) + 100 ≤ 140 + 27 * (dd + 1) by omega)) rfl rfl dX3_search_131 ⟨Nat.zero_le _, Nat.zero_le _⟩ ?_
        obtain ⟨v24, ev24, hf⟩ := bd_ex hf
        refine z_iinc h (v := v24) (lv' := [(6, .int v24), (0, .ref (G.1 6)), (1, .int x1), (2, .int x2), (3, .int x3), (4, .int x4), (5, .int x5), (7, .int x7)]) dX3_search_134 6 rfl (by rw [ev24]; rfl) rfl rfl ?_
        exact z_sub [1, 2, 3, 4, 5, 6, 0, 7] rfl (k_X3_search_b137 hrc h hq N x1 x2 x3 x4 x5 v24 x7 (fun x6_ x7_ σ_ hf_ => ih x6_ x7_ σ_ hf_) _ hf)
set_option maxHeartbeats 4000000 in
set_option maxRecDepth 100000 in
theorem c_X3_search (l : Launch) (G : ZG) {N : Nat} : ∀ (dd : Nat) {x1 : Int32} {x2 : Int32} {x3 : Int32} {x4 : Int32} {σ σ' : ZS} {r : Unit} (hf : f_X3_search N dd x1 x2 x3 x4 σ = some (r, σ')), zMet l G yX3_search cX3_search 8 none (rm_X3_search dd) [.ref (G.1 6), .int x1, .int x2, .int x3, .int x4] σ none σ' := by
  intro dd
  induction dd with
  | zero =>
    intro x1 x2 x3 x4 σ σ' r hf
    rw [f_X3_search] at hf
    cases hf
  | succ dd ih =>
    intro x1 x2 x3 x4 σ σ' r hf
    have hrc : ∀ (x1 : Int32) (x2 : Int32) (x3 : Int32) (x4 : Int32) (σ σ1 : ZS), f_X3_search N dd x1 x2 x3 x4 σ = some ((), σ1) → zMet l G yX3_search cX3_search 8 none (rm_X3_search dd) [.ref (G.1 6), .int x1, .int x2, .int x3, .int x4] σ none σ1 := fun x1 x2 x3 x4 σ σ1 q => ih q
    refine z_met (by decide +kernel) rfl (fun Y h hq => ?_)
    rw [f_X3_search] at hf
    have h : zOk (l, rm_X3_search (dd + 1), 8, 0, 0) Y G cX3_search RX3 none := h
    generalize f_X3_search N dd = rc at hf hrc
    rw [f_X3_search_body] at hf
    refine z_sub (lv' := [(0, .ref (G.1 6)), (1, .int x1), (2, .int x2), (3, .int x3), (4, .int x4)]) [0, 1, 2, 3, 4] rfl ?_
    refine z_iload_n h dX3_search_0 rfl 3 rfl ?_
    refine z_iload_n h dX3_search_1 rfl 1 rfl ?_
    refine z_iconst h (v := (2 : Int32)) dX3_search_2 ic_2 ?_
    refine z_iadd h dX3_search_3 ?_
    refine z_icmp_gt h (tgt := 24) dX3_search_4 (by decide) (fun g1 => ?_) (fun g1 => ?_)
    · have hf := it_pos g1 hf
      exact z_vret h (rt_V hf hq) dX3_search_24
    · have hf := it_neg g1 hf
      refine z_iload_n h dX3_search_7 rfl 3 rfl ?_
      refine z_iconst h (v := (1 : Int32)) dX3_search_8 ic_1 ?_
      refine z_icmp_lt h (tgt := 24) dX3_search_9 (by decide) (fun g2 => ?_) (fun g2 => ?_)
      · have hf := it_pos g2 hf
        exact z_vret h (rt_V hf hq) dX3_search_24
      · have hf := it_neg g2 hf
        refine z_iload_n h dX3_search_12 rfl 2 rfl ?_
        refine z_iconst h (v := (2 : Int32)) dX3_search_13 ic_2 ?_
        refine z_iload_n h dX3_search_14 rfl 3 rfl ?_
        refine z_imul h dX3_search_15 ?_
        refine z_iadd h dX3_search_16 ?_
        refine z_iconst h (v := (1 : Int32)) dX3_search_17 ic_1 ?_
        refine z_isub h dX3_search_18 ?_
        refine z_bipush h (v := (78 : Int32)) dX3_search_19 bp_78 ?_
        refine z_icmp_le h (tgt := 25) dX3_search_21 (by decide) (fun g3 => ?_) (fun g3 => ?_)
        · have hf := it_pos g3 hf
          refine z_iload_n h dX3_search_25 rfl 3 rfl ?_
          refine z_iconst h (v := (1 : Int32)) dX3_search_26 ic_1 ?_
          refine z_icmp_ne h (tgt := 44) dX3_search_27 (by decide) (fun g4 => ?_) (fun g4 => ?_)
          · have hf := it_neg g4 hf
            refine z_aload_n h dX3_search_44 rfl 0 rfl ?_
            refine z_gfR h zC3 (d := 5) (c := 6) tg_6 ln_6 0 rfl ft_3_0 rf_6_0 wd_65 dX3_search_45 ?_
            refine z_iload_n h dX3_search_48 rfl 1 rfl ?_
            refine z_iload_n h dX3_search_49 rfl 2 rfl ?_
            refine z_iload_n h dX3_search_50 rfl 3 rfl ?_
            obtain ⟨v5, σ6, e6, hf⟩ := obd_out hf
            refine z_cVv h (n := 3) (c_X4_rowWith l G e6) zC4 tg_5 ln_5 rfl rfl wd_381 wd_347 wd_348 wd_64 wd_349 (by decide +kernel) ⟨rfl, rfl⟩ (ble2 (show 0 + 1 ≤ 4 + (dd + 1) by omega) (show 8 + (5 + 11) + 0 ≤ 140 + 27 * (dd + 1) by omega)) rfl rfl dX3_search_51 ⟨Nat.zero_le _, Nat.zero_le _⟩ ?_
            refine z_istore h dX3_search_54 (lv' := [(5, .int v5), (0, .ref (G.1 6)), (1, .int x1), (2, .int x2), (3, .int x3), (4, .int x4)]) rfl rfl ?_
            refine z_iload h dX3_search_56 0 rfl ?_
            refine z_if_ge h (tgt := 73) dX3_search_58 (by decide) (fun g7 => ?_) (fun g7 => ?_)
            · have hf := it_pos g7 hf
              refine z_iload_n h dX3_search_73 rfl 3 rfl ?_
              refine z_iload_n h dX3_search_74 rfl 4 rfl ?_
              refine z_iadd h dX3_search_75 ?_
              refine z_topI (fun v8 ev8 => ?_)
              have hf := bd_to ev8 hf
              refine z_istore h dX3_search_76 (lv' := [(6, .int v8), (5, .int v5), (0, .ref (G.1 6)), (1, .int x1), (2, .int x2), (3, .int x3), (4, .int x4)]) rfl rfl ?_
              refine z_iload_n h dX3_search_78 rfl 4 rfl ?_
              refine z_istore h dX3_search_79 (lv' := [(7, .int x2), (6, .int v8), (5, .int v5), (0, .ref (G.1 6)), (1, .int x1), (2, .int x2), (3, .int x3), (4, .int x4)]) rfl rfl ?_
              exact z_sub [3, 4, 5, 6, 7, 2, 1, 0] rfl (k_X3_search_h81 hrc h hq N x1 x2 x3 x4 v5 _ _ _ _ hf)
            · have hf := it_neg g7 hf
              refine z_aload_n h dX3_search_61 rfl 1 rfl ?_
              refine z_iload_n h dX3_search_62 rfl 2 rfl ?_
              refine z_iconst h (v := (1 : Int32)) dX3_search_63 ic_1 ?_
              refine z_isub h dX3_search_64 ?_
              refine z_iload_n h dX3_search_65 rfl 3 rfl ?_
              refine z_iload_n h dX3_search_66 rfl 4 rfl ?_
              refine z_iload h dX3_search_67 5 rfl ?_
              obtain ⟨v25, σ26, e26, hf⟩ := obd_out hf
              refine z_cV0 h (n := 4) (hrc _ _ _ _ _ _ e26) zC3 tg_6 ln_6 rfl rfl wd_367 wd_368 wd_369 wd_46 wd_370 (by decide +kernel) ⟨rfl, rfl⟩ (ble2 (show (4 + dd) + 1 ≤ 4 + (dd + 1) by omega) (show 8 + (8 + 11) + (140 + 27 * dd) ≤ 140 + 27 * (dd + 1) by omega)) rfl rfl dX3_search_69 ⟨Nat.zero_le _, Nat.zero_le _⟩ ?_
              exact z_vret h (rt_V hf hq) dX3_search_72
          · have hf := it_pos g4 hf
            refine z_aload_n h dX3_search_30 rfl 0 rfl ?_
            refine z_aload_n h dX3_search_31 rfl 0 rfl ?_
            refine z_gfR h zC3 (d := 5) (c := 6) tg_6 ln_6 0 rfl ft_3_0 rf_6_0 wd_65 dX3_search_32 ?_
            refine z_gfRN h zC4 (d := 16) (c := 5) tg_5 ln_5 0 rfl ft_4_0 rf_5_0 (by decide +kernel) dX3_search_35 ?_
            refine z_iload_n h dX3_search_38 rfl 2 rfl ?_
            obtain ⟨g27, hf⟩ := ck_out hf
            refine z_aald h (c := 16) (d := 65 + x2.toNatClampNeg) tg_16 rfl ln_16 rfl g27 dX3_search_39 ?_
            obtain ⟨v28, σ29, e29, hf⟩ := obd_out hf
            refine z_cV0 h (n := 1) (c_X3_keep l G e29) zC3 tg_6 ln_6 rfl rfl wd_371 wd_372 wd_373 wd_46 wd_374 (by decide +kernel) ⟨rfl, rfl⟩ (ble2 (show 1 + 1 ≤ 4 + (dd + 1) by omega) (show 8 + (8 + 11) + 29 ≤ 140 + 27 * (dd + 1) by omega)) rfl rfl dX3_search_40 ⟨Nat.zero_le _, Nat.zero_le _⟩ ?_
            exact z_vret h (rt_V hf hq) dX3_search_43
        · have hf := it_neg g3 hf
          exact z_vret h (rt_V hf hq) dX3_search_24
theorem dX3_find_0 : decode cX3_find 0 = .ok (.aload_n 0, 1) := by decide +kernel
theorem dX3_find_1 : decode cX3_find 1 = .ok (.iconst 0, 1) := by decide +kernel
theorem dX3_find_2 : decode cX3_find 2 = .ok (.putfield 27, 3) := by decide +kernel
theorem dX3_find_5 : decode cX3_find 5 = .ok (.aload_n 0, 1) := by decide +kernel
theorem dX3_find_6 : decode cX3_find 6 = .ok (.getfield 12, 3) := by decide +kernel
theorem dX3_find_9 : decode cX3_find 9 = .ok (.invokevirtual 31, 3) := by decide +kernel
theorem dX3_find_12 : decode cX3_find 12 = .ok (.ifCond .ne 25, 3) := by decide +kernel
theorem dX3_find_15 : decode cX3_find 15 = .ok (.aload_n 0, 1) := by decide +kernel
theorem dX3_find_16 : decode cX3_find 16 = .ok (.aload_n 0, 1) := by decide +kernel
theorem dX3_find_17 : decode cX3_find 17 = .ok (.getfield 12, 3) := by decide +kernel
theorem dX3_find_20 : decode cX3_find 20 = .ok (.getfield 35, 3) := by decide +kernel
theorem dX3_find_23 : decode cX3_find 23 = .ok (.iconst 1, 1) := by decide +kernel
theorem dX3_find_24 : decode cX3_find 24 = .ok (.isub, 1) := by decide +kernel
theorem dX3_find_25 : decode cX3_find 25 = .ok (.iconst 0, 1) := by decide +kernel
theorem dX3_find_26 : decode cX3_find 26 = .ok (.aload_n 0, 1) := by decide +kernel
theorem dX3_find_27 : decode cX3_find 27 = .ok (.getfield 12, 3) := by decide +kernel
theorem dX3_find_30 : decode cX3_find 30 = .ok (.getfield 38, 3) := by decide +kernel
theorem dX3_find_33 : decode cX3_find 33 = .ok (.iconst 0, 1) := by decide +kernel
theorem dX3_find_34 : decode cX3_find 34 = .ok (.invokevirtual 41, 3) := by decide +kernel
theorem dX3_find_37 : decode cX3_find 37 = .ok (.return_, 1) := by decide +kernel
abbrev rm_X3_find : Room := { frames := 25, cells := 0, slots := 0, locals := 715 }
noncomputable def f_X3_find (N : Nat) (σ : ZS) : Option (Unit × ZS) := bd (sI σ 6 3 (0 : Int32)) fun σ1 => obd (f_X4_looseness N σ1) fun v2 σ3 => (if v2 = 0 then obd (f_X3_search N 20 ((gI σ3 5 5) - (1 : Int32)) (0 : Int32) (gI σ3 5 3) (0 : Int32) σ3) fun _ σ6 => some ((), σ6) else some ((), σ3))
set_option maxHeartbeats 4000000 in
set_option maxRecDepth 100000 in
theorem c_X3_find (l : Launch) (G : ZG) {N : Nat} {σ σ' : ZS} {r : Unit} (hf : f_X3_find N σ = some (r, σ')) : zMet l G yX3_find cX3_find 1 none rm_X3_find [.ref (G.1 6)] σ none σ' := by
  refine z_met (by decide +kernel) rfl (fun Y h hq => ?_)
  have h : zOk (l, rm_X3_find, 1, 0, 0) Y G cX3_find RX3 none := h
  rw [f_X3_find] at hf
  refine z_sub (lv' := [(0, .ref (G.1 6))]) [0] rfl ?_
  refine z_aload_n h dX3_find_0 rfl 0 rfl ?_
  refine z_iconst h (v := (0 : Int32)) dX3_find_1 ic_0 ?_
  refine z_pfI h zC3 (c := 6) tg_6 ln_6 3 rfl ft_3_3 wd_362 rfl (ty := .int) (by decide +kernel) rfl rfl dX3_find_2 ?_
  refine z_gen (fun σ1 eσ1 => ?_)
  have hf := bd_to eσ1 hf
  refine z_aload_n h dX3_find_5 rfl 0 rfl ?_
  refine z_gfR h zC3 (d := 5) (c := 6) tg_6 ln_6 0 rfl ft_3_0 rf_6_0 wd_65 dX3_find_6 ?_
  obtain ⟨v2, σ3, e3, hf⟩ := obd_out hf
  refine z_cVv h (n := 0) (c_X4_looseness l G e3) zC4 tg_5 ln_5 rfl rfl wd_363 wd_364 wd_365 wd_64 wd_366 (by decide +kernel) ⟨rfl, rfl⟩ rfl rfl rfl dX3_find_9 ⟨Nat.zero_le _, Nat.zero_le _⟩ ?_
  refine z_if_ne h (tgt := 37) dX3_find_12 (by decide) (fun g4 => ?_) (fun g4 => ?_)
  · have hf := it_neg g4 hf
    exact z_vret h (rt_V hf hq) dX3_find_37
  · have hf := it_pos g4 hf
    refine z_aload_n h dX3_find_15 rfl 0 rfl ?_
    refine z_aload_n h dX3_find_16 rfl 0 rfl ?_
    refine z_gfR h zC3 (d := 5) (c := 6) tg_6 ln_6 0 rfl ft_3_0 rf_6_0 wd_65 dX3_find_17 ?_
    refine z_gfIN h zC4 (c := 5) tg_5 ln_5 5 rfl ft_4_5 (by decide +kernel) dX3_find_20 ?_
    refine z_iconst h (v := (1 : Int32)) dX3_find_23 ic_1 ?_
    refine z_isub h dX3_find_24 ?_
    refine z_iconst h (v := (0 : Int32)) dX3_find_25 ic_0 ?_
    refine z_aload_n h dX3_find_26 rfl 0 rfl ?_
    refine z_gfR h zC3 (d := 5) (c := 6) tg_6 ln_6 0 rfl ft_3_0 rf_6_0 wd_65 dX3_find_27 ?_
    refine z_gfIN h zC4 (c := 5) tg_5 ln_5 3 rfl ft_4_3 (by decide +kernel) dX3_find_30 ?_
    refine z_iconst h (v := (0 : Int32)) dX3_find_33 ic_0 ?_
    obtain ⟨v5, σ6, e6, hf⟩ := obd_out hf
    refine z_cV0 h (n := 4) (c_X3_search l G 20 e6) zC3 tg_6 ln_6 rfl rfl wd_367 wd_368 wd_369 wd_46 wd_370 (by decide +kernel) ⟨rfl, rfl⟩ rfl rfl rfl dX3_find_34 ⟨Nat.zero_le _, Nat.zero_le _⟩ ?_
    exact z_vret h (rt_V hf hq) dX3_find_37
theorem dX3_lowestTwist_0 : decode cX3_lowestTwist 0 = .ok (.aload_n 0, 1) := by decide +kernel
theorem dX3_lowestTwist_1 : decode cX3_lowestTwist 1 = .ok (.getfield 18, 3) := by decide +kernel
theorem dX3_lowestTwist_4 : decode cX3_lowestTwist 4 = .ok (.iload_n 1, 1) := by decide +kernel
theorem dX3_lowestTwist_5 : decode cX3_lowestTwist 5 = .ok (.iaload, 1) := by decide +kernel
theorem dX3_lowestTwist_6 : decode cX3_lowestTwist 6 = .ok (.invokestatic 64, 3) := by decide +kernel
theorem dX3_lowestTwist_9 : decode cX3_lowestTwist 9 = .ok (.istore_n 2, 1) := by decide +kernel
theorem dX3_lowestTwist_10 : decode cX3_lowestTwist 10 = .ok (.iload_n 2, 1) := by decide +kernel
theorem dX3_lowestTwist_11 : decode cX3_lowestTwist 11 = .ok (.aload_n 0, 1) := by decide +kernel
theorem dX3_lowestTwist_12 : decode cX3_lowestTwist 12 = .ok (.getfield 12, 3) := by decide +kernel
theorem dX3_lowestTwist_15 : decode cX3_lowestTwist 15 = .ok (.getfield 35, 3) := by decide +kernel
theorem dX3_lowestTwist_18 : decode cX3_lowestTwist 18 = .ok (.if_icmp .ge 14, 3) := by decide +kernel
theorem dX3_lowestTwist_21 : decode cX3_lowestTwist 21 = .ok (.aload_n 0, 1) := by decide +kernel
theorem dX3_lowestTwist_22 : decode cX3_lowestTwist 22 = .ok (.getfield 24, 3) := by decide +kernel
theorem dX3_lowestTwist_25 : decode cX3_lowestTwist 25 = .ok (.iload_n 1, 1) := by decide +kernel
theorem dX3_lowestTwist_26 : decode cX3_lowestTwist 26 = .ok (.aaload, 1) := by decide +kernel
theorem dX3_lowestTwist_27 : decode cX3_lowestTwist 27 = .ok (.iload_n 2, 1) := by decide +kernel
theorem dX3_lowestTwist_28 : decode cX3_lowestTwist 28 = .ok (.laload, 1) := by decide +kernel
theorem dX3_lowestTwist_29 : decode cX3_lowestTwist 29 = .ok (.goto 4, 3) := by decide +kernel
theorem dX3_lowestTwist_32 : decode cX3_lowestTwist 32 = .ok (.lconst 1, 1) := by decide +kernel
theorem dX3_lowestTwist_33 : decode cX3_lowestTwist 33 = .ok (.lreturn, 1) := by decide +kernel
abbrev rm_X3_lowestTwist : Room := { frames := 1, cells := 0, slots := 0, locals := 29 }
noncomputable def f_X3_lowestTwist (N : Nat) (x1 : Int32) (σ : ZS) : Option (Int64 × ZS) := ck (inb x1 924) (obd (f_J6_numberOfTrailingZeros_0f7a4 N (gI σ 59 (x1.toNatClampNeg)) σ) fun v2 σ3 => (if (gI σ3 5 5) ≤ v2 then some ((1 : Int64), σ3) else ck (inb x1 924) (ck (tg (143 + x1.toNatClampNeg) == 2) (ck (inb v2 (ln (143 + x1.toNatClampNeg))) (some (gJ σ3 (143 + x1.toNatClampNeg) (v2.toNatClampNeg), σ3))))))
set_option maxHeartbeats 4000000 in
set_option maxRecDepth 100000 in
theorem c_X3_lowestTwist (l : Launch) (G : ZG) {N : Nat} {x1 : Int32} {σ σ' : ZS} {r : Int64} (hf : f_X3_lowestTwist N x1 σ = some (r, σ')) : zMet l G yX3_lowestTwist cX3_lowestTwist 3 (some .long) rm_X3_lowestTwist [.ref (G.1 6), .int x1] σ (some (.long r)) σ' := by
  refine z_met (by decide +kernel) rfl (fun Y h hq => ?_)
  have h : zOk (l, rm_X3_lowestTwist, 3, 0, 0) Y G cX3_lowestTwist RX3 (some .long) := h
  rw [f_X3_lowestTwist] at hf
  refine z_sub (lv' := [(0, .ref (G.1 6)), (1, .int x1)]) [0, 1] rfl ?_
  refine z_aload_n h dX3_lowestTwist_0 rfl 0 rfl ?_
  refine z_gfR h zC3 (d := 59) (c := 6) tg_6 ln_6 1 rfl ft_3_1 rf_6_1 wd_66 dX3_lowestTwist_1 ?_
  refine z_iload_n h dX3_lowestTwist_4 rfl 1 rfl ?_
  obtain ⟨g1, hf⟩ := ck_out hf
  refine z_iald h (c := 59) tg_59 ln_59 g1 dX3_lowestTwist_5 ?_
  obtain ⟨v2, σ3, e3, hf⟩ := obd_out hf
  refine z_cSv h (n := 1) (c_J6_numberOfTrailingZeros_0f7a4 l G e3) rfl wd_375 wd_376 wd_377 wd_378 (by decide +kernel) ⟨rfl, rfl⟩ rfl rfl rfl dX3_lowestTwist_6 ⟨Nat.zero_le _, Nat.zero_le _⟩ ?_
  refine z_istore_n h dX3_lowestTwist_9 rfl (lv' := [(2, .int v2), (0, .ref (G.1 6)), (1, .int x1)]) rfl rfl ?_
  refine z_iload_n h dX3_lowestTwist_10 rfl 0 rfl ?_
  refine z_aload_n h dX3_lowestTwist_11 rfl 1 rfl ?_
  refine z_gfR h zC3 (d := 5) (c := 6) tg_6 ln_6 0 rfl ft_3_0 rf_6_0 wd_65 dX3_lowestTwist_12 ?_
  refine z_gfIN h zC4 (c := 5) tg_5 ln_5 5 rfl ft_4_5 (by decide +kernel) dX3_lowestTwist_15 ?_
  refine z_icmp_ge h (tgt := 32) dX3_lowestTwist_18 (by decide) (fun g4 => ?_) (fun g4 => ?_)
  · have hf := it_pos g4 hf
    refine z_lconst h (v := (1 : Int64)) dX3_lowestTwist_32 lc_1 ?_
    exact z_lret h (rt_J hf hq) dX3_lowestTwist_33
  · have hf := it_neg g4 hf
    refine z_aload_n h dX3_lowestTwist_21 rfl 1 rfl ?_
    refine z_gfR h zC3 (d := 18) (c := 6) tg_6 ln_6 2 rfl ft_3_2 rf_6_2 wd_68 dX3_lowestTwist_22 ?_
    refine z_iload_n h dX3_lowestTwist_25 rfl 2 rfl ?_
    obtain ⟨g5, hf⟩ := ck_out hf
    refine z_aald h (c := 18) (d := 143 + x1.toNatClampNeg) tg_18 rfl ln_18 rfl g5 dX3_lowestTwist_26 ?_
    refine z_iload_n h dX3_lowestTwist_27 rfl 0 rfl ?_
    obtain ⟨g6, hf⟩ := ck_out hf
    obtain ⟨g7, hf⟩ := ck_out hf
    refine z_lald h (eq_of_beq g6) rfl g7 dX3_lowestTwist_28 ?_
    refine z_goto h (tgt := 33) dX3_lowestTwist_29 (by decide) ?_
    exact z_lret h (rt_J hf hq) dX3_lowestTwist_33
