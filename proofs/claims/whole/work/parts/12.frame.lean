theorem dX2_copyFrom_0 : decode cX2_copyFrom 0 = .ok (.aload_n 0, 1) := by decide +kernel
theorem dX2_copyFrom_1 : decode cX2_copyFrom 1 = .ok (.aload_n 1, 1) := by decide +kernel
theorem dX2_copyFrom_2 : decode cX2_copyFrom 2 = .ok (.getfield 35, 3) := by decide +kernel
theorem dX2_copyFrom_5 : decode cX2_copyFrom 5 = .ok (.putfield 35, 3) := by decide +kernel
theorem dX2_copyFrom_8 : decode cX2_copyFrom 8 = .ok (.aload_n 0, 1) := by decide +kernel
theorem dX2_copyFrom_9 : decode cX2_copyFrom 9 = .ok (.aload_n 1, 1) := by decide +kernel
theorem dX2_copyFrom_10 : decode cX2_copyFrom 10 = .ok (.getfield 39, 3) := by decide +kernel
theorem dX2_copyFrom_13 : decode cX2_copyFrom 13 = .ok (.putfield 39, 3) := by decide +kernel
theorem dX2_copyFrom_16 : decode cX2_copyFrom 16 = .ok (.aload_n 1, 1) := by decide +kernel
theorem dX2_copyFrom_17 : decode cX2_copyFrom 17 = .ok (.getfield 9, 3) := by decide +kernel
theorem dX2_copyFrom_20 : decode cX2_copyFrom 20 = .ok (.iconst 0, 1) := by decide +kernel
theorem dX2_copyFrom_21 : decode cX2_copyFrom 21 = .ok (.aload_n 0, 1) := by decide +kernel
theorem dX2_copyFrom_22 : decode cX2_copyFrom 22 = .ok (.getfield 9, 3) := by decide +kernel
theorem dX2_copyFrom_25 : decode cX2_copyFrom 25 = .ok (.iconst 0, 1) := by decide +kernel
theorem dX2_copyFrom_26 : decode cX2_copyFrom 26 = .ok (.bipush 7, 2) := by decide +kernel
theorem dX2_copyFrom_28 : decode cX2_copyFrom 28 = .ok (.invokestatic 42, 3) := by decide +kernel
theorem dX2_copyFrom_31 : decode cX2_copyFrom 31 = .ok (.aload_n 1, 1) := by decide +kernel
theorem dX2_copyFrom_32 : decode cX2_copyFrom 32 = .ok (.getfield 15, 3) := by decide +kernel
theorem dX2_copyFrom_35 : decode cX2_copyFrom 35 = .ok (.iconst 0, 1) := by decide +kernel
theorem dX2_copyFrom_36 : decode cX2_copyFrom 36 = .ok (.aload_n 0, 1) := by decide +kernel
theorem dX2_copyFrom_37 : decode cX2_copyFrom 37 = .ok (.getfield 15, 3) := by decide +kernel
theorem dX2_copyFrom_40 : decode cX2_copyFrom 40 = .ok (.iconst 0, 1) := by decide +kernel
theorem dX2_copyFrom_41 : decode cX2_copyFrom 41 = .ok (.bipush 7, 2) := by decide +kernel
theorem dX2_copyFrom_43 : decode cX2_copyFrom 43 = .ok (.invokestatic 42, 3) := by decide +kernel
theorem dX2_copyFrom_46 : decode cX2_copyFrom 46 = .ok (.aload_n 1, 1) := by decide +kernel
theorem dX2_copyFrom_47 : decode cX2_copyFrom 47 = .ok (.getfield 18, 3) := by decide +kernel
theorem dX2_copyFrom_50 : decode cX2_copyFrom 50 = .ok (.iconst 0, 1) := by decide +kernel
theorem dX2_copyFrom_51 : decode cX2_copyFrom 51 = .ok (.aload_n 0, 1) := by decide +kernel
theorem dX2_copyFrom_52 : decode cX2_copyFrom 52 = .ok (.getfield 18, 3) := by decide +kernel
theorem dX2_copyFrom_55 : decode cX2_copyFrom 55 = .ok (.iconst 0, 1) := by decide +kernel
theorem dX2_copyFrom_56 : decode cX2_copyFrom 56 = .ok (.bipush 7, 2) := by decide +kernel
theorem dX2_copyFrom_58 : decode cX2_copyFrom 58 = .ok (.invokestatic 42, 3) := by decide +kernel
theorem dX2_copyFrom_61 : decode cX2_copyFrom 61 = .ok (.aload_n 1, 1) := by decide +kernel
theorem dX2_copyFrom_62 : decode cX2_copyFrom 62 = .ok (.getfield 21, 3) := by decide +kernel
theorem dX2_copyFrom_65 : decode cX2_copyFrom 65 = .ok (.iconst 0, 1) := by decide +kernel
theorem dX2_copyFrom_66 : decode cX2_copyFrom 66 = .ok (.aload_n 0, 1) := by decide +kernel
theorem dX2_copyFrom_67 : decode cX2_copyFrom 67 = .ok (.getfield 21, 3) := by decide +kernel
theorem dX2_copyFrom_70 : decode cX2_copyFrom 70 = .ok (.iconst 0, 1) := by decide +kernel
theorem dX2_copyFrom_71 : decode cX2_copyFrom 71 = .ok (.bipush 6, 2) := by decide +kernel
theorem dX2_copyFrom_73 : decode cX2_copyFrom 73 = .ok (.invokestatic 42, 3) := by decide +kernel
theorem dX2_copyFrom_76 : decode cX2_copyFrom 76 = .ok (.aload_n 1, 1) := by decide +kernel
theorem dX2_copyFrom_77 : decode cX2_copyFrom 77 = .ok (.getfield 24, 3) := by decide +kernel
theorem dX2_copyFrom_80 : decode cX2_copyFrom 80 = .ok (.iconst 0, 1) := by decide +kernel
theorem dX2_copyFrom_81 : decode cX2_copyFrom 81 = .ok (.aload_n 0, 1) := by decide +kernel
theorem dX2_copyFrom_82 : decode cX2_copyFrom 82 = .ok (.getfield 24, 3) := by decide +kernel
theorem dX2_copyFrom_85 : decode cX2_copyFrom 85 = .ok (.iconst 0, 1) := by decide +kernel
theorem dX2_copyFrom_86 : decode cX2_copyFrom 86 = .ok (.bipush 6, 2) := by decide +kernel
theorem dX2_copyFrom_88 : decode cX2_copyFrom 88 = .ok (.invokestatic 42, 3) := by decide +kernel
theorem dX2_copyFrom_91 : decode cX2_copyFrom 91 = .ok (.aload_n 1, 1) := by decide +kernel
theorem dX2_copyFrom_92 : decode cX2_copyFrom 92 = .ok (.getfield 27, 3) := by decide +kernel
theorem dX2_copyFrom_95 : decode cX2_copyFrom 95 = .ok (.iconst 0, 1) := by decide +kernel
theorem dX2_copyFrom_96 : decode cX2_copyFrom 96 = .ok (.aload_n 0, 1) := by decide +kernel
theorem dX2_copyFrom_97 : decode cX2_copyFrom 97 = .ok (.getfield 27, 3) := by decide +kernel
theorem dX2_copyFrom_100 : decode cX2_copyFrom 100 = .ok (.iconst 0, 1) := by decide +kernel
theorem dX2_copyFrom_101 : decode cX2_copyFrom 101 = .ok (.bipush 6, 2) := by decide +kernel
theorem dX2_copyFrom_103 : decode cX2_copyFrom 103 = .ok (.invokestatic 42, 3) := by decide +kernel
theorem dX2_copyFrom_106 : decode cX2_copyFrom 106 = .ok (.iconst 0, 1) := by decide +kernel
theorem dX2_copyFrom_107 : decode cX2_copyFrom 107 = .ok (.istore_n 2, 1) := by decide +kernel
theorem dX2_copyFrom_108 : decode cX2_copyFrom 108 = .ok (.iload_n 2, 1) := by decide +kernel
theorem dX2_copyFrom_109 : decode cX2_copyFrom 109 = .ok (.bipush 6, 2) := by decide +kernel
theorem dX2_copyFrom_111 : decode cX2_copyFrom 111 = .ok (.if_icmp .ge 28, 3) := by decide +kernel
theorem dX2_copyFrom_114 : decode cX2_copyFrom 114 = .ok (.aload_n 1, 1) := by decide +kernel
theorem dX2_copyFrom_115 : decode cX2_copyFrom 115 = .ok (.getfield 32, 3) := by decide +kernel
theorem dX2_copyFrom_118 : decode cX2_copyFrom 118 = .ok (.iload_n 2, 1) := by decide +kernel
theorem dX2_copyFrom_119 : decode cX2_copyFrom 119 = .ok (.aaload, 1) := by decide +kernel
theorem dX2_copyFrom_120 : decode cX2_copyFrom 120 = .ok (.iconst 0, 1) := by decide +kernel
theorem dX2_copyFrom_121 : decode cX2_copyFrom 121 = .ok (.aload_n 0, 1) := by decide +kernel
theorem dX2_copyFrom_122 : decode cX2_copyFrom 122 = .ok (.getfield 32, 3) := by decide +kernel
theorem dX2_copyFrom_125 : decode cX2_copyFrom 125 = .ok (.iload_n 2, 1) := by decide +kernel
theorem dX2_copyFrom_126 : decode cX2_copyFrom 126 = .ok (.aaload, 1) := by decide +kernel
theorem dX2_copyFrom_127 : decode cX2_copyFrom 127 = .ok (.iconst 0, 1) := by decide +kernel
theorem dX2_copyFrom_128 : decode cX2_copyFrom 128 = .ok (.bipush 7, 2) := by decide +kernel
theorem dX2_copyFrom_130 : decode cX2_copyFrom 130 = .ok (.invokestatic 42, 3) := by decide +kernel
theorem dX2_copyFrom_133 : decode cX2_copyFrom 133 = .ok (.iinc 2 1, 3) := by decide +kernel
theorem dX2_copyFrom_136 : decode cX2_copyFrom 136 = .ok (.goto (-28), 3) := by decide +kernel
theorem dX2_copyFrom_139 : decode cX2_copyFrom 139 = .ok (.return_, 1) := by decide +kernel
abbrev rm_X2_copyFrom : Room := { frames := 2, cells := 0, slots := 0, locals := 64 }
noncomputable def f_X2_copyFrom_h108 (N : Nat) (a0 : Nat) (a1 : Nat) : Nat → Int32 → ZS → Option (Unit × ZS)
  | 0, _, _ => none
  | n + 1, x2, σ => (if (6 : Int32) ≤ x2 then some ((), σ) else ck (isc a1 2) (ck (isr (rf a1 8)) (ck (inb x2 (ln (rf a1 8))) (ck (isc a0 2) (ck (isr (rf a0 8)) (ck (inb x2 (ln (rf a0 8))) (ck (tg (rr (rf a1 8) x2.toNatClampNeg) == 1) (ck (tg (rr (rf a0 8) x2.toNatClampNeg) == 1) (ck (cpg (0 : Int32) (0 : Int32) (7 : Int32) (ln (rr (rf a1 8) x2.toNatClampNeg)) (ln (rr (rf a0 8) x2.toNatClampNeg))) (bd (cpI σ (rr (rf a1 8) x2.toNatClampNeg) (rr (rf a0 8) x2.toNatClampNeg) ((0 : Int32).toNatClampNeg) ((0 : Int32).toNatClampNeg) ((7 : Int32).toNatClampNeg)) fun σ55 => bd (x2 + (1 : Int32)) fun v56 => f_X2_copyFrom_h108 N a0 a1 n v56 σ55))))))))))
noncomputable def f_X2_copyFrom (N : Nat) (a0 : Nat) (a1 : Nat) (σ : ZS) : Option (Unit × ZS) := ck (isc a1 2) (bd (gI σ a1 0) fun v2 => ck (isc a0 2) (bd (sI σ a0 0 v2) fun σ4 => ck (isc a1 2) (bd (gI σ4 a1 1) fun v6 => ck (isc a0 2) (bd (sI σ4 a0 1 v6) fun σ8 => ck (isc a1 2) (ck (isc a0 2) (ck (tg (rf a1 2) == 1) (ck (tg (rf a0 2) == 1) (ck (cpg (0 : Int32) (0 : Int32) (7 : Int32) (ln (rf a1 2)) (ln (rf a0 2))) (bd (cpI σ8 (rf a1 2) (rf a0 2) ((0 : Int32).toNatClampNeg) ((0 : Int32).toNatClampNeg) ((7 : Int32).toNatClampNeg)) fun σ14 => ck (isc a1 2) (ck (isc a0 2) (ck (tg (rf a1 3) == 1) (ck (tg (rf a0 3) == 1) (ck (cpg (0 : Int32) (0 : Int32) (7 : Int32) (ln (rf a1 3)) (ln (rf a0 3))) (bd (cpI σ14 (rf a1 3) (rf a0 3) ((0 : Int32).toNatClampNeg) ((0 : Int32).toNatClampNeg) ((7 : Int32).toNatClampNeg)) fun σ20 => ck (isc a1 2) (ck (isc a0 2) (ck (tg (rf a1 4) == 1) (ck (tg (rf a0 4) == 1) (ck (cpg (0 : Int32) (0 : Int32) (7 : Int32) (ln (rf a1 4)) (ln (rf a0 4))) (bd (cpI σ20 (rf a1 4) (rf a0 4) ((0 : Int32).toNatClampNeg) ((0 : Int32).toNatClampNeg) ((7 : Int32).toNatClampNeg)) fun σ26 => ck (isc a1 2) (ck (isc a0 2) (ck (tg (rf a1 5) == 1) (ck (tg (rf a0 5) == 1) (ck (cpg (0 : Int32) (0 : Int32) (6 : Int32) (ln (rf a1 5)) (ln (rf a0 5))) (bd (cpI σ26 (rf a1 5) (rf a0 5) ((0 : Int32).toNatClampNeg) ((0 : Int32).toNatClampNeg) ((6 : Int32).toNatClampNeg)) fun σ32 => ck (isc a1 2) (ck (isc a0 2) (ck (tg (rf a1 6) == 1) (ck (tg (rf a0 6) == 1) (ck (cpg (0 : Int32) (0 : Int32) (6 : Int32) (ln (rf a1 6)) (ln (rf a0 6))) (bd (cpI σ32 (rf a1 6) (rf a0 6) ((0 : Int32).toNatClampNeg) ((0 : Int32).toNatClampNeg) ((6 : Int32).toNatClampNeg)) fun σ38 => ck (isc a1 2) (ck (isc a0 2) (ck (tg (rf a1 7) == 1) (ck (tg (rf a0 7) == 1) (ck (cpg (0 : Int32) (0 : Int32) (6 : Int32) (ln (rf a1 7)) (ln (rf a0 7))) (bd (cpI σ38 (rf a1 7) (rf a0 7) ((0 : Int32).toNatClampNeg) ((0 : Int32).toNatClampNeg) ((6 : Int32).toNatClampNeg)) fun σ44 => f_X2_copyFrom_h108 N a0 a1 N (0 : Int32) σ44))))))))))))))))))))))))))))))))))
set_option maxHeartbeats 4000000 in
set_option maxRecDepth 100000 in
theorem k_X2_copyFrom_h108 {l : Launch} {Y : ZY} {G : ZG} {σ' : ZS} (h : zOk (l, rm_X2_copyFrom, 3, 0, 0) Y G cX2_copyFrom RX2 none) (hq : zRet (l, rm_X2_copyFrom, 3, 0, 0) Y G none σ') (N : Nat) (a0 : Nat) (a1 : Nat) : ∀ (n : Nat) (x2 : Int32) (σ : ZS), f_X2_copyFrom_h108 N a0 a1 n x2 σ = some ((), σ') → Z (l, rm_X2_copyFrom, 3, 0, 0) Y G σ [(0, .ref (G.1 a0)), (1, .ref (G.1 a1)), (2, .int x2)] [] 108 := by
  intro n
  induction n with
  | zero =>
    intro x2 σ hf
    rw [f_X2_copyFrom_h108] at hf
    cases hf
  | succ n ih =>
    intro x2 σ hf
    rw [f_X2_copyFrom_h108] at hf
    refine z_iload_n h dX2_copyFrom_108 rfl 2 rfl ?_
    refine z_bipush h (v := (6 : Int32)) dX2_copyFrom_109 bp_6 ?_
    refine z_icmp_ge h (tgt := 139) dX2_copyFrom_111 (by decide) (fun g45 => ?_) (fun g45 => ?_)
    · have hf := it_pos g45 hf
      exact z_vret h (rt_V hf hq) dX2_copyFrom_139
    · have hf := it_neg g45 hf
      refine z_aload_n h dX2_copyFrom_114 rfl 1 rfl ?_
      obtain ⟨g46, hf⟩ := ck_out hf
      refine z_gfR h zC2 (d := rf a1 8) (isc_tg g46) (isc_ln g46) 8 rfl ft_2_8 rfl wd_39 dX2_copyFrom_115 ?_
      refine z_iload_n h dX2_copyFrom_118 rfl 2 rfl ?_
      obtain ⟨g47, hf⟩ := ck_out hf
      obtain ⟨g48, hf⟩ := ck_out hf
      refine z_aald h (d := rr (rf a1 8) x2.toNatClampNeg) rfl (isr_of g47) rfl rfl g48 dX2_copyFrom_119 ?_
      refine z_iconst h (v := (0 : Int32)) dX2_copyFrom_120 ic_0 ?_
      refine z_aload_n h dX2_copyFrom_121 rfl 0 rfl ?_
      obtain ⟨g49, hf⟩ := ck_out hf
      refine z_gfR h zC2 (d := rf a0 8) (isc_tg g49) (isc_ln g49) 8 rfl ft_2_8 rfl wd_39 dX2_copyFrom_122 ?_
      refine z_iload_n h dX2_copyFrom_125 rfl 2 rfl ?_
      obtain ⟨g50, hf⟩ := ck_out hf
      obtain ⟨g51, hf⟩ := ck_out hf
      refine z_aald h (d := rr (rf a0 8) x2.toNatClampNeg) rfl (isr_of g50) rfl rfl g51 dX2_copyFrom_126 ?_
      refine z_iconst h (v := (0 : Int32)) dX2_copyFrom_127 ic_0 ?_
      refine z_bipush h (v := (7 : Int32)) dX2_copyFrom_128 bp_7 ?_
      obtain ⟨g52, hf⟩ := ck_out hf
      obtain ⟨g53, hf⟩ := ck_out hf
      obtain ⟨g54, hf⟩ := ck_out hf
      refine z_cpy h (eq_of_beq g52) (eq_of_beq g53) g54 wd_859 wd_393 wd_394 wd_395 rfl rfl dX2_copyFrom_130 ?_
      refine z_gen (fun σ55 eσ55 => ?_)
      have hf := bd_to eσ55 hf
      obtain ⟨v56, ev56, hf⟩ := bd_ex hf
      refine z_iinc h (v := v56) (lv' := [(2, .int v56), (0, .ref (G.1 a0)), (1, .ref (G.1 a1))]) dX2_copyFrom_133 2 rfl (by rw [ev56]; rfl) rfl rfl ?_
      refine z_goto h (tgt := 108) dX2_copyFrom_136 (by decide) ?_
      exact z_sub [1, 2, 0] rfl (ih _ _ hf)
set_option maxHeartbeats 4000000 in
set_option maxRecDepth 100000 in
theorem c_X2_copyFrom (l : Launch) (G : ZG) {N : Nat} {a0 : Nat} {a1 : Nat} {σ σ' : ZS} {r : Unit} (hf : f_X2_copyFrom N a0 a1 σ = some (r, σ')) : zMet l G yX2_copyFrom cX2_copyFrom 3 none rm_X2_copyFrom [.ref (G.1 a0), .ref (G.1 a1)] σ none σ' := by
  refine z_met (by decide +kernel) rfl (fun Y h hq => ?_)
  have h : zOk (l, rm_X2_copyFrom, 3, 0, 0) Y G cX2_copyFrom RX2 none := h
  rw [f_X2_copyFrom] at hf
  refine z_sub (lv' := [(0, .ref (G.1 a0)), (1, .ref (G.1 a1))]) [0, 1] rfl ?_
  refine z_aload_n h dX2_copyFrom_0 rfl 0 rfl ?_
  refine z_aload_n h dX2_copyFrom_1 rfl 1 rfl ?_
  obtain ⟨g1, hf⟩ := ck_out hf
  refine z_gfI h zC2 (isc_tg g1) (isc_ln g1) 0 rfl ft_2_0 wd_140 dX2_copyFrom_2 ?_
  refine z_topI (fun v2 ev2 => ?_)
  have hf := bd_to ev2 hf
  obtain ⟨g3, hf⟩ := ck_out hf
  refine z_pfI h zC2 (isc_tg g3) (isc_ln g3) 0 rfl ft_2_0 wd_140 rfl (ty := .int) (by decide +kernel) rfl rfl dX2_copyFrom_5 ?_
  refine z_gen (fun σ4 eσ4 => ?_)
  have hf := bd_to eσ4 hf
  refine z_aload_n h dX2_copyFrom_8 rfl 0 rfl ?_
  refine z_aload_n h dX2_copyFrom_9 rfl 1 rfl ?_
  obtain ⟨g5, hf⟩ := ck_out hf
  refine z_gfI h zC2 (isc_tg g5) (isc_ln g5) 1 rfl ft_2_1 wd_191 dX2_copyFrom_10 ?_
  refine z_topI (fun v6 ev6 => ?_)
  have hf := bd_to ev6 hf
  obtain ⟨g7, hf⟩ := ck_out hf
  refine z_pfI h zC2 (isc_tg g7) (isc_ln g7) 1 rfl ft_2_1 wd_191 rfl (ty := .int) (by decide +kernel) rfl rfl dX2_copyFrom_13 ?_
  refine z_gen (fun σ8 eσ8 => ?_)
  have hf := bd_to eσ8 hf
  refine z_aload_n h dX2_copyFrom_16 rfl 1 rfl ?_
  obtain ⟨g9, hf⟩ := ck_out hf
  refine z_gfR h zC2 (d := rf a1 2) (isc_tg g9) (isc_ln g9) 2 rfl ft_2_2 rfl wd_32 dX2_copyFrom_17 ?_
  refine z_iconst h (v := (0 : Int32)) dX2_copyFrom_20 ic_0 ?_
  refine z_aload_n h dX2_copyFrom_21 rfl 0 rfl ?_
  obtain ⟨g10, hf⟩ := ck_out hf
  refine z_gfR h zC2 (d := rf a0 2) (isc_tg g10) (isc_ln g10) 2 rfl ft_2_2 rfl wd_32 dX2_copyFrom_22 ?_
  refine z_iconst h (v := (0 : Int32)) dX2_copyFrom_25 ic_0 ?_
  refine z_bipush h (v := (7 : Int32)) dX2_copyFrom_26 bp_7 ?_
  obtain ⟨g11, hf⟩ := ck_out hf
  obtain ⟨g12, hf⟩ := ck_out hf
  obtain ⟨g13, hf⟩ := ck_out hf
  refine z_cpy h (eq_of_beq g11) (eq_of_beq g12) g13 wd_859 wd_393 wd_394 wd_395 rfl rfl dX2_copyFrom_28 ?_
  refine z_gen (fun σ14 eσ14 => ?_)
  have hf := bd_to eσ14 hf
  refine z_aload_n h dX2_copyFrom_31 rfl 1 rfl ?_
  obtain ⟨g15, hf⟩ := ck_out hf
  refine z_gfR h zC2 (d := rf a1 3) (isc_tg g15) (isc_ln g15) 3 rfl ft_2_3 rfl wd_33 dX2_copyFrom_32 ?_
  refine z_iconst h (v := (0 : Int32)) dX2_copyFrom_35 ic_0 ?_
  refine z_aload_n h dX2_copyFrom_36 rfl 0 rfl ?_
  obtain ⟨g16, hf⟩ := ck_out hf
  refine z_gfR h zC2 (d := rf a0 3) (isc_tg g16) (isc_ln g16) 3 rfl ft_2_3 rfl wd_33 dX2_copyFrom_37 ?_
  refine z_iconst h (v := (0 : Int32)) dX2_copyFrom_40 ic_0 ?_
  refine z_bipush h (v := (7 : Int32)) dX2_copyFrom_41 bp_7 ?_
  obtain ⟨g17, hf⟩ := ck_out hf
  obtain ⟨g18, hf⟩ := ck_out hf
  obtain ⟨g19, hf⟩ := ck_out hf
  refine z_cpy h (eq_of_beq g17) (eq_of_beq g18) g19 wd_859 wd_393 wd_394 wd_395 rfl rfl dX2_copyFrom_43 ?_
  refine z_gen (fun σ20 eσ20 => ?_)
  have hf := bd_to eσ20 hf
  refine z_aload_n h dX2_copyFrom_46 rfl 1 rfl ?_
  obtain ⟨g21, hf⟩ := ck_out hf
  refine z_gfR h zC2 (d := rf a1 4) (isc_tg g21) (isc_ln g21) 4 rfl ft_2_4 rfl wd_34 dX2_copyFrom_47 ?_
  refine z_iconst h (v := (0 : Int32)) dX2_copyFrom_50 ic_0 ?_
  refine z_aload_n h dX2_copyFrom_51 rfl 0 rfl ?_
  obtain ⟨g22, hf⟩ := ck_out hf
  refine z_gfR h zC2 (d := rf a0 4) (isc_tg g22) (isc_ln g22) 4 rfl ft_2_4 rfl wd_34 dX2_copyFrom_52 ?_
  refine z_iconst h (v := (0 : Int32)) dX2_copyFrom_55 ic_0 ?_
  refine z_bipush h (v := (7 : Int32)) dX2_copyFrom_56 bp_7 ?_
  obtain ⟨g23, hf⟩ := ck_out hf
  obtain ⟨g24, hf⟩ := ck_out hf
  obtain ⟨g25, hf⟩ := ck_out hf
  refine z_cpy h (eq_of_beq g23) (eq_of_beq g24) g25 wd_859 wd_393 wd_394 wd_395 rfl rfl dX2_copyFrom_58 ?_
  refine z_gen (fun σ26 eσ26 => ?_)
  have hf := bd_to eσ26 hf
  refine z_aload_n h dX2_copyFrom_61 rfl 1 rfl ?_
  obtain ⟨g27, hf⟩ := ck_out hf
  refine z_gfR h zC2 (d := rf a1 5) (isc_tg g27) (isc_ln g27) 5 rfl ft_2_5 rfl wd_35 dX2_copyFrom_62 ?_
  refine z_iconst h (v := (0 : Int32)) dX2_copyFrom_65 ic_0 ?_
  refine z_aload_n h dX2_copyFrom_66 rfl 0 rfl ?_
  obtain ⟨g28, hf⟩ := ck_out hf
  refine z_gfR h zC2 (d := rf a0 5) (isc_tg g28) (isc_ln g28) 5 rfl ft_2_5 rfl wd_35 dX2_copyFrom_67 ?_
  refine z_iconst h (v := (0 : Int32)) dX2_copyFrom_70 ic_0 ?_
  refine z_bipush h (v := (6 : Int32)) dX2_copyFrom_71 bp_6 ?_
  obtain ⟨g29, hf⟩ := ck_out hf
  obtain ⟨g30, hf⟩ := ck_out hf
  obtain ⟨g31, hf⟩ := ck_out hf
  refine z_cpy h (eq_of_beq g29) (eq_of_beq g30) g31 wd_859 wd_393 wd_394 wd_395 rfl rfl dX2_copyFrom_73 ?_
  refine z_gen (fun σ32 eσ32 => ?_)
  have hf := bd_to eσ32 hf
  refine z_aload_n h dX2_copyFrom_76 rfl 1 rfl ?_
  obtain ⟨g33, hf⟩ := ck_out hf
  refine z_gfR h zC2 (d := rf a1 6) (isc_tg g33) (isc_ln g33) 6 rfl ft_2_6 rfl wd_36 dX2_copyFrom_77 ?_
  refine z_iconst h (v := (0 : Int32)) dX2_copyFrom_80 ic_0 ?_
  refine z_aload_n h dX2_copyFrom_81 rfl 0 rfl ?_
  obtain ⟨g34, hf⟩ := ck_out hf
  refine z_gfR h zC2 (d := rf a0 6) (isc_tg g34) (isc_ln g34) 6 rfl ft_2_6 rfl wd_36 dX2_copyFrom_82 ?_
  refine z_iconst h (v := (0 : Int32)) dX2_copyFrom_85 ic_0 ?_
  refine z_bipush h (v := (6 : Int32)) dX2_copyFrom_86 bp_6 ?_
  obtain ⟨g35, hf⟩ := ck_out hf
  obtain ⟨g36, hf⟩ := ck_out hf
  obtain ⟨g37, hf⟩ := ck_out hf
  refine z_cpy h (eq_of_beq g35) (eq_of_beq g36) g37 wd_859 wd_393 wd_394 wd_395 rfl rfl dX2_copyFrom_88 ?_
  refine z_gen (fun σ38 eσ38 => ?_)
  have hf := bd_to eσ38 hf
  refine z_aload_n h dX2_copyFrom_91 rfl 1 rfl ?_
  obtain ⟨g39, hf⟩ := ck_out hf
  refine z_gfR h zC2 (d := rf a1 7) (isc_tg g39) (isc_ln g39) 7 rfl ft_2_7 rfl wd_37 dX2_copyFrom_92 ?_
  refine z_iconst h (v := (0 : Int32)) dX2_copyFrom_95 ic_0 ?_
  refine z_aload_n h dX2_copyFrom_96 rfl 0 rfl ?_
  obtain ⟨g40, hf⟩ := ck_out hf
  refine z_gfR h zC2 (d := rf a0 7) (isc_tg g40) (isc_ln g40) 7 rfl ft_2_7 rfl wd_37 dX2_copyFrom_97 ?_
  refine z_iconst h (v := (0 : Int32)) dX2_copyFrom_100 ic_0 ?_
  refine z_bipush h (v := (6 : Int32)) dX2_copyFrom_101 bp_6 ?_
  obtain ⟨g41, hf⟩ := ck_out hf
  obtain ⟨g42, hf⟩ := ck_out hf
  obtain ⟨g43, hf⟩ := ck_out hf
  refine z_cpy h (eq_of_beq g41) (eq_of_beq g42) g43 wd_859 wd_393 wd_394 wd_395 rfl rfl dX2_copyFrom_103 ?_
  refine z_gen (fun σ44 eσ44 => ?_)
  have hf := bd_to eσ44 hf
  refine z_iconst h (v := (0 : Int32)) dX2_copyFrom_106 ic_0 ?_
  refine z_istore_n h dX2_copyFrom_107 rfl (lv' := [(2, .int (0 : Int32)), (0, .ref (G.1 a0)), (1, .ref (G.1 a1))]) rfl rfl ?_
  exact z_sub [1, 2, 0] rfl (k_X2_copyFrom_h108 h hq N a0 a1 _ _ _ hf)
theorem dX2_nodeAt_0 : decode cX2_nodeAt 0 = .ok (.iconst 0, 1) := by decide +kernel
theorem dX2_nodeAt_1 : decode cX2_nodeAt 1 = .ok (.istore_n 3, 1) := by decide +kernel
theorem dX2_nodeAt_2 : decode cX2_nodeAt 2 = .ok (.iload_n 3, 1) := by decide +kernel
theorem dX2_nodeAt_3 : decode cX2_nodeAt 3 = .ok (.aload_n 0, 1) := by decide +kernel
theorem dX2_nodeAt_4 : decode cX2_nodeAt 4 = .ok (.getfield 35, 3) := by decide +kernel
theorem dX2_nodeAt_7 : decode cX2_nodeAt 7 = .ok (.if_icmp .ge 31, 3) := by decide +kernel
theorem dX2_nodeAt_10 : decode cX2_nodeAt 10 = .ok (.aload_n 0, 1) := by decide +kernel
theorem dX2_nodeAt_11 : decode cX2_nodeAt 11 = .ok (.getfield 9, 3) := by decide +kernel
theorem dX2_nodeAt_14 : decode cX2_nodeAt 14 = .ok (.iload_n 3, 1) := by decide +kernel
theorem dX2_nodeAt_15 : decode cX2_nodeAt 15 = .ok (.iaload, 1) := by decide +kernel
theorem dX2_nodeAt_16 : decode cX2_nodeAt 16 = .ok (.iload_n 1, 1) := by decide +kernel
theorem dX2_nodeAt_17 : decode cX2_nodeAt 17 = .ok (.if_icmp .ne 15, 3) := by decide +kernel
theorem dX2_nodeAt_20 : decode cX2_nodeAt 20 = .ok (.aload_n 0, 1) := by decide +kernel
theorem dX2_nodeAt_21 : decode cX2_nodeAt 21 = .ok (.getfield 15, 3) := by decide +kernel
theorem dX2_nodeAt_24 : decode cX2_nodeAt 24 = .ok (.iload_n 3, 1) := by decide +kernel
theorem dX2_nodeAt_25 : decode cX2_nodeAt 25 = .ok (.iaload, 1) := by decide +kernel
theorem dX2_nodeAt_26 : decode cX2_nodeAt 26 = .ok (.iload_n 2, 1) := by decide +kernel
theorem dX2_nodeAt_27 : decode cX2_nodeAt 27 = .ok (.if_icmp .ne 5, 3) := by decide +kernel
theorem dX2_nodeAt_30 : decode cX2_nodeAt 30 = .ok (.iconst 1, 1) := by decide +kernel
theorem dX2_nodeAt_31 : decode cX2_nodeAt 31 = .ok (.ireturn, 1) := by decide +kernel
theorem dX2_nodeAt_32 : decode cX2_nodeAt 32 = .ok (.iinc 3 1, 3) := by decide +kernel
theorem dX2_nodeAt_35 : decode cX2_nodeAt 35 = .ok (.goto (-33), 3) := by decide +kernel
theorem dX2_nodeAt_38 : decode cX2_nodeAt 38 = .ok (.iconst 0, 1) := by decide +kernel
theorem dX2_nodeAt_39 : decode cX2_nodeAt 39 = .ok (.ireturn, 1) := by decide +kernel
abbrev rm_X2_nodeAt : Room := { frames := 0, cells := 0, slots := 0, locals := 0 }
noncomputable def f_X2_nodeAt_b32 (N : Nat) (kb2 : Int32 → ZS → Option (Int32 × ZS)) (x1 : Int32) (x2 : Int32) (x3 : Int32) (σ : ZS) : Option (Int32 × ZS) := bd (x3 + (1 : Int32)) fun v4 => kb2 v4 σ
noncomputable def f_X2_nodeAt_h2 (N : Nat) (x1 : Int32) (x2 : Int32) : Nat → Int32 → ZS → Option (Int32 × ZS)
  | 0, _, _ => none
  | n + 1, x3, σ => (if (gI σ 2 0) ≤ x3 then some ((0 : Int32), σ) else ck (inb x3 7) ((if (gI σ 20 (x3.toNatClampNeg)) = x1 then ck (inb x3 7) ((if (gI σ 21 (x3.toNatClampNeg)) = x2 then some ((1 : Int32), σ) else f_X2_nodeAt_b32 N (fun x3_ σ_ => f_X2_nodeAt_h2 N x1 x2 n x3_ σ_) x1 x2 x3 σ)) else f_X2_nodeAt_b32 N (fun x3_ σ_ => f_X2_nodeAt_h2 N x1 x2 n x3_ σ_) x1 x2 x3 σ)))
noncomputable def f_X2_nodeAt (N : Nat) (x1 : Int32) (x2 : Int32) (σ : ZS) : Option (Int32 × ZS) := f_X2_nodeAt_h2 N x1 x2 N (0 : Int32) σ
set_option maxHeartbeats 4000000 in
set_option maxRecDepth 100000 in
theorem k_X2_nodeAt_b32 {l : Launch} {Y : ZY} {G : ZG} {r : Int32} {σ' : ZS} (h : zOk (l, rm_X2_nodeAt, 4, 0, 0) Y G cX2_nodeAt RX2 (some .boolean)) (hq : zRet (l, rm_X2_nodeAt, 4, 0, 0) Y G (some (.int r)) σ') (N : Nat) {kb2 : Int32 → ZS → Option (Int32 × ZS)} (x1 : Int32) (x2 : Int32) (x3 : Int32) (hb2 : ∀ (x3_ : Int32) (σ_ : ZS), kb2 x3_ σ_ = some (r, σ') → Z (l, rm_X2_nodeAt, 4, 0, 0) Y G σ_ [(0, .ref (G.1 2)), (1, .int x1), (2, .int x2), (3, .int x3_)] [] 2) (σ : ZS) (hf : f_X2_nodeAt_b32 N kb2 x1 x2 x3 σ = some (r, σ')) : Z (l, rm_X2_nodeAt, 4, 0, 0) Y G σ [(0, .ref (G.1 2)), (1, .int x1), (2, .int x2), (3, .int x3)] [] 32 := by
  rw [f_X2_nodeAt_b32] at hf
  obtain ⟨v4, ev4, hf⟩ := bd_ex hf
  refine z_iinc h (v := v4) (lv' := [(3, .int v4), (0, .ref (G.1 2)), (1, .int x1), (2, .int x2)]) dX2_nodeAt_32 3 rfl (by rw [ev4]; rfl) rfl rfl ?_
  refine z_goto h (tgt := 2) dX2_nodeAt_35 (by decide) ?_
  exact z_sub [1, 2, 3, 0] rfl (hb2 _ _ hf)
set_option maxHeartbeats 4000000 in
set_option maxRecDepth 100000 in
theorem k_X2_nodeAt_h2 {l : Launch} {Y : ZY} {G : ZG} {r : Int32} {σ' : ZS} (h : zOk (l, rm_X2_nodeAt, 4, 0, 0) Y G cX2_nodeAt RX2 (some .boolean)) (hq : zRet (l, rm_X2_nodeAt, 4, 0, 0) Y G (some (.int r)) σ') (N : Nat) (x1 : Int32) (x2 : Int32) : ∀ (n : Nat) (x3 : Int32) (σ : ZS), f_X2_nodeAt_h2 N x1 x2 n x3 σ = some (r, σ') → Z (l, rm_X2_nodeAt, 4, 0, 0) Y G σ [(0, .ref (G.1 2)), (1, .int x1), (2, .int x2), (3, .int x3)] [] 2 := by
  intro n
  induction n with
  | zero =>
    intro x3 σ hf
    rw [f_X2_nodeAt_h2] at hf
    cases hf
  | succ n ih =>
    intro x3 σ hf
    rw [f_X2_nodeAt_h2] at hf
    refine z_iload_n h dX2_nodeAt_2 rfl 3 rfl ?_
    refine z_aload_n h dX2_nodeAt_3 rfl 0 rfl ?_
    refine z_gfI h zC2 (c := 2) tg_2 ln_2 0 rfl ft_2_0 wd_140 dX2_nodeAt_4 ?_
    refine z_icmp_ge h (tgt := 38) dX2_nodeAt_7 (by decide) (fun g1 => ?_) (fun g1 => ?_)
    · have hf := it_pos g1 hf
      refine z_iconst h (v := (0 : Int32)) dX2_nodeAt_38 ic_0 ?_
      exact z_zret h rfl (rt_I hf hq) dX2_nodeAt_39
    · have hf := it_neg g1 hf
      refine z_aload_n h dX2_nodeAt_10 rfl 0 rfl ?_
      refine z_gfR h zC2 (d := 20) (c := 2) tg_2 ln_2 2 rfl ft_2_2 rf_2_2 wd_32 dX2_nodeAt_11 ?_
      refine z_iload_n h dX2_nodeAt_14 rfl 3 rfl ?_
      obtain ⟨g2, hf⟩ := ck_out hf
      refine z_iald h (c := 20) tg_20 ln_20 g2 dX2_nodeAt_15 ?_
      refine z_iload_n h dX2_nodeAt_16 rfl 1 rfl ?_
      refine z_icmp_ne h (tgt := 32) dX2_nodeAt_17 (by decide) (fun g3 => ?_) (fun g3 => ?_)
      · have hf := it_neg g3 hf
        exact z_sub [0, 1, 2, 3] rfl (k_X2_nodeAt_b32 h hq N x1 x2 x3 (fun x3_ σ_ hf_ => ih x3_ σ_ hf_) _ hf)
      · have hf := it_pos g3 hf
        refine z_aload_n h dX2_nodeAt_20 rfl 0 rfl ?_
        refine z_gfR h zC2 (d := 21) (c := 2) tg_2 ln_2 3 rfl ft_2_3 rf_2_3 wd_33 dX2_nodeAt_21 ?_
        refine z_iload_n h dX2_nodeAt_24 rfl 3 rfl ?_
        obtain ⟨g5, hf⟩ := ck_out hf
        refine z_iald h (c := 21) tg_21 ln_21 g5 dX2_nodeAt_25 ?_
        refine z_iload_n h dX2_nodeAt_26 rfl 2 rfl ?_
        refine z_icmp_ne h (tgt := 32) dX2_nodeAt_27 (by decide) (fun g6 => ?_) (fun g6 => ?_)
        · have hf := it_neg g6 hf
          exact z_sub [0, 1, 2, 3] rfl (k_X2_nodeAt_b32 h hq N x1 x2 x3 (fun x3_ σ_ hf_ => ih x3_ σ_ hf_) _ hf)
        · have hf := it_pos g6 hf
          refine z_iconst h (v := (1 : Int32)) dX2_nodeAt_30 ic_1 ?_
          exact z_zret h rfl (rt_I hf hq) dX2_nodeAt_31
set_option maxHeartbeats 4000000 in
set_option maxRecDepth 100000 in
theorem c_X2_nodeAt (l : Launch) (G : ZG) {N : Nat} {x1 : Int32} {x2 : Int32} {σ σ' : ZS} {r : Int32} (hf : f_X2_nodeAt N x1 x2 σ = some (r, σ')) : zMet l G yX2_nodeAt cX2_nodeAt 4 (some .boolean) rm_X2_nodeAt [.ref (G.1 2), .int x1, .int x2] σ (some (.int r)) σ' := by
  refine z_met (by decide +kernel) rfl (fun Y h hq => ?_)
  have h : zOk (l, rm_X2_nodeAt, 4, 0, 0) Y G cX2_nodeAt RX2 (some .boolean) := h
  rw [f_X2_nodeAt] at hf
  refine z_sub (lv' := [(0, .ref (G.1 2)), (1, .int x1), (2, .int x2)]) [0, 1, 2] rfl ?_
  refine z_iconst h (v := (0 : Int32)) dX2_nodeAt_0 ic_0 ?_
  refine z_istore_n h dX2_nodeAt_1 rfl (lv' := [(3, .int (0 : Int32)), (0, .ref (G.1 2)), (1, .int x1), (2, .int x2)]) rfl rfl ?_
  exact z_sub [1, 2, 3, 0] rfl (k_X2_nodeAt_h2 h hq N x1 x2 _ _ _ hf)
theorem dX2_addNode_0 : decode cX2_addNode 0 = .ok (.aload_n 0, 1) := by decide +kernel
theorem dX2_addNode_1 : decode cX2_addNode 1 = .ok (.getfield 9, 3) := by decide +kernel
theorem dX2_addNode_4 : decode cX2_addNode 4 = .ok (.aload_n 0, 1) := by decide +kernel
theorem dX2_addNode_5 : decode cX2_addNode 5 = .ok (.getfield 35, 3) := by decide +kernel
theorem dX2_addNode_8 : decode cX2_addNode 8 = .ok (.iload_n 1, 1) := by decide +kernel
theorem dX2_addNode_9 : decode cX2_addNode 9 = .ok (.iastore, 1) := by decide +kernel
theorem dX2_addNode_10 : decode cX2_addNode 10 = .ok (.aload_n 0, 1) := by decide +kernel
theorem dX2_addNode_11 : decode cX2_addNode 11 = .ok (.getfield 15, 3) := by decide +kernel
theorem dX2_addNode_14 : decode cX2_addNode 14 = .ok (.aload_n 0, 1) := by decide +kernel
theorem dX2_addNode_15 : decode cX2_addNode 15 = .ok (.getfield 35, 3) := by decide +kernel
theorem dX2_addNode_18 : decode cX2_addNode 18 = .ok (.iload_n 2, 1) := by decide +kernel
theorem dX2_addNode_19 : decode cX2_addNode 19 = .ok (.iastore, 1) := by decide +kernel
theorem dX2_addNode_20 : decode cX2_addNode 20 = .ok (.aload_n 0, 1) := by decide +kernel
theorem dX2_addNode_21 : decode cX2_addNode 21 = .ok (.getfield 18, 3) := by decide +kernel
theorem dX2_addNode_24 : decode cX2_addNode 24 = .ok (.aload_n 0, 1) := by decide +kernel
theorem dX2_addNode_25 : decode cX2_addNode 25 = .ok (.getfield 35, 3) := by decide +kernel
theorem dX2_addNode_28 : decode cX2_addNode 28 = .ok (.iload_n 3, 1) := by decide +kernel
theorem dX2_addNode_29 : decode cX2_addNode 29 = .ok (.iastore, 1) := by decide +kernel
theorem dX2_addNode_30 : decode cX2_addNode 30 = .ok (.aload_n 0, 1) := by decide +kernel
theorem dX2_addNode_31 : decode cX2_addNode 31 = .ok (.dup, 1) := by decide +kernel
theorem dX2_addNode_32 : decode cX2_addNode 32 = .ok (.getfield 35, 3) := by decide +kernel
theorem dX2_addNode_35 : decode cX2_addNode 35 = .ok (.dup_x1, 1) := by decide +kernel
theorem dX2_addNode_36 : decode cX2_addNode 36 = .ok (.iconst 1, 1) := by decide +kernel
theorem dX2_addNode_37 : decode cX2_addNode 37 = .ok (.iadd, 1) := by decide +kernel
theorem dX2_addNode_38 : decode cX2_addNode 38 = .ok (.putfield 35, 3) := by decide +kernel
theorem dX2_addNode_41 : decode cX2_addNode 41 = .ok (.ireturn, 1) := by decide +kernel
abbrev rm_X2_addNode : Room := { frames := 0, cells := 0, slots := 0, locals := 0 }
noncomputable def f_X2_addNode (N : Nat) (x1 : Int32) (x2 : Int32) (x3 : Int32) (σ : ZS) : Option (Int32 × ZS) := ck (inb (gI σ 2 0) 7) (bd (sI σ 20 ((gI σ 2 0).toNatClampNeg) x1) fun σ2 => ck (inb (gI σ2 2 0) 7) (bd (sI σ2 21 ((gI σ2 2 0).toNatClampNeg) x2) fun σ4 => ck (inb (gI σ4 2 0) 7) (bd (sI σ4 22 ((gI σ4 2 0).toNatClampNeg) x3) fun σ6 => bd (gI σ6 2 0) fun v7 => bd (v7 + (1 : Int32)) fun v8 => bd (sI σ6 2 0 v8) fun σ9 => some (v7, σ9))))
set_option maxHeartbeats 4000000 in
set_option maxRecDepth 100000 in
theorem c_X2_addNode (l : Launch) (G : ZG) {N : Nat} {x1 : Int32} {x2 : Int32} {x3 : Int32} {σ σ' : ZS} {r : Int32} (hf : f_X2_addNode N x1 x2 x3 σ = some (r, σ')) : zMet l G yX2_addNode cX2_addNode 4 (some .int) rm_X2_addNode [.ref (G.1 2), .int x1, .int x2, .int x3] σ (some (.int r)) σ' := by
  refine z_met (by decide +kernel) rfl (fun Y h hq => ?_)
  have h : zOk (l, rm_X2_addNode, 4, 0, 0) Y G cX2_addNode RX2 (some .int) := h
  rw [f_X2_addNode] at hf
  refine z_sub (lv' := [(0, .ref (G.1 2)), (1, .int x1), (2, .int x2), (3, .int x3)]) [0, 1, 2, 3] rfl ?_
  refine z_aload_n h dX2_addNode_0 rfl 0 rfl ?_
  refine z_gfR h zC2 (d := 20) (c := 2) tg_2 ln_2 2 rfl ft_2_2 rf_2_2 wd_32 dX2_addNode_1 ?_
  refine z_aload_n h dX2_addNode_4 rfl 0 rfl ?_
  refine z_gfI h zC2 (c := 2) tg_2 ln_2 0 rfl ft_2_0 wd_140 dX2_addNode_5 ?_
  refine z_iload_n h dX2_addNode_8 rfl 1 rfl ?_
  obtain ⟨g1, hf⟩ := ck_out hf
  refine z_iast h (c := 20) tg_20 ln_20 g1 dX2_addNode_9 ?_
  refine z_gen (fun σ2 eσ2 => ?_)
  have hf := bd_to eσ2 hf
  refine z_aload_n h dX2_addNode_10 rfl 0 rfl ?_
  refine z_gfR h zC2 (d := 21) (c := 2) tg_2 ln_2 3 rfl ft_2_3 rf_2_3 wd_33 dX2_addNode_11 ?_
  refine z_aload_n h dX2_addNode_14 rfl 0 rfl ?_
  refine z_gfI h zC2 (c := 2) tg_2 ln_2 0 rfl ft_2_0 wd_140 dX2_addNode_15 ?_
  refine z_iload_n h dX2_addNode_18 rfl 2 rfl ?_
  obtain ⟨g3, hf⟩ := ck_out hf
  refine z_iast h (c := 21) tg_21 ln_21 g3 dX2_addNode_19 ?_
  refine z_gen (fun σ4 eσ4 => ?_)
  have hf := bd_to eσ4 hf
  refine z_aload_n h dX2_addNode_20 rfl 0 rfl ?_
  refine z_gfR h zC2 (d := 22) (c := 2) tg_2 ln_2 4 rfl ft_2_4 rf_2_4 wd_34 dX2_addNode_21 ?_
  refine z_aload_n h dX2_addNode_24 rfl 0 rfl ?_
  refine z_gfI h zC2 (c := 2) tg_2 ln_2 0 rfl ft_2_0 wd_140 dX2_addNode_25 ?_
  refine z_iload_n h dX2_addNode_28 rfl 3 rfl ?_
  obtain ⟨g5, hf⟩ := ck_out hf
  refine z_iast h (c := 22) tg_22 ln_22 g5 dX2_addNode_29 ?_
  refine z_gen (fun σ6 eσ6 => ?_)
  have hf := bd_to eσ6 hf
  refine z_aload_n h dX2_addNode_30 rfl 0 rfl ?_
  refine z_dup h dX2_addNode_31 rfl ?_
  refine z_gfI h zC2 (c := 2) tg_2 ln_2 0 rfl ft_2_0 wd_140 dX2_addNode_32 ?_
  refine z_topI (fun v7 ev7 => ?_)
  have hf := bd_to ev7 hf
  refine z_dup_x1 h dX2_addNode_35 rfl rfl ?_
  refine z_iconst h (v := (1 : Int32)) dX2_addNode_36 ic_1 ?_
  refine z_iadd h dX2_addNode_37 ?_
  refine z_topI (fun v8 ev8 => ?_)
  have hf := bd_to ev8 hf
  refine z_pfI h zC2 (c := 2) tg_2 ln_2 0 rfl ft_2_0 wd_140 rfl (ty := .int) (by decide +kernel) rfl rfl dX2_addNode_38 ?_
  refine z_gen (fun σ9 eσ9 => ?_)
  have hf := bd_to eσ9 hf
  exact z_iret h (rt_I hf hq) dX2_addNode_41
theorem dX2_canJoin_0 : decode cX2_canJoin 0 = .ok (.aload_n 0, 1) := by decide +kernel
theorem dX2_canJoin_1 : decode cX2_canJoin 1 = .ok (.getfield 9, 3) := by decide +kernel
theorem dX2_canJoin_4 : decode cX2_canJoin 4 = .ok (.iload_n 2, 1) := by decide +kernel
theorem dX2_canJoin_5 : decode cX2_canJoin 5 = .ok (.iaload, 1) := by decide +kernel
theorem dX2_canJoin_6 : decode cX2_canJoin 6 = .ok (.aload_n 0, 1) := by decide +kernel
theorem dX2_canJoin_7 : decode cX2_canJoin 7 = .ok (.getfield 9, 3) := by decide +kernel
theorem dX2_canJoin_10 : decode cX2_canJoin 10 = .ok (.iload_n 1, 1) := by decide +kernel
theorem dX2_canJoin_11 : decode cX2_canJoin 11 = .ok (.iaload, 1) := by decide +kernel
theorem dX2_canJoin_12 : decode cX2_canJoin 12 = .ok (.isub, 1) := by decide +kernel
theorem dX2_canJoin_13 : decode cX2_canJoin 13 = .ok (.istore_n 3, 1) := by decide +kernel
theorem dX2_canJoin_14 : decode cX2_canJoin 14 = .ok (.aload_n 0, 1) := by decide +kernel
theorem dX2_canJoin_15 : decode cX2_canJoin 15 = .ok (.getfield 15, 3) := by decide +kernel
theorem dX2_canJoin_18 : decode cX2_canJoin 18 = .ok (.iload_n 2, 1) := by decide +kernel
theorem dX2_canJoin_19 : decode cX2_canJoin 19 = .ok (.iaload, 1) := by decide +kernel
theorem dX2_canJoin_20 : decode cX2_canJoin 20 = .ok (.aload_n 0, 1) := by decide +kernel
theorem dX2_canJoin_21 : decode cX2_canJoin 21 = .ok (.getfield 15, 3) := by decide +kernel
theorem dX2_canJoin_24 : decode cX2_canJoin 24 = .ok (.iload_n 1, 1) := by decide +kernel
theorem dX2_canJoin_25 : decode cX2_canJoin 25 = .ok (.iaload, 1) := by decide +kernel
theorem dX2_canJoin_26 : decode cX2_canJoin 26 = .ok (.isub, 1) := by decide +kernel
theorem dX2_canJoin_27 : decode cX2_canJoin 27 = .ok (.istore 4, 2) := by decide +kernel
theorem dX2_canJoin_29 : decode cX2_canJoin 29 = .ok (.iload 4, 2) := by decide +kernel
theorem dX2_canJoin_31 : decode cX2_canJoin 31 = .ok (.ifCond .ne 12, 3) := by decide +kernel
theorem dX2_canJoin_34 : decode cX2_canJoin 34 = .ok (.iload_n 3, 1) := by decide +kernel
theorem dX2_canJoin_35 : decode cX2_canJoin 35 = .ok (.iconst 1, 1) := by decide +kernel
theorem dX2_canJoin_36 : decode cX2_canJoin 36 = .ok (.iconst 4, 1) := by decide +kernel
theorem dX2_canJoin_37 : decode cX2_canJoin 37 = .ok (.invokestatic 48, 3) := by decide +kernel
theorem dX2_canJoin_40 : decode cX2_canJoin 40 = .ok (.ifCond .ne 17, 3) := by decide +kernel
theorem dX2_canJoin_43 : decode cX2_canJoin 43 = .ok (.iload_n 3, 1) := by decide +kernel
theorem dX2_canJoin_44 : decode cX2_canJoin 44 = .ok (.ifCond .ne 17, 3) := by decide +kernel
theorem dX2_canJoin_47 : decode cX2_canJoin 47 = .ok (.iload 4, 2) := by decide +kernel
theorem dX2_canJoin_49 : decode cX2_canJoin 49 = .ok (.iconst 1, 1) := by decide +kernel
theorem dX2_canJoin_50 : decode cX2_canJoin 50 = .ok (.iconst 4, 1) := by decide +kernel
theorem dX2_canJoin_51 : decode cX2_canJoin 51 = .ok (.invokestatic 48, 3) := by decide +kernel
theorem dX2_canJoin_54 : decode cX2_canJoin 54 = .ok (.ifCond .eq 7, 3) := by decide +kernel
theorem dX2_canJoin_57 : decode cX2_canJoin 57 = .ok (.iconst 1, 1) := by decide +kernel
theorem dX2_canJoin_58 : decode cX2_canJoin 58 = .ok (.goto 4, 3) := by decide +kernel
theorem dX2_canJoin_61 : decode cX2_canJoin 61 = .ok (.iconst 0, 1) := by decide +kernel
theorem dX2_canJoin_62 : decode cX2_canJoin 62 = .ok (.ireturn, 1) := by decide +kernel
abbrev rm_X2_canJoin : Room := { frames := 1, cells := 0, slots := 0, locals := 30 }
noncomputable def f_X2_canJoin_b57 (N : Nat) (σ : ZS) : Option (Int32 × ZS) := some ((1 : Int32), σ)
noncomputable def f_X2_canJoin_b43 (N : Nat) (x3 : Int32) (x4 : Int32) (σ : ZS) : Option (Int32 × ZS) := (if x3 = 0 then obd (f_X5_within N x4 (1 : Int32) (4 : Int32) σ) fun v9 σ10 => (if v9 = 0 then some ((0 : Int32), σ10) else f_X2_canJoin_b57 N σ10) else some ((0 : Int32), σ))
noncomputable def f_X2_canJoin (N : Nat) (x1 : Int32) (x2 : Int32) (σ : ZS) : Option (Int32 × ZS) := ck (inb x2 7) (ck (inb x1 7) (bd ((gI σ 20 (x2.toNatClampNeg)) - (gI σ 20 (x1.toNatClampNeg))) fun v3 => ck (inb x2 7) (ck (inb x1 7) (bd ((gI σ 21 (x2.toNatClampNeg)) - (gI σ 21 (x1.toNatClampNeg))) fun v6 => (if v6 = 0 then obd (f_X5_within N v3 (1 : Int32) (4 : Int32) σ) fun v12 σ13 => (if v12 = 0 then f_X2_canJoin_b43 N v3 v6 σ13 else f_X2_canJoin_b57 N σ13) else f_X2_canJoin_b43 N v3 v6 σ)))))
set_option maxHeartbeats 4000000 in
set_option maxRecDepth 100000 in
theorem k_X2_canJoin_b57 {l : Launch} {Y : ZY} {G : ZG} {r : Int32} {σ' : ZS} (h : zOk (l, rm_X2_canJoin, 5, 0, 0) Y G cX2_canJoin RX2 (some .boolean)) (hq : zRet (l, rm_X2_canJoin, 5, 0, 0) Y G (some (.int r)) σ') (N : Nat) (σ : ZS) (hf : f_X2_canJoin_b57 N σ = some (r, σ')) : Z (l, rm_X2_canJoin, 5, 0, 0) Y G σ [] [] 57 := by
  rw [f_X2_canJoin_b57] at hf
  refine z_iconst h (v := (1 : Int32)) dX2_canJoin_57 ic_1 ?_
  refine z_goto h (tgt := 62) dX2_canJoin_58 (by decide) ?_
  exact z_zret h rfl (rt_I hf hq) dX2_canJoin_62
set_option maxHeartbeats 4000000 in
set_option maxRecDepth 100000 in
theorem k_X2_canJoin_b43 {l : Launch} {Y : ZY} {G : ZG} {r : Int32} {σ' : ZS} (h : zOk (l, rm_X2_canJoin, 5, 0, 0) Y G cX2_canJoin RX2 (some .boolean)) (hq : zRet (l, rm_X2_canJoin, 5, 0, 0) Y G (some (.int r)) σ') (N : Nat) (x3 : Int32) (x4 : Int32) (σ : ZS) (hf : f_X2_canJoin_b43 N x3 x4 σ = some (r, σ')) : Z (l, rm_X2_canJoin, 5, 0, 0) Y G σ [(3, .int x3), (4, .int x4)] [] 43 := by
  rw [f_X2_canJoin_b43] at hf
  refine z_iload_n h dX2_canJoin_43 rfl 0 rfl ?_
  refine z_if_ne h (tgt := 61) dX2_canJoin_44 (by decide) (fun g8 => ?_) (fun g8 => ?_)
  · have hf := it_neg g8 hf
    refine z_iconst h (v := (0 : Int32)) dX2_canJoin_61 ic_0 ?_
    exact z_zret h rfl (rt_I hf hq) dX2_canJoin_62
  · have hf := it_pos g8 hf
    refine z_iload h dX2_canJoin_47 1 rfl ?_
    refine z_iconst h (v := (1 : Int32)) dX2_canJoin_49 ic_1 ?_
    refine z_iconst h (v := (4 : Int32)) dX2_canJoin_50 ic_4 ?_
    obtain ⟨v9, σ10, e10, hf⟩ := obd_out hf
    refine z_cSNv h (n := 3) (c_X5_within l G e10) rfl (by decide +kernel) wd_134 wd_2 wd_135 (by decide +kernel) ⟨rfl, rfl⟩ rfl rfl rfl dX2_canJoin_51 ⟨Nat.zero_le _, Nat.zero_le _⟩ ?_
    refine z_if_eq h (tgt := 61) dX2_canJoin_54 (by decide) (fun g11 => ?_) (fun g11 => ?_)
    · have hf := it_pos g11 hf
      refine z_iconst h (v := (0 : Int32)) dX2_canJoin_61 ic_0 ?_
      exact z_zret h rfl (rt_I hf hq) dX2_canJoin_62
    · have hf := it_neg g11 hf
      exact z_sub [] rfl (k_X2_canJoin_b57 h hq N _ hf)
set_option maxHeartbeats 4000000 in
set_option maxRecDepth 100000 in
theorem c_X2_canJoin (l : Launch) (G : ZG) {N : Nat} {x1 : Int32} {x2 : Int32} {σ σ' : ZS} {r : Int32} (hf : f_X2_canJoin N x1 x2 σ = some (r, σ')) : zMet l G yX2_canJoin cX2_canJoin 5 (some .boolean) rm_X2_canJoin [.ref (G.1 2), .int x1, .int x2] σ (some (.int r)) σ' := by
  refine z_met (by decide +kernel) rfl (fun Y h hq => ?_)
  have h : zOk (l, rm_X2_canJoin, 5, 0, 0) Y G cX2_canJoin RX2 (some .boolean) := h
  rw [f_X2_canJoin] at hf
  refine z_sub (lv' := [(0, .ref (G.1 2)), (1, .int x1), (2, .int x2)]) [0, 1, 2] rfl ?_
  refine z_aload_n h dX2_canJoin_0 rfl 0 rfl ?_
  refine z_gfR h zC2 (d := 20) (c := 2) tg_2 ln_2 2 rfl ft_2_2 rf_2_2 wd_32 dX2_canJoin_1 ?_
  refine z_iload_n h dX2_canJoin_4 rfl 2 rfl ?_
  obtain ⟨g1, hf⟩ := ck_out hf
  refine z_iald h (c := 20) tg_20 ln_20 g1 dX2_canJoin_5 ?_
  refine z_aload_n h dX2_canJoin_6 rfl 0 rfl ?_
  refine z_gfR h zC2 (d := 20) (c := 2) tg_2 ln_2 2 rfl ft_2_2 rf_2_2 wd_32 dX2_canJoin_7 ?_
  refine z_iload_n h dX2_canJoin_10 rfl 1 rfl ?_
  obtain ⟨g2, hf⟩ := ck_out hf
  refine z_iald h (c := 20) tg_20 ln_20 g2 dX2_canJoin_11 ?_
  refine z_isub h dX2_canJoin_12 ?_
  refine z_topI (fun v3 ev3 => ?_)
  have hf := bd_to ev3 hf
  refine z_istore_n h dX2_canJoin_13 rfl (lv' := [(3, .int v3), (0, .ref (G.1 2)), (1, .int x1), (2, .int x2)]) rfl rfl ?_
  refine z_aload_n h dX2_canJoin_14 rfl 1 rfl ?_
  refine z_gfR h zC2 (d := 21) (c := 2) tg_2 ln_2 3 rfl ft_2_3 rf_2_3 wd_33 dX2_canJoin_15 ?_
  refine z_iload_n h dX2_canJoin_18 rfl 3 rfl ?_
  obtain ⟨g4, hf⟩ := ck_out hf
  refine z_iald h (c := 21) tg_21 ln_21 g4 dX2_canJoin_19 ?_
  refine z_aload_n h dX2_canJoin_20 rfl 1 rfl ?_
  refine z_gfR h zC2 (d := 21) (c := 2) tg_2 ln_2 3 rfl ft_2_3 rf_2_3 wd_33 dX2_canJoin_21 ?_
  refine z_iload_n h dX2_canJoin_24 rfl 2 rfl ?_
  obtain ⟨g5, hf⟩ := ck_out hf
  refine z_iald h (c := 21) tg_21 ln_21 g5 dX2_canJoin_25 ?_
  refine z_isub h dX2_canJoin_26 ?_
  refine z_topI (fun v6 ev6 => ?_)
  have hf := bd_to ev6 hf
  refine z_istore h dX2_canJoin_27 (lv' := [(4, .int v6), (3, .int v3), (0, .ref (G.1 2)), (1, .int x1), (2, .int x2)]) rfl rfl ?_
  refine z_iload h dX2_canJoin_29 0 rfl ?_
  refine z_if_ne h (tgt := 43) dX2_canJoin_31 (by decide) (fun g7 => ?_) (fun g7 => ?_)
  · have hf := it_neg g7 hf
    exact z_sub [1, 0] rfl (k_X2_canJoin_b43 h hq N v3 v6 _ hf)
  · have hf := it_pos g7 hf
    refine z_iload_n h dX2_canJoin_34 rfl 1 rfl ?_
    refine z_iconst h (v := (1 : Int32)) dX2_canJoin_35 ic_1 ?_
    refine z_iconst h (v := (4 : Int32)) dX2_canJoin_36 ic_4 ?_
    obtain ⟨v12, σ13, e13, hf⟩ := obd_out hf
    refine z_cSNv h (n := 3) (c_X5_within l G e13) rfl (by decide +kernel) wd_134 wd_2 wd_135 (by decide +kernel) ⟨rfl, rfl⟩ rfl rfl rfl dX2_canJoin_37 ⟨Nat.zero_le _, Nat.zero_le _⟩ ?_
    refine z_if_ne h (tgt := 57) dX2_canJoin_40 (by decide) (fun g14 => ?_) (fun g14 => ?_)
    · have hf := it_neg g14 hf
      exact z_sub [] rfl (k_X2_canJoin_b57 h hq N _ hf)
    · have hf := it_pos g14 hf
      exact z_sub [1, 0] rfl (k_X2_canJoin_b43 h hq N v3 v6 _ hf)
theorem dX2_barBetween_0 : decode cX2_barBetween 0 = .ok (.iconst 0, 1) := by decide +kernel
theorem dX2_barBetween_1 : decode cX2_barBetween 1 = .ok (.istore_n 3, 1) := by decide +kernel
theorem dX2_barBetween_2 : decode cX2_barBetween 2 = .ok (.iload_n 3, 1) := by decide +kernel
theorem dX2_barBetween_3 : decode cX2_barBetween 3 = .ok (.aload_n 0, 1) := by decide +kernel
theorem dX2_barBetween_4 : decode cX2_barBetween 4 = .ok (.getfield 39, 3) := by decide +kernel
theorem dX2_barBetween_7 : decode cX2_barBetween 7 = .ok (.if_icmp .ge 31, 3) := by decide +kernel
theorem dX2_barBetween_10 : decode cX2_barBetween 10 = .ok (.aload_n 0, 1) := by decide +kernel
theorem dX2_barBetween_11 : decode cX2_barBetween 11 = .ok (.getfield 21, 3) := by decide +kernel
theorem dX2_barBetween_14 : decode cX2_barBetween 14 = .ok (.iload_n 3, 1) := by decide +kernel
theorem dX2_barBetween_15 : decode cX2_barBetween 15 = .ok (.iaload, 1) := by decide +kernel
theorem dX2_barBetween_16 : decode cX2_barBetween 16 = .ok (.iload_n 1, 1) := by decide +kernel
theorem dX2_barBetween_17 : decode cX2_barBetween 17 = .ok (.if_icmp .ne 15, 3) := by decide +kernel
theorem dX2_barBetween_20 : decode cX2_barBetween 20 = .ok (.aload_n 0, 1) := by decide +kernel
theorem dX2_barBetween_21 : decode cX2_barBetween 21 = .ok (.getfield 24, 3) := by decide +kernel
theorem dX2_barBetween_24 : decode cX2_barBetween 24 = .ok (.iload_n 3, 1) := by decide +kernel
theorem dX2_barBetween_25 : decode cX2_barBetween 25 = .ok (.iaload, 1) := by decide +kernel
theorem dX2_barBetween_26 : decode cX2_barBetween 26 = .ok (.iload_n 2, 1) := by decide +kernel
theorem dX2_barBetween_27 : decode cX2_barBetween 27 = .ok (.if_icmp .ne 5, 3) := by decide +kernel
theorem dX2_barBetween_30 : decode cX2_barBetween 30 = .ok (.iconst 1, 1) := by decide +kernel
theorem dX2_barBetween_31 : decode cX2_barBetween 31 = .ok (.ireturn, 1) := by decide +kernel
theorem dX2_barBetween_32 : decode cX2_barBetween 32 = .ok (.iinc 3 1, 3) := by decide +kernel
theorem dX2_barBetween_35 : decode cX2_barBetween 35 = .ok (.goto (-33), 3) := by decide +kernel
theorem dX2_barBetween_38 : decode cX2_barBetween 38 = .ok (.iconst 0, 1) := by decide +kernel
theorem dX2_barBetween_39 : decode cX2_barBetween 39 = .ok (.ireturn, 1) := by decide +kernel
abbrev rm_X2_barBetween : Room := { frames := 0, cells := 0, slots := 0, locals := 0 }
noncomputable def f_X2_barBetween_b32 (N : Nat) (kb2 : Int32 → ZS → Option (Int32 × ZS)) (x1 : Int32) (x2 : Int32) (x3 : Int32) (σ : ZS) : Option (Int32 × ZS) := bd (x3 + (1 : Int32)) fun v4 => kb2 v4 σ
noncomputable def f_X2_barBetween_h2 (N : Nat) (x1 : Int32) (x2 : Int32) : Nat → Int32 → ZS → Option (Int32 × ZS)
  | 0, _, _ => none
  | n + 1, x3, σ => (if (gI σ 2 1) ≤ x3 then some ((0 : Int32), σ) else ck (inb x3 6) ((if (gI σ 23 (x3.toNatClampNeg)) = x1 then ck (inb x3 6) ((if (gI σ 24 (x3.toNatClampNeg)) = x2 then some ((1 : Int32), σ) else f_X2_barBetween_b32 N (fun x3_ σ_ => f_X2_barBetween_h2 N x1 x2 n x3_ σ_) x1 x2 x3 σ)) else f_X2_barBetween_b32 N (fun x3_ σ_ => f_X2_barBetween_h2 N x1 x2 n x3_ σ_) x1 x2 x3 σ)))
noncomputable def f_X2_barBetween (N : Nat) (x1 : Int32) (x2 : Int32) (σ : ZS) : Option (Int32 × ZS) := f_X2_barBetween_h2 N x1 x2 N (0 : Int32) σ
set_option maxHeartbeats 4000000 in
set_option maxRecDepth 100000 in
theorem k_X2_barBetween_b32 {l : Launch} {Y : ZY} {G : ZG} {r : Int32} {σ' : ZS} (h : zOk (l, rm_X2_barBetween, 4, 0, 0) Y G cX2_barBetween RX2 (some .boolean)) (hq : zRet (l, rm_X2_barBetween, 4, 0, 0) Y G (some (.int r)) σ') (N : Nat) {kb2 : Int32 → ZS → Option (Int32 × ZS)} (x1 : Int32) (x2 : Int32) (x3 : Int32) (hb2 : ∀ (x3_ : Int32) (σ_ : ZS), kb2 x3_ σ_ = some (r, σ') → Z (l, rm_X2_barBetween, 4, 0, 0) Y G σ_ [(0, .ref (G.1 2)), (1, .int x1), (2, .int x2), (3, .int x3_)] [] 2) (σ : ZS) (hf : f_X2_barBetween_b32 N kb2 x1 x2 x3 σ = some (r, σ')) : Z (l, rm_X2_barBetween, 4, 0, 0) Y G σ [(0, .ref (G.1 2)), (1, .int x1), (2, .int x2), (3, .int x3)] [] 32 := by
  rw [f_X2_barBetween_b32] at hf
  obtain ⟨v4, ev4, hf⟩ := bd_ex hf
  refine z_iinc h (v := v4) (lv' := [(3, .int v4), (0, .ref (G.1 2)), (1, .int x1), (2, .int x2)]) dX2_barBetween_32 3 rfl (by rw [ev4]; rfl) rfl rfl ?_
  refine z_goto h (tgt := 2) dX2_barBetween_35 (by decide) ?_
  exact z_sub [1, 2, 3, 0] rfl (hb2 _ _ hf)
set_option maxHeartbeats 4000000 in
set_option maxRecDepth 100000 in
theorem k_X2_barBetween_h2 {l : Launch} {Y : ZY} {G : ZG} {r : Int32} {σ' : ZS} (h : zOk (l, rm_X2_barBetween, 4, 0, 0) Y G cX2_barBetween RX2 (some .boolean)) (hq : zRet (l, rm_X2_barBetween, 4, 0, 0) Y G (some (.int r)) σ') (N : Nat) (x1 : Int32) (x2 : Int32) : ∀ (n : Nat) (x3 : Int32) (σ : ZS), f_X2_barBetween_h2 N x1 x2 n x3 σ = some (r, σ') → Z (l, rm_X2_barBetween, 4, 0, 0) Y G σ [(0, .ref (G.1 2)), (1, .int x1), (2, .int x2), (3, .int x3)] [] 2 := by
  intro n
  induction n with
  | zero =>
    intro x3 σ hf
    rw [f_X2_barBetween_h2] at hf
    cases hf
  | succ n ih =>
    intro x3 σ hf
    rw [f_X2_barBetween_h2] at hf
    refine z_iload_n h dX2_barBetween_2 rfl 3 rfl ?_
    refine z_aload_n h dX2_barBetween_3 rfl 0 rfl ?_
    refine z_gfI h zC2 (c := 2) tg_2 ln_2 1 rfl ft_2_1 wd_191 dX2_barBetween_4 ?_
    refine z_icmp_ge h (tgt := 38) dX2_barBetween_7 (by decide) (fun g1 => ?_) (fun g1 => ?_)
    · have hf := it_pos g1 hf
      refine z_iconst h (v := (0 : Int32)) dX2_barBetween_38 ic_0 ?_
      exact z_zret h rfl (rt_I hf hq) dX2_barBetween_39
    · have hf := it_neg g1 hf
      refine z_aload_n h dX2_barBetween_10 rfl 0 rfl ?_
      refine z_gfR h zC2 (d := 23) (c := 2) tg_2 ln_2 5 rfl ft_2_5 rf_2_5 wd_35 dX2_barBetween_11 ?_
      refine z_iload_n h dX2_barBetween_14 rfl 3 rfl ?_
      obtain ⟨g2, hf⟩ := ck_out hf
      refine z_iald h (c := 23) tg_23 ln_23 g2 dX2_barBetween_15 ?_
      refine z_iload_n h dX2_barBetween_16 rfl 1 rfl ?_
      refine z_icmp_ne h (tgt := 32) dX2_barBetween_17 (by decide) (fun g3 => ?_) (fun g3 => ?_)
      · have hf := it_neg g3 hf
        exact z_sub [0, 1, 2, 3] rfl (k_X2_barBetween_b32 h hq N x1 x2 x3 (fun x3_ σ_ hf_ => ih x3_ σ_ hf_) _ hf)
      · have hf := it_pos g3 hf
        refine z_aload_n h dX2_barBetween_20 rfl 0 rfl ?_
        refine z_gfR h zC2 (d := 24) (c := 2) tg_2 ln_2 6 rfl ft_2_6 rf_2_6 wd_36 dX2_barBetween_21 ?_
        refine z_iload_n h dX2_barBetween_24 rfl 3 rfl ?_
        obtain ⟨g5, hf⟩ := ck_out hf
        refine z_iald h (c := 24) tg_24 ln_24 g5 dX2_barBetween_25 ?_
        refine z_iload_n h dX2_barBetween_26 rfl 2 rfl ?_
        refine z_icmp_ne h (tgt := 32) dX2_barBetween_27 (by decide) (fun g6 => ?_) (fun g6 => ?_)
        · have hf := it_neg g6 hf
          exact z_sub [0, 1, 2, 3] rfl (k_X2_barBetween_b32 h hq N x1 x2 x3 (fun x3_ σ_ hf_ => ih x3_ σ_ hf_) _ hf)
        · have hf := it_pos g6 hf
          refine z_iconst h (v := (1 : Int32)) dX2_barBetween_30 ic_1 ?_
          exact z_zret h rfl (rt_I hf hq) dX2_barBetween_31
set_option maxHeartbeats 4000000 in
set_option maxRecDepth 100000 in
theorem c_X2_barBetween (l : Launch) (G : ZG) {N : Nat} {x1 : Int32} {x2 : Int32} {σ σ' : ZS} {r : Int32} (hf : f_X2_barBetween N x1 x2 σ = some (r, σ')) : zMet l G yX2_barBetween cX2_barBetween 4 (some .boolean) rm_X2_barBetween [.ref (G.1 2), .int x1, .int x2] σ (some (.int r)) σ' := by
  refine z_met (by decide +kernel) rfl (fun Y h hq => ?_)
  have h : zOk (l, rm_X2_barBetween, 4, 0, 0) Y G cX2_barBetween RX2 (some .boolean) := h
  rw [f_X2_barBetween] at hf
  refine z_sub (lv' := [(0, .ref (G.1 2)), (1, .int x1), (2, .int x2)]) [0, 1, 2] rfl ?_
  refine z_iconst h (v := (0 : Int32)) dX2_barBetween_0 ic_0 ?_
  refine z_istore_n h dX2_barBetween_1 rfl (lv' := [(3, .int (0 : Int32)), (0, .ref (G.1 2)), (1, .int x1), (2, .int x2)]) rfl rfl ?_
  exact z_sub [1, 2, 3, 0] rfl (k_X2_barBetween_h2 h hq N x1 x2 _ _ _ hf)
theorem dX2_addBar_0 : decode cX2_addBar 0 = .ok (.aload_n 0, 1) := by decide +kernel
theorem dX2_addBar_1 : decode cX2_addBar 1 = .ok (.getfield 21, 3) := by decide +kernel
theorem dX2_addBar_4 : decode cX2_addBar 4 = .ok (.aload_n 0, 1) := by decide +kernel
theorem dX2_addBar_5 : decode cX2_addBar 5 = .ok (.getfield 39, 3) := by decide +kernel
theorem dX2_addBar_8 : decode cX2_addBar 8 = .ok (.iload_n 1, 1) := by decide +kernel
theorem dX2_addBar_9 : decode cX2_addBar 9 = .ok (.iastore, 1) := by decide +kernel
theorem dX2_addBar_10 : decode cX2_addBar 10 = .ok (.aload_n 0, 1) := by decide +kernel
theorem dX2_addBar_11 : decode cX2_addBar 11 = .ok (.getfield 24, 3) := by decide +kernel
theorem dX2_addBar_14 : decode cX2_addBar 14 = .ok (.aload_n 0, 1) := by decide +kernel
theorem dX2_addBar_15 : decode cX2_addBar 15 = .ok (.getfield 39, 3) := by decide +kernel
theorem dX2_addBar_18 : decode cX2_addBar 18 = .ok (.iload_n 2, 1) := by decide +kernel
theorem dX2_addBar_19 : decode cX2_addBar 19 = .ok (.iastore, 1) := by decide +kernel
theorem dX2_addBar_20 : decode cX2_addBar 20 = .ok (.aload_n 0, 1) := by decide +kernel
theorem dX2_addBar_21 : decode cX2_addBar 21 = .ok (.getfield 27, 3) := by decide +kernel
theorem dX2_addBar_24 : decode cX2_addBar 24 = .ok (.aload_n 0, 1) := by decide +kernel
theorem dX2_addBar_25 : decode cX2_addBar 25 = .ok (.getfield 39, 3) := by decide +kernel
theorem dX2_addBar_28 : decode cX2_addBar 28 = .ok (.iload_n 3, 1) := by decide +kernel
theorem dX2_addBar_29 : decode cX2_addBar 29 = .ok (.iastore, 1) := by decide +kernel
theorem dX2_addBar_30 : decode cX2_addBar 30 = .ok (.aload_n 0, 1) := by decide +kernel
theorem dX2_addBar_31 : decode cX2_addBar 31 = .ok (.dup, 1) := by decide +kernel
theorem dX2_addBar_32 : decode cX2_addBar 32 = .ok (.getfield 39, 3) := by decide +kernel
theorem dX2_addBar_35 : decode cX2_addBar 35 = .ok (.dup_x1, 1) := by decide +kernel
theorem dX2_addBar_36 : decode cX2_addBar 36 = .ok (.iconst 1, 1) := by decide +kernel
theorem dX2_addBar_37 : decode cX2_addBar 37 = .ok (.iadd, 1) := by decide +kernel
theorem dX2_addBar_38 : decode cX2_addBar 38 = .ok (.putfield 39, 3) := by decide +kernel
theorem dX2_addBar_41 : decode cX2_addBar 41 = .ok (.ireturn, 1) := by decide +kernel
abbrev rm_X2_addBar : Room := { frames := 0, cells := 0, slots := 0, locals := 0 }
noncomputable def f_X2_addBar (N : Nat) (x1 : Int32) (x2 : Int32) (x3 : Int32) (σ : ZS) : Option (Int32 × ZS) := ck (inb (gI σ 2 1) 6) (bd (sI σ 23 ((gI σ 2 1).toNatClampNeg) x1) fun σ2 => ck (inb (gI σ2 2 1) 6) (bd (sI σ2 24 ((gI σ2 2 1).toNatClampNeg) x2) fun σ4 => ck (inb (gI σ4 2 1) 6) (bd (sI σ4 25 ((gI σ4 2 1).toNatClampNeg) x3) fun σ6 => bd (gI σ6 2 1) fun v7 => bd (v7 + (1 : Int32)) fun v8 => bd (sI σ6 2 1 v8) fun σ9 => some (v7, σ9))))
set_option maxHeartbeats 4000000 in
set_option maxRecDepth 100000 in
theorem c_X2_addBar (l : Launch) (G : ZG) {N : Nat} {x1 : Int32} {x2 : Int32} {x3 : Int32} {σ σ' : ZS} {r : Int32} (hf : f_X2_addBar N x1 x2 x3 σ = some (r, σ')) : zMet l G yX2_addBar cX2_addBar 4 (some .int) rm_X2_addBar [.ref (G.1 2), .int x1, .int x2, .int x3] σ (some (.int r)) σ' := by
  refine z_met (by decide +kernel) rfl (fun Y h hq => ?_)
  have h : zOk (l, rm_X2_addBar, 4, 0, 0) Y G cX2_addBar RX2 (some .int) := h
  rw [f_X2_addBar] at hf
  refine z_sub (lv' := [(0, .ref (G.1 2)), (1, .int x1), (2, .int x2), (3, .int x3)]) [0, 1, 2, 3] rfl ?_
  refine z_aload_n h dX2_addBar_0 rfl 0 rfl ?_
  refine z_gfR h zC2 (d := 23) (c := 2) tg_2 ln_2 5 rfl ft_2_5 rf_2_5 wd_35 dX2_addBar_1 ?_
  refine z_aload_n h dX2_addBar_4 rfl 0 rfl ?_
  refine z_gfI h zC2 (c := 2) tg_2 ln_2 1 rfl ft_2_1 wd_191 dX2_addBar_5 ?_
  refine z_iload_n h dX2_addBar_8 rfl 1 rfl ?_
  obtain ⟨g1, hf⟩ := ck_out hf
  refine z_iast h (c := 23) tg_23 ln_23 g1 dX2_addBar_9 ?_
  refine z_gen (fun σ2 eσ2 => ?_)
  have hf := bd_to eσ2 hf
  refine z_aload_n h dX2_addBar_10 rfl 0 rfl ?_
  refine z_gfR h zC2 (d := 24) (c := 2) tg_2 ln_2 6 rfl ft_2_6 rf_2_6 wd_36 dX2_addBar_11 ?_
  refine z_aload_n h dX2_addBar_14 rfl 0 rfl ?_
  refine z_gfI h zC2 (c := 2) tg_2 ln_2 1 rfl ft_2_1 wd_191 dX2_addBar_15 ?_
  refine z_iload_n h dX2_addBar_18 rfl 2 rfl ?_
  obtain ⟨g3, hf⟩ := ck_out hf
  refine z_iast h (c := 24) tg_24 ln_24 g3 dX2_addBar_19 ?_
  refine z_gen (fun σ4 eσ4 => ?_)
  have hf := bd_to eσ4 hf
  refine z_aload_n h dX2_addBar_20 rfl 0 rfl ?_
  refine z_gfR h zC2 (d := 25) (c := 2) tg_2 ln_2 7 rfl ft_2_7 rf_2_7 wd_37 dX2_addBar_21 ?_
  refine z_aload_n h dX2_addBar_24 rfl 0 rfl ?_
  refine z_gfI h zC2 (c := 2) tg_2 ln_2 1 rfl ft_2_1 wd_191 dX2_addBar_25 ?_
  refine z_iload_n h dX2_addBar_28 rfl 3 rfl ?_
  obtain ⟨g5, hf⟩ := ck_out hf
  refine z_iast h (c := 25) tg_25 ln_25 g5 dX2_addBar_29 ?_
  refine z_gen (fun σ6 eσ6 => ?_)
  have hf := bd_to eσ6 hf
  refine z_aload_n h dX2_addBar_30 rfl 0 rfl ?_
  refine z_dup h dX2_addBar_31 rfl ?_
  refine z_gfI h zC2 (c := 2) tg_2 ln_2 1 rfl ft_2_1 wd_191 dX2_addBar_32 ?_
  refine z_topI (fun v7 ev7 => ?_)
  have hf := bd_to ev7 hf
  refine z_dup_x1 h dX2_addBar_35 rfl rfl ?_
  refine z_iconst h (v := (1 : Int32)) dX2_addBar_36 ic_1 ?_
  refine z_iadd h dX2_addBar_37 ?_
  refine z_topI (fun v8 ev8 => ?_)
  have hf := bd_to ev8 hf
  refine z_pfI h zC2 (c := 2) tg_2 ln_2 1 rfl ft_2_1 wd_191 rfl (ty := .int) (by decide +kernel) rfl rfl dX2_addBar_38 ?_
  refine z_gen (fun σ9 eσ9 => ?_)
  have hf := bd_to eσ9 hf
  exact z_iret h (rt_I hf hq) dX2_addBar_41
theorem dX2_removeBar_0 : decode cX2_removeBar 0 = .ok (.aload_n 0, 1) := by decide +kernel
theorem dX2_removeBar_1 : decode cX2_removeBar 1 = .ok (.dup, 1) := by decide +kernel
theorem dX2_removeBar_2 : decode cX2_removeBar 2 = .ok (.getfield 39, 3) := by decide +kernel
theorem dX2_removeBar_5 : decode cX2_removeBar 5 = .ok (.iconst 1, 1) := by decide +kernel
theorem dX2_removeBar_6 : decode cX2_removeBar 6 = .ok (.isub, 1) := by decide +kernel
theorem dX2_removeBar_7 : decode cX2_removeBar 7 = .ok (.putfield 39, 3) := by decide +kernel
theorem dX2_removeBar_10 : decode cX2_removeBar 10 = .ok (.iload_n 1, 1) := by decide +kernel
theorem dX2_removeBar_11 : decode cX2_removeBar 11 = .ok (.istore_n 2, 1) := by decide +kernel
theorem dX2_removeBar_12 : decode cX2_removeBar 12 = .ok (.iload_n 2, 1) := by decide +kernel
theorem dX2_removeBar_13 : decode cX2_removeBar 13 = .ok (.aload_n 0, 1) := by decide +kernel
theorem dX2_removeBar_14 : decode cX2_removeBar 14 = .ok (.getfield 39, 3) := by decide +kernel
theorem dX2_removeBar_17 : decode cX2_removeBar 17 = .ok (.if_icmp .ge 51, 3) := by decide +kernel
theorem dX2_removeBar_20 : decode cX2_removeBar 20 = .ok (.aload_n 0, 1) := by decide +kernel
theorem dX2_removeBar_21 : decode cX2_removeBar 21 = .ok (.getfield 21, 3) := by decide +kernel
theorem dX2_removeBar_24 : decode cX2_removeBar 24 = .ok (.iload_n 2, 1) := by decide +kernel
theorem dX2_removeBar_25 : decode cX2_removeBar 25 = .ok (.aload_n 0, 1) := by decide +kernel
theorem dX2_removeBar_26 : decode cX2_removeBar 26 = .ok (.getfield 21, 3) := by decide +kernel
theorem dX2_removeBar_29 : decode cX2_removeBar 29 = .ok (.iload_n 2, 1) := by decide +kernel
theorem dX2_removeBar_30 : decode cX2_removeBar 30 = .ok (.iconst 1, 1) := by decide +kernel
theorem dX2_removeBar_31 : decode cX2_removeBar 31 = .ok (.iadd, 1) := by decide +kernel
theorem dX2_removeBar_32 : decode cX2_removeBar 32 = .ok (.iaload, 1) := by decide +kernel
theorem dX2_removeBar_33 : decode cX2_removeBar 33 = .ok (.iastore, 1) := by decide +kernel
theorem dX2_removeBar_34 : decode cX2_removeBar 34 = .ok (.aload_n 0, 1) := by decide +kernel
theorem dX2_removeBar_35 : decode cX2_removeBar 35 = .ok (.getfield 24, 3) := by decide +kernel
theorem dX2_removeBar_38 : decode cX2_removeBar 38 = .ok (.iload_n 2, 1) := by decide +kernel
theorem dX2_removeBar_39 : decode cX2_removeBar 39 = .ok (.aload_n 0, 1) := by decide +kernel
theorem dX2_removeBar_40 : decode cX2_removeBar 40 = .ok (.getfield 24, 3) := by decide +kernel
theorem dX2_removeBar_43 : decode cX2_removeBar 43 = .ok (.iload_n 2, 1) := by decide +kernel
theorem dX2_removeBar_44 : decode cX2_removeBar 44 = .ok (.iconst 1, 1) := by decide +kernel
theorem dX2_removeBar_45 : decode cX2_removeBar 45 = .ok (.iadd, 1) := by decide +kernel
theorem dX2_removeBar_46 : decode cX2_removeBar 46 = .ok (.iaload, 1) := by decide +kernel
theorem dX2_removeBar_47 : decode cX2_removeBar 47 = .ok (.iastore, 1) := by decide +kernel
theorem dX2_removeBar_48 : decode cX2_removeBar 48 = .ok (.aload_n 0, 1) := by decide +kernel
theorem dX2_removeBar_49 : decode cX2_removeBar 49 = .ok (.getfield 27, 3) := by decide +kernel
theorem dX2_removeBar_52 : decode cX2_removeBar 52 = .ok (.iload_n 2, 1) := by decide +kernel
theorem dX2_removeBar_53 : decode cX2_removeBar 53 = .ok (.aload_n 0, 1) := by decide +kernel
theorem dX2_removeBar_54 : decode cX2_removeBar 54 = .ok (.getfield 27, 3) := by decide +kernel
theorem dX2_removeBar_57 : decode cX2_removeBar 57 = .ok (.iload_n 2, 1) := by decide +kernel
theorem dX2_removeBar_58 : decode cX2_removeBar 58 = .ok (.iconst 1, 1) := by decide +kernel
theorem dX2_removeBar_59 : decode cX2_removeBar 59 = .ok (.iadd, 1) := by decide +kernel
theorem dX2_removeBar_60 : decode cX2_removeBar 60 = .ok (.iaload, 1) := by decide +kernel
theorem dX2_removeBar_61 : decode cX2_removeBar 61 = .ok (.iastore, 1) := by decide +kernel
theorem dX2_removeBar_62 : decode cX2_removeBar 62 = .ok (.iinc 2 1, 3) := by decide +kernel
theorem dX2_removeBar_65 : decode cX2_removeBar 65 = .ok (.goto (-53), 3) := by decide +kernel
theorem dX2_removeBar_68 : decode cX2_removeBar 68 = .ok (.aload_n 0, 1) := by decide +kernel
theorem dX2_removeBar_69 : decode cX2_removeBar 69 = .ok (.getfield 39, 3) := by decide +kernel
theorem dX2_removeBar_72 : decode cX2_removeBar 72 = .ok (.ireturn, 1) := by decide +kernel
abbrev rm_X2_removeBar : Room := { frames := 0, cells := 0, slots := 0, locals := 0 }
noncomputable def f_X2_removeBar_h12 (N : Nat) : Nat → Int32 → ZS → Option (Int32 × ZS)
  | 0, _, _ => none
  | n + 1, x2, σ => (if (gI σ 2 1) ≤ x2 then some (gI σ 2 1, σ) else ck (inb (x2 + (1 : Int32)) 6) (bd (gI σ 23 ((x2 + (1 : Int32)).toNatClampNeg)) fun v5 => ck (inb x2 6) (bd (sI σ 23 (x2.toNatClampNeg) v5) fun σ7 => ck (inb (x2 + (1 : Int32)) 6) (bd (gI σ7 24 ((x2 + (1 : Int32)).toNatClampNeg)) fun v9 => ck (inb x2 6) (bd (sI σ7 24 (x2.toNatClampNeg) v9) fun σ11 => ck (inb (x2 + (1 : Int32)) 6) (bd (gI σ11 25 ((x2 + (1 : Int32)).toNatClampNeg)) fun v13 => ck (inb x2 6) (bd (sI σ11 25 (x2.toNatClampNeg) v13) fun σ15 => bd (x2 + (1 : Int32)) fun v16 => f_X2_removeBar_h12 N n v16 σ15)))))))
noncomputable def f_X2_removeBar (N : Nat) (x1 : Int32) (σ : ZS) : Option (Int32 × ZS) := bd ((gI σ 2 1) - (1 : Int32)) fun v1 => bd (sI σ 2 1 v1) fun σ2 => f_X2_removeBar_h12 N N x1 σ2
set_option maxHeartbeats 4000000 in
set_option maxRecDepth 100000 in
theorem k_X2_removeBar_h12 {l : Launch} {Y : ZY} {G : ZG} {r : Int32} {σ' : ZS} (h : zOk (l, rm_X2_removeBar, 3, 0, 0) Y G cX2_removeBar RX2 (some .int)) (hq : zRet (l, rm_X2_removeBar, 3, 0, 0) Y G (some (.int r)) σ') (N : Nat) : ∀ (n : Nat) (x2 : Int32) (σ : ZS), f_X2_removeBar_h12 N n x2 σ = some (r, σ') → Z (l, rm_X2_removeBar, 3, 0, 0) Y G σ [(0, .ref (G.1 2)), (2, .int x2)] [] 12 := by
  intro n
  induction n with
  | zero =>
    intro x2 σ hf
    rw [f_X2_removeBar_h12] at hf
    cases hf
  | succ n ih =>
    intro x2 σ hf
    rw [f_X2_removeBar_h12] at hf
    refine z_iload_n h dX2_removeBar_12 rfl 1 rfl ?_
    refine z_aload_n h dX2_removeBar_13 rfl 0 rfl ?_
    refine z_gfI h zC2 (c := 2) tg_2 ln_2 1 rfl ft_2_1 wd_191 dX2_removeBar_14 ?_
    refine z_icmp_ge h (tgt := 68) dX2_removeBar_17 (by decide) (fun g3 => ?_) (fun g3 => ?_)
    · have hf := it_pos g3 hf
      refine z_aload_n h dX2_removeBar_68 rfl 0 rfl ?_
      refine z_gfI h zC2 (c := 2) tg_2 ln_2 1 rfl ft_2_1 wd_191 dX2_removeBar_69 ?_
      exact z_iret h (rt_I hf hq) dX2_removeBar_72
    · have hf := it_neg g3 hf
      refine z_aload_n h dX2_removeBar_20 rfl 0 rfl ?_
      refine z_gfR h zC2 (d := 23) (c := 2) tg_2 ln_2 5 rfl ft_2_5 rf_2_5 wd_35 dX2_removeBar_21 ?_
      refine z_iload_n h dX2_removeBar_24 rfl 1 rfl ?_
      refine z_aload_n h dX2_removeBar_25 rfl 0 rfl ?_
      refine z_gfR h zC2 (d := 23) (c := 2) tg_2 ln_2 5 rfl ft_2_5 rf_2_5 wd_35 dX2_removeBar_26 ?_
      refine z_iload_n h dX2_removeBar_29 rfl 1 rfl ?_
      refine z_iconst h (v := (1 : Int32)) dX2_removeBar_30 ic_1 ?_
      refine z_iadd h dX2_removeBar_31 ?_
      obtain ⟨g4, hf⟩ := ck_out hf
      refine z_iald h (c := 23) tg_23 ln_23 g4 dX2_removeBar_32 ?_
      refine z_topI (fun v5 ev5 => ?_)
      have hf := bd_to ev5 hf
      obtain ⟨g6, hf⟩ := ck_out hf
      refine z_iast h (c := 23) tg_23 ln_23 g6 dX2_removeBar_33 ?_
      refine z_gen (fun σ7 eσ7 => ?_)
      have hf := bd_to eσ7 hf
      refine z_aload_n h dX2_removeBar_34 rfl 0 rfl ?_
      refine z_gfR h zC2 (d := 24) (c := 2) tg_2 ln_2 6 rfl ft_2_6 rf_2_6 wd_36 dX2_removeBar_35 ?_
      refine z_iload_n h dX2_removeBar_38 rfl 1 rfl ?_
      refine z_aload_n h dX2_removeBar_39 rfl 0 rfl ?_
      refine z_gfR h zC2 (d := 24) (c := 2) tg_2 ln_2 6 rfl ft_2_6 rf_2_6 wd_36 dX2_removeBar_40 ?_
      refine z_iload_n h dX2_removeBar_43 rfl 1 rfl ?_
      refine z_iconst h (v := (1 : Int32)) dX2_removeBar_44 ic_1 ?_
      refine z_iadd h dX2_removeBar_45 ?_
      obtain ⟨g8, hf⟩ := ck_out hf
      refine z_iald h (c := 24) tg_24 ln_24 g8 dX2_removeBar_46 ?_
      refine z_topI (fun v9 ev9 => ?_)
      have hf := bd_to ev9 hf
      obtain ⟨g10, hf⟩ := ck_out hf
      refine z_iast h (c := 24) tg_24 ln_24 g10 dX2_removeBar_47 ?_
      refine z_gen (fun σ11 eσ11 => ?_)
      have hf := bd_to eσ11 hf
      refine z_aload_n h dX2_removeBar_48 rfl 0 rfl ?_
      refine z_gfR h zC2 (d := 25) (c := 2) tg_2 ln_2 7 rfl ft_2_7 rf_2_7 wd_37 dX2_removeBar_49 ?_
      refine z_iload_n h dX2_removeBar_52 rfl 1 rfl ?_
      refine z_aload_n h dX2_removeBar_53 rfl 0 rfl ?_
      refine z_gfR h zC2 (d := 25) (c := 2) tg_2 ln_2 7 rfl ft_2_7 rf_2_7 wd_37 dX2_removeBar_54 ?_
      refine z_iload_n h dX2_removeBar_57 rfl 1 rfl ?_
      refine z_iconst h (v := (1 : Int32)) dX2_removeBar_58 ic_1 ?_
      refine z_iadd h dX2_removeBar_59 ?_
      obtain ⟨g12, hf⟩ := ck_out hf
      refine z_iald h (c := 25) tg_25 ln_25 g12 dX2_removeBar_60 ?_
      refine z_topI (fun v13 ev13 => ?_)
      have hf := bd_to ev13 hf
      obtain ⟨g14, hf⟩ := ck_out hf
      refine z_iast h (c := 25) tg_25 ln_25 g14 dX2_removeBar_61 ?_
      refine z_gen (fun σ15 eσ15 => ?_)
      have hf := bd_to eσ15 hf
      obtain ⟨v16, ev16, hf⟩ := bd_ex hf
      refine z_iinc h (v := v16) (lv' := [(2, .int v16), (0, .ref (G.1 2))]) dX2_removeBar_62 1 rfl (by rw [ev16]; rfl) rfl rfl ?_
      refine z_goto h (tgt := 12) dX2_removeBar_65 (by decide) ?_
      exact z_sub [1, 0] rfl (ih _ _ hf)
set_option maxHeartbeats 4000000 in
set_option maxRecDepth 100000 in
theorem c_X2_removeBar (l : Launch) (G : ZG) {N : Nat} {x1 : Int32} {σ σ' : ZS} {r : Int32} (hf : f_X2_removeBar N x1 σ = some (r, σ')) : zMet l G yX2_removeBar cX2_removeBar 3 (some .int) rm_X2_removeBar [.ref (G.1 2), .int x1] σ (some (.int r)) σ' := by
  refine z_met (by decide +kernel) rfl (fun Y h hq => ?_)
  have h : zOk (l, rm_X2_removeBar, 3, 0, 0) Y G cX2_removeBar RX2 (some .int) := h
  rw [f_X2_removeBar] at hf
  refine z_sub (lv' := [(0, .ref (G.1 2)), (1, .int x1)]) [0, 1] rfl ?_
  refine z_aload_n h dX2_removeBar_0 rfl 0 rfl ?_
  refine z_dup h dX2_removeBar_1 rfl ?_
  refine z_gfI h zC2 (c := 2) tg_2 ln_2 1 rfl ft_2_1 wd_191 dX2_removeBar_2 ?_
  refine z_iconst h (v := (1 : Int32)) dX2_removeBar_5 ic_1 ?_
  refine z_isub h dX2_removeBar_6 ?_
  refine z_topI (fun v1 ev1 => ?_)
  have hf := bd_to ev1 hf
  refine z_pfI h zC2 (c := 2) tg_2 ln_2 1 rfl ft_2_1 wd_191 rfl (ty := .int) (by decide +kernel) rfl rfl dX2_removeBar_7 ?_
  refine z_gen (fun σ2 eσ2 => ?_)
  have hf := bd_to eσ2 hf
  refine z_iload_n h dX2_removeBar_10 rfl 1 rfl ?_
  refine z_istore_n h dX2_removeBar_11 rfl (lv' := [(2, .int x1), (0, .ref (G.1 2)), (1, .int x1)]) rfl rfl ?_
  exact z_sub [1, 0] rfl (k_X2_removeBar_h12 h hq N _ _ _ hf)
theorem dX2_isVertical_0 : decode cX2_isVertical 0 = .ok (.aload_n 0, 1) := by decide +kernel
theorem dX2_isVertical_1 : decode cX2_isVertical 1 = .ok (.getfield 9, 3) := by decide +kernel
theorem dX2_isVertical_4 : decode cX2_isVertical 4 = .ok (.aload_n 0, 1) := by decide +kernel
theorem dX2_isVertical_5 : decode cX2_isVertical 5 = .ok (.getfield 21, 3) := by decide +kernel
theorem dX2_isVertical_8 : decode cX2_isVertical 8 = .ok (.iload_n 1, 1) := by decide +kernel
theorem dX2_isVertical_9 : decode cX2_isVertical 9 = .ok (.iaload, 1) := by decide +kernel
theorem dX2_isVertical_10 : decode cX2_isVertical 10 = .ok (.iaload, 1) := by decide +kernel
theorem dX2_isVertical_11 : decode cX2_isVertical 11 = .ok (.aload_n 0, 1) := by decide +kernel
theorem dX2_isVertical_12 : decode cX2_isVertical 12 = .ok (.getfield 9, 3) := by decide +kernel
theorem dX2_isVertical_15 : decode cX2_isVertical 15 = .ok (.aload_n 0, 1) := by decide +kernel
theorem dX2_isVertical_16 : decode cX2_isVertical 16 = .ok (.getfield 24, 3) := by decide +kernel
theorem dX2_isVertical_19 : decode cX2_isVertical 19 = .ok (.iload_n 1, 1) := by decide +kernel
theorem dX2_isVertical_20 : decode cX2_isVertical 20 = .ok (.iaload, 1) := by decide +kernel
theorem dX2_isVertical_21 : decode cX2_isVertical 21 = .ok (.iaload, 1) := by decide +kernel
theorem dX2_isVertical_22 : decode cX2_isVertical 22 = .ok (.if_icmp .ne 7, 3) := by decide +kernel
theorem dX2_isVertical_25 : decode cX2_isVertical 25 = .ok (.iconst 1, 1) := by decide +kernel
theorem dX2_isVertical_26 : decode cX2_isVertical 26 = .ok (.goto 4, 3) := by decide +kernel
theorem dX2_isVertical_29 : decode cX2_isVertical 29 = .ok (.iconst 0, 1) := by decide +kernel
theorem dX2_isVertical_30 : decode cX2_isVertical 30 = .ok (.ireturn, 1) := by decide +kernel
abbrev rm_X2_isVertical : Room := { frames := 0, cells := 0, slots := 0, locals := 0 }
noncomputable def f_X2_isVertical (N : Nat) (x1 : Int32) (σ : ZS) : Option (Int32 × ZS) := ck (inb x1 6) (ck (inb (gI σ 23 (x1.toNatClampNeg)) 7) (ck (inb x1 6) (ck (inb (gI σ 24 (x1.toNatClampNeg)) 7) ((if (gI σ 20 ((gI σ 23 (x1.toNatClampNeg)).toNatClampNeg)) = (gI σ 20 ((gI σ 24 (x1.toNatClampNeg)).toNatClampNeg)) then some ((1 : Int32), σ) else some ((0 : Int32), σ))))))
set_option maxHeartbeats 4000000 in
set_option maxRecDepth 100000 in
theorem c_X2_isVertical (l : Launch) (G : ZG) {N : Nat} {x1 : Int32} {σ σ' : ZS} {r : Int32} (hf : f_X2_isVertical N x1 σ = some (r, σ')) : zMet l G yX2_isVertical cX2_isVertical 2 (some .boolean) rm_X2_isVertical [.ref (G.1 2), .int x1] σ (some (.int r)) σ' := by
  refine z_met (by decide +kernel) rfl (fun Y h hq => ?_)
  have h : zOk (l, rm_X2_isVertical, 2, 0, 0) Y G cX2_isVertical RX2 (some .boolean) := h
  rw [f_X2_isVertical] at hf
  refine z_sub (lv' := [(0, .ref (G.1 2)), (1, .int x1)]) [0, 1] rfl ?_
  refine z_aload_n h dX2_isVertical_0 rfl 0 rfl ?_
  refine z_gfR h zC2 (d := 20) (c := 2) tg_2 ln_2 2 rfl ft_2_2 rf_2_2 wd_32 dX2_isVertical_1 ?_
  refine z_aload_n h dX2_isVertical_4 rfl 0 rfl ?_
  refine z_gfR h zC2 (d := 23) (c := 2) tg_2 ln_2 5 rfl ft_2_5 rf_2_5 wd_35 dX2_isVertical_5 ?_
  refine z_iload_n h dX2_isVertical_8 rfl 1 rfl ?_
  obtain ⟨g1, hf⟩ := ck_out hf
  refine z_iald h (c := 23) tg_23 ln_23 g1 dX2_isVertical_9 ?_
  obtain ⟨g2, hf⟩ := ck_out hf
  refine z_iald h (c := 20) tg_20 ln_20 g2 dX2_isVertical_10 ?_
  refine z_aload_n h dX2_isVertical_11 rfl 0 rfl ?_
  refine z_gfR h zC2 (d := 20) (c := 2) tg_2 ln_2 2 rfl ft_2_2 rf_2_2 wd_32 dX2_isVertical_12 ?_
  refine z_aload_n h dX2_isVertical_15 rfl 0 rfl ?_
  refine z_gfR h zC2 (d := 24) (c := 2) tg_2 ln_2 6 rfl ft_2_6 rf_2_6 wd_36 dX2_isVertical_16 ?_
  refine z_iload_n h dX2_isVertical_19 rfl 1 rfl ?_
  obtain ⟨g3, hf⟩ := ck_out hf
  refine z_iald h (c := 24) tg_24 ln_24 g3 dX2_isVertical_20 ?_
  obtain ⟨g4, hf⟩ := ck_out hf
  refine z_iald h (c := 20) tg_20 ln_20 g4 dX2_isVertical_21 ?_
  refine z_icmp_ne h (tgt := 29) dX2_isVertical_22 (by decide) (fun g5 => ?_) (fun g5 => ?_)
  · have hf := it_neg g5 hf
    refine z_iconst h (v := (0 : Int32)) dX2_isVertical_29 ic_0 ?_
    exact z_zret h rfl (rt_I hf hq) dX2_isVertical_30
  · have hf := it_pos g5 hf
    refine z_iconst h (v := (1 : Int32)) dX2_isVertical_25 ic_1 ?_
    refine z_goto h (tgt := 30) dX2_isVertical_26 (by decide) ?_
    exact z_zret h rfl (rt_I hf hq) dX2_isVertical_30
theorem dX2_length_0 : decode cX2_length 0 = .ok (.aload_n 0, 1) := by decide +kernel
theorem dX2_length_1 : decode cX2_length 1 = .ok (.getfield 9, 3) := by decide +kernel
theorem dX2_length_4 : decode cX2_length 4 = .ok (.aload_n 0, 1) := by decide +kernel
theorem dX2_length_5 : decode cX2_length 5 = .ok (.getfield 24, 3) := by decide +kernel
theorem dX2_length_8 : decode cX2_length 8 = .ok (.iload_n 1, 1) := by decide +kernel
theorem dX2_length_9 : decode cX2_length 9 = .ok (.iaload, 1) := by decide +kernel
theorem dX2_length_10 : decode cX2_length 10 = .ok (.iaload, 1) := by decide +kernel
theorem dX2_length_11 : decode cX2_length 11 = .ok (.aload_n 0, 1) := by decide +kernel
theorem dX2_length_12 : decode cX2_length 12 = .ok (.getfield 9, 3) := by decide +kernel
theorem dX2_length_15 : decode cX2_length 15 = .ok (.aload_n 0, 1) := by decide +kernel
theorem dX2_length_16 : decode cX2_length 16 = .ok (.getfield 21, 3) := by decide +kernel
theorem dX2_length_19 : decode cX2_length 19 = .ok (.iload_n 1, 1) := by decide +kernel
theorem dX2_length_20 : decode cX2_length 20 = .ok (.iaload, 1) := by decide +kernel
theorem dX2_length_21 : decode cX2_length 21 = .ok (.iaload, 1) := by decide +kernel
theorem dX2_length_22 : decode cX2_length 22 = .ok (.isub, 1) := by decide +kernel
theorem dX2_length_23 : decode cX2_length 23 = .ok (.aload_n 0, 1) := by decide +kernel
theorem dX2_length_24 : decode cX2_length 24 = .ok (.getfield 15, 3) := by decide +kernel
theorem dX2_length_27 : decode cX2_length 27 = .ok (.aload_n 0, 1) := by decide +kernel
theorem dX2_length_28 : decode cX2_length 28 = .ok (.getfield 24, 3) := by decide +kernel
theorem dX2_length_31 : decode cX2_length 31 = .ok (.iload_n 1, 1) := by decide +kernel
theorem dX2_length_32 : decode cX2_length 32 = .ok (.iaload, 1) := by decide +kernel
theorem dX2_length_33 : decode cX2_length 33 = .ok (.iaload, 1) := by decide +kernel
theorem dX2_length_34 : decode cX2_length 34 = .ok (.iadd, 1) := by decide +kernel
theorem dX2_length_35 : decode cX2_length 35 = .ok (.aload_n 0, 1) := by decide +kernel
theorem dX2_length_36 : decode cX2_length 36 = .ok (.getfield 15, 3) := by decide +kernel
theorem dX2_length_39 : decode cX2_length 39 = .ok (.aload_n 0, 1) := by decide +kernel
theorem dX2_length_40 : decode cX2_length 40 = .ok (.getfield 21, 3) := by decide +kernel
theorem dX2_length_43 : decode cX2_length 43 = .ok (.iload_n 1, 1) := by decide +kernel
theorem dX2_length_44 : decode cX2_length 44 = .ok (.iaload, 1) := by decide +kernel
theorem dX2_length_45 : decode cX2_length 45 = .ok (.iaload, 1) := by decide +kernel
theorem dX2_length_46 : decode cX2_length 46 = .ok (.isub, 1) := by decide +kernel
theorem dX2_length_47 : decode cX2_length 47 = .ok (.ireturn, 1) := by decide +kernel
abbrev rm_X2_length : Room := { frames := 0, cells := 0, slots := 0, locals := 0 }
noncomputable def f_X2_length (N : Nat) (x1 : Int32) (σ : ZS) : Option (Int32 × ZS) := ck (inb x1 6) (ck (inb (gI σ 24 (x1.toNatClampNeg)) 7) (ck (inb x1 6) (ck (inb (gI σ 23 (x1.toNatClampNeg)) 7) (ck (inb x1 6) (ck (inb (gI σ 24 (x1.toNatClampNeg)) 7) (ck (inb x1 6) (ck (inb (gI σ 23 (x1.toNatClampNeg)) 7) (some ((((gI σ 20 ((gI σ 24 (x1.toNatClampNeg)).toNatClampNeg)) - (gI σ 20 ((gI σ 23 (x1.toNatClampNeg)).toNatClampNeg))) + (gI σ 21 ((gI σ 24 (x1.toNatClampNeg)).toNatClampNeg))) - (gI σ 21 ((gI σ 23 (x1.toNatClampNeg)).toNatClampNeg)), σ)))))))))
set_option maxHeartbeats 4000000 in
set_option maxRecDepth 100000 in
theorem c_X2_length (l : Launch) (G : ZG) {N : Nat} {x1 : Int32} {σ σ' : ZS} {r : Int32} (hf : f_X2_length N x1 σ = some (r, σ')) : zMet l G yX2_length cX2_length 2 (some .int) rm_X2_length [.ref (G.1 2), .int x1] σ (some (.int r)) σ' := by
  refine z_met (by decide +kernel) rfl (fun Y h hq => ?_)
  have h : zOk (l, rm_X2_length, 2, 0, 0) Y G cX2_length RX2 (some .int) := h
  rw [f_X2_length] at hf
  refine z_sub (lv' := [(0, .ref (G.1 2)), (1, .int x1)]) [0, 1] rfl ?_
  refine z_aload_n h dX2_length_0 rfl 0 rfl ?_
  refine z_gfR h zC2 (d := 20) (c := 2) tg_2 ln_2 2 rfl ft_2_2 rf_2_2 wd_32 dX2_length_1 ?_
  refine z_aload_n h dX2_length_4 rfl 0 rfl ?_
  refine z_gfR h zC2 (d := 24) (c := 2) tg_2 ln_2 6 rfl ft_2_6 rf_2_6 wd_36 dX2_length_5 ?_
  refine z_iload_n h dX2_length_8 rfl 1 rfl ?_
  obtain ⟨g1, hf⟩ := ck_out hf
  refine z_iald h (c := 24) tg_24 ln_24 g1 dX2_length_9 ?_
  obtain ⟨g2, hf⟩ := ck_out hf
  refine z_iald h (c := 20) tg_20 ln_20 g2 dX2_length_10 ?_
  refine z_aload_n h dX2_length_11 rfl 0 rfl ?_
  refine z_gfR h zC2 (d := 20) (c := 2) tg_2 ln_2 2 rfl ft_2_2 rf_2_2 wd_32 dX2_length_12 ?_
  refine z_aload_n h dX2_length_15 rfl 0 rfl ?_
  refine z_gfR h zC2 (d := 23) (c := 2) tg_2 ln_2 5 rfl ft_2_5 rf_2_5 wd_35 dX2_length_16 ?_
  refine z_iload_n h dX2_length_19 rfl 1 rfl ?_
  obtain ⟨g3, hf⟩ := ck_out hf
  refine z_iald h (c := 23) tg_23 ln_23 g3 dX2_length_20 ?_
  obtain ⟨g4, hf⟩ := ck_out hf
  refine z_iald h (c := 20) tg_20 ln_20 g4 dX2_length_21 ?_
  refine z_isub h dX2_length_22 ?_
  refine z_aload_n h dX2_length_23 rfl 0 rfl ?_
  refine z_gfR h zC2 (d := 21) (c := 2) tg_2 ln_2 3 rfl ft_2_3 rf_2_3 wd_33 dX2_length_24 ?_
  refine z_aload_n h dX2_length_27 rfl 0 rfl ?_
  refine z_gfR h zC2 (d := 24) (c := 2) tg_2 ln_2 6 rfl ft_2_6 rf_2_6 wd_36 dX2_length_28 ?_
  refine z_iload_n h dX2_length_31 rfl 1 rfl ?_
  obtain ⟨g5, hf⟩ := ck_out hf
  refine z_iald h (c := 24) tg_24 ln_24 g5 dX2_length_32 ?_
  obtain ⟨g6, hf⟩ := ck_out hf
  refine z_iald h (c := 21) tg_21 ln_21 g6 dX2_length_33 ?_
  refine z_iadd h dX2_length_34 ?_
  refine z_aload_n h dX2_length_35 rfl 0 rfl ?_
  refine z_gfR h zC2 (d := 21) (c := 2) tg_2 ln_2 3 rfl ft_2_3 rf_2_3 wd_33 dX2_length_36 ?_
  refine z_aload_n h dX2_length_39 rfl 0 rfl ?_
  refine z_gfR h zC2 (d := 23) (c := 2) tg_2 ln_2 5 rfl ft_2_5 rf_2_5 wd_35 dX2_length_40 ?_
  refine z_iload_n h dX2_length_43 rfl 1 rfl ?_
  obtain ⟨g7, hf⟩ := ck_out hf
  refine z_iald h (c := 23) tg_23 ln_23 g7 dX2_length_44 ?_
  obtain ⟨g8, hf⟩ := ck_out hf
  refine z_iald h (c := 21) tg_21 ln_21 g8 dX2_length_45 ?_
  refine z_isub h dX2_length_46 ?_
  exact z_iret h (rt_I hf hq) dX2_length_47
theorem dX2_loadedNodes_0 : decode cX2_loadedNodes 0 = .ok (.iconst 0, 1) := by decide +kernel
theorem dX2_loadedNodes_1 : decode cX2_loadedNodes 1 = .ok (.istore_n 2, 1) := by decide +kernel
theorem dX2_loadedNodes_2 : decode cX2_loadedNodes 2 = .ok (.iconst 0, 1) := by decide +kernel
theorem dX2_loadedNodes_3 : decode cX2_loadedNodes 3 = .ok (.istore_n 3, 1) := by decide +kernel
theorem dX2_loadedNodes_4 : decode cX2_loadedNodes 4 = .ok (.iload_n 3, 1) := by decide +kernel
theorem dX2_loadedNodes_5 : decode cX2_loadedNodes 5 = .ok (.aload_n 0, 1) := by decide +kernel
theorem dX2_loadedNodes_6 : decode cX2_loadedNodes 6 = .ok (.getfield 35, 3) := by decide +kernel
theorem dX2_loadedNodes_9 : decode cX2_loadedNodes 9 = .ok (.if_icmp .ge 40, 3) := by decide +kernel
theorem dX2_loadedNodes_12 : decode cX2_loadedNodes 12 = .ok (.aload_n 0, 1) := by decide +kernel
theorem dX2_loadedNodes_13 : decode cX2_loadedNodes 13 = .ok (.getfield 32, 3) := by decide +kernel
theorem dX2_loadedNodes_16 : decode cX2_loadedNodes 16 = .ok (.iconst 2, 1) := by decide +kernel
theorem dX2_loadedNodes_17 : decode cX2_loadedNodes 17 = .ok (.iload_n 1, 1) := by decide +kernel
theorem dX2_loadedNodes_18 : decode cX2_loadedNodes 18 = .ok (.imul, 1) := by decide +kernel
theorem dX2_loadedNodes_19 : decode cX2_loadedNodes 19 = .ok (.aaload, 1) := by decide +kernel
theorem dX2_loadedNodes_20 : decode cX2_loadedNodes 20 = .ok (.iload_n 3, 1) := by decide +kernel
theorem dX2_loadedNodes_21 : decode cX2_loadedNodes 21 = .ok (.iaload, 1) := by decide +kernel
theorem dX2_loadedNodes_22 : decode cX2_loadedNodes 22 = .ok (.ifCond .ne 18, 3) := by decide +kernel
theorem dX2_loadedNodes_25 : decode cX2_loadedNodes 25 = .ok (.aload_n 0, 1) := by decide +kernel
theorem dX2_loadedNodes_26 : decode cX2_loadedNodes 26 = .ok (.getfield 32, 3) := by decide +kernel
theorem dX2_loadedNodes_29 : decode cX2_loadedNodes 29 = .ok (.iconst 2, 1) := by decide +kernel
theorem dX2_loadedNodes_30 : decode cX2_loadedNodes 30 = .ok (.iload_n 1, 1) := by decide +kernel
theorem dX2_loadedNodes_31 : decode cX2_loadedNodes 31 = .ok (.imul, 1) := by decide +kernel
theorem dX2_loadedNodes_32 : decode cX2_loadedNodes 32 = .ok (.iconst 1, 1) := by decide +kernel
theorem dX2_loadedNodes_33 : decode cX2_loadedNodes 33 = .ok (.iadd, 1) := by decide +kernel
theorem dX2_loadedNodes_34 : decode cX2_loadedNodes 34 = .ok (.aaload, 1) := by decide +kernel
theorem dX2_loadedNodes_35 : decode cX2_loadedNodes 35 = .ok (.iload_n 3, 1) := by decide +kernel
theorem dX2_loadedNodes_36 : decode cX2_loadedNodes 36 = .ok (.iaload, 1) := by decide +kernel
theorem dX2_loadedNodes_37 : decode cX2_loadedNodes 37 = .ok (.ifCond .eq 6, 3) := by decide +kernel
theorem dX2_loadedNodes_40 : decode cX2_loadedNodes 40 = .ok (.iinc 2 1, 3) := by decide +kernel
theorem dX2_loadedNodes_43 : decode cX2_loadedNodes 43 = .ok (.iinc 3 1, 3) := by decide +kernel
theorem dX2_loadedNodes_46 : decode cX2_loadedNodes 46 = .ok (.goto (-42), 3) := by decide +kernel
theorem dX2_loadedNodes_49 : decode cX2_loadedNodes 49 = .ok (.iload_n 2, 1) := by decide +kernel
theorem dX2_loadedNodes_50 : decode cX2_loadedNodes 50 = .ok (.ireturn, 1) := by decide +kernel
abbrev rm_X2_loadedNodes : Room := { frames := 0, cells := 0, slots := 0, locals := 0 }
noncomputable def f_X2_loadedNodes_b43 (N : Nat) (kb4 : Int32 → Int32 → ZS → Option (Int32 × ZS)) (x1 : Int32) (x2 : Int32) (x3 : Int32) (σ : ZS) : Option (Int32 × ZS) := bd (x3 + (1 : Int32)) fun v7 => kb4 x2 v7 σ
noncomputable def f_X2_loadedNodes_b40 (N : Nat) (kb4 : Int32 → Int32 → ZS → Option (Int32 × ZS)) (x1 : Int32) (x2 : Int32) (x3 : Int32) (σ : ZS) : Option (Int32 × ZS) := bd (x2 + (1 : Int32)) fun v6 => f_X2_loadedNodes_b43 N kb4 x1 v6 x3 σ
noncomputable def f_X2_loadedNodes_h4 (N : Nat) (x1 : Int32) : Nat → Int32 → Int32 → ZS → Option (Int32 × ZS)
  | 0, _, _, _ => none
  | n + 1, x2, x3, σ => (if (gI σ 2 0) ≤ x3 then some (x2, σ) else ck (inb ((2 : Int32) * x1) 6) (ck (tg (38 + ((2 : Int32) * x1).toNatClampNeg) == 1) (ck (inb x3 (ln (38 + ((2 : Int32) * x1).toNatClampNeg))) ((if (gI σ (38 + ((2 : Int32) * x1).toNatClampNeg) (x3.toNatClampNeg)) = 0 then ck (inb (((2 : Int32) * x1) + (1 : Int32)) 6) (ck (tg (38 + (((2 : Int32) * x1) + (1 : Int32)).toNatClampNeg) == 1) (ck (inb x3 (ln (38 + (((2 : Int32) * x1) + (1 : Int32)).toNatClampNeg))) ((if (gI σ (38 + (((2 : Int32) * x1) + (1 : Int32)).toNatClampNeg) (x3.toNatClampNeg)) = 0 then f_X2_loadedNodes_b43 N (fun x2_ x3_ σ_ => f_X2_loadedNodes_h4 N x1 n x2_ x3_ σ_) x1 x2 x3 σ else f_X2_loadedNodes_b40 N (fun x2_ x3_ σ_ => f_X2_loadedNodes_h4 N x1 n x2_ x3_ σ_) x1 x2 x3 σ)))) else f_X2_loadedNodes_b40 N (fun x2_ x3_ σ_ => f_X2_loadedNodes_h4 N x1 n x2_ x3_ σ_) x1 x2 x3 σ)))))
noncomputable def f_X2_loadedNodes (N : Nat) (x1 : Int32) (σ : ZS) : Option (Int32 × ZS) := f_X2_loadedNodes_h4 N x1 N (0 : Int32) (0 : Int32) σ
set_option maxHeartbeats 4000000 in
set_option maxRecDepth 100000 in
theorem k_X2_loadedNodes_b43 {l : Launch} {Y : ZY} {G : ZG} {r : Int32} {σ' : ZS} (h : zOk (l, rm_X2_loadedNodes, 4, 0, 0) Y G cX2_loadedNodes RX2 (some .int)) (hq : zRet (l, rm_X2_loadedNodes, 4, 0, 0) Y G (some (.int r)) σ') (N : Nat) {kb4 : Int32 → Int32 → ZS → Option (Int32 × ZS)} (x1 : Int32) (x2 : Int32) (x3 : Int32) (hb4 : ∀ (x2_ : Int32) (x3_ : Int32) (σ_ : ZS), kb4 x2_ x3_ σ_ = some (r, σ') → Z (l, rm_X2_loadedNodes, 4, 0, 0) Y G σ_ [(0, .ref (G.1 2)), (1, .int x1), (2, .int x2_), (3, .int x3_)] [] 4) (σ : ZS) (hf : f_X2_loadedNodes_b43 N kb4 x1 x2 x3 σ = some (r, σ')) : Z (l, rm_X2_loadedNodes, 4, 0, 0) Y G σ [(0, .ref (G.1 2)), (1, .int x1), (2, .int x2), (3, .int x3)] [] 43 := by
  rw [f_X2_loadedNodes_b43] at hf
  obtain ⟨v7, ev7, hf⟩ := bd_ex hf
  refine z_iinc h (v := v7) (lv' := [(3, .int v7), (0, .ref (G.1 2)), (1, .int x1), (2, .int x2)]) dX2_loadedNodes_43 3 rfl (by rw [ev7]; rfl) rfl rfl ?_
  refine z_goto h (tgt := 4) dX2_loadedNodes_46 (by decide) ?_
  exact z_sub [1, 2, 3, 0] rfl (hb4 _ _ _ hf)
set_option maxHeartbeats 4000000 in
set_option maxRecDepth 100000 in
theorem k_X2_loadedNodes_b40 {l : Launch} {Y : ZY} {G : ZG} {r : Int32} {σ' : ZS} (h : zOk (l, rm_X2_loadedNodes, 4, 0, 0) Y G cX2_loadedNodes RX2 (some .int)) (hq : zRet (l, rm_X2_loadedNodes, 4, 0, 0) Y G (some (.int r)) σ') (N : Nat) {kb4 : Int32 → Int32 → ZS → Option (Int32 × ZS)} (x1 : Int32) (x2 : Int32) (x3 : Int32) (hb4 : ∀ (x2_ : Int32) (x3_ : Int32) (σ_ : ZS), kb4 x2_ x3_ σ_ = some (r, σ') → Z (l, rm_X2_loadedNodes, 4, 0, 0) Y G σ_ [(0, .ref (G.1 2)), (1, .int x1), (2, .int x2_), (3, .int x3_)] [] 4) (σ : ZS) (hf : f_X2_loadedNodes_b40 N kb4 x1 x2 x3 σ = some (r, σ')) : Z (l, rm_X2_loadedNodes, 4, 0, 0) Y G σ [(0, .ref (G.1 2)), (1, .int x1), (2, .int x2), (3, .int x3)] [] 40 := by
  rw [f_X2_loadedNodes_b40] at hf
  obtain ⟨v6, ev6, hf⟩ := bd_ex hf
  refine z_iinc h (v := v6) (lv' := [(2, .int v6), (0, .ref (G.1 2)), (1, .int x1), (3, .int x3)]) dX2_loadedNodes_40 2 rfl (by rw [ev6]; rfl) rfl rfl ?_
  exact z_sub [1, 2, 0, 3] rfl (k_X2_loadedNodes_b43 h hq N x1 v6 x3 hb4 _ hf)
set_option maxHeartbeats 4000000 in
set_option maxRecDepth 100000 in
theorem k_X2_loadedNodes_h4 {l : Launch} {Y : ZY} {G : ZG} {r : Int32} {σ' : ZS} (h : zOk (l, rm_X2_loadedNodes, 4, 0, 0) Y G cX2_loadedNodes RX2 (some .int)) (hq : zRet (l, rm_X2_loadedNodes, 4, 0, 0) Y G (some (.int r)) σ') (N : Nat) (x1 : Int32) : ∀ (n : Nat) (x2 : Int32) (x3 : Int32) (σ : ZS), f_X2_loadedNodes_h4 N x1 n x2 x3 σ = some (r, σ') → Z (l, rm_X2_loadedNodes, 4, 0, 0) Y G σ [(0, .ref (G.1 2)), (1, .int x1), (2, .int x2), (3, .int x3)] [] 4 := by
  intro n
  induction n with
  | zero =>
    intro x2 x3 σ hf
    rw [f_X2_loadedNodes_h4] at hf
    cases hf
  | succ n ih =>
    intro x2 x3 σ hf
    rw [f_X2_loadedNodes_h4] at hf
    refine z_iload_n h dX2_loadedNodes_4 rfl 3 rfl ?_
    refine z_aload_n h dX2_loadedNodes_5 rfl 0 rfl ?_
    refine z_gfI h zC2 (c := 2) tg_2 ln_2 0 rfl ft_2_0 wd_140 dX2_loadedNodes_6 ?_
    refine z_icmp_ge h (tgt := 49) dX2_loadedNodes_9 (by decide) (fun g1 => ?_) (fun g1 => ?_)
    · have hf := it_pos g1 hf
      refine z_iload_n h dX2_loadedNodes_49 rfl 2 rfl ?_
      exact z_iret h (rt_I hf hq) dX2_loadedNodes_50
    · have hf := it_neg g1 hf
      refine z_aload_n h dX2_loadedNodes_12 rfl 0 rfl ?_
      refine z_gfR h zC2 (d := 13) (c := 2) tg_2 ln_2 8 rfl ft_2_8 rf_2_8 wd_39 dX2_loadedNodes_13 ?_
      refine z_iconst h (v := (2 : Int32)) dX2_loadedNodes_16 ic_2 ?_
      refine z_iload_n h dX2_loadedNodes_17 rfl 1 rfl ?_
      refine z_imul h dX2_loadedNodes_18 ?_
      obtain ⟨g2, hf⟩ := ck_out hf
      refine z_aald h (c := 13) (d := 38 + ((2 : Int32) * x1).toNatClampNeg) tg_13 rfl ln_13 rfl g2 dX2_loadedNodes_19 ?_
      refine z_iload_n h dX2_loadedNodes_20 rfl 3 rfl ?_
      obtain ⟨g3, hf⟩ := ck_out hf
      obtain ⟨g4, hf⟩ := ck_out hf
      refine z_iald h (eq_of_beq g3) rfl g4 dX2_loadedNodes_21 ?_
      refine z_if_ne h (tgt := 40) dX2_loadedNodes_22 (by decide) (fun g5 => ?_) (fun g5 => ?_)
      · have hf := it_neg g5 hf
        exact z_sub [0, 1, 2, 3] rfl (k_X2_loadedNodes_b40 h hq N x1 x2 x3 (fun x2_ x3_ σ_ hf_ => ih x2_ x3_ σ_ hf_) _ hf)
      · have hf := it_pos g5 hf
        refine z_aload_n h dX2_loadedNodes_25 rfl 0 rfl ?_
        refine z_gfR h zC2 (d := 13) (c := 2) tg_2 ln_2 8 rfl ft_2_8 rf_2_8 wd_39 dX2_loadedNodes_26 ?_
        refine z_iconst h (v := (2 : Int32)) dX2_loadedNodes_29 ic_2 ?_
        refine z_iload_n h dX2_loadedNodes_30 rfl 1 rfl ?_
        refine z_imul h dX2_loadedNodes_31 ?_
        refine z_iconst h (v := (1 : Int32)) dX2_loadedNodes_32 ic_1 ?_
        refine z_iadd h dX2_loadedNodes_33 ?_
        obtain ⟨g8, hf⟩ := ck_out hf
        refine z_aald h (c := 13) (d := 38 + (((2 : Int32) * x1) + (1 : Int32)).toNatClampNeg) tg_13 rfl ln_13 rfl g8 dX2_loadedNodes_34 ?_
        refine z_iload_n h dX2_loadedNodes_35 rfl 3 rfl ?_
        obtain ⟨g9, hf⟩ := ck_out hf
        obtain ⟨g10, hf⟩ := ck_out hf
        refine z_iald h (eq_of_beq g9) rfl g10 dX2_loadedNodes_36 ?_
        refine z_if_eq h (tgt := 43) dX2_loadedNodes_37 (by decide) (fun g11 => ?_) (fun g11 => ?_)
        · have hf := it_pos g11 hf
          exact z_sub [0, 1, 2, 3] rfl (k_X2_loadedNodes_b43 h hq N x1 x2 x3 (fun x2_ x3_ σ_ hf_ => ih x2_ x3_ σ_ hf_) _ hf)
        · have hf := it_neg g11 hf
          exact z_sub [0, 1, 2, 3] rfl (k_X2_loadedNodes_b40 h hq N x1 x2 x3 (fun x2_ x3_ σ_ hf_ => ih x2_ x3_ σ_ hf_) _ hf)
set_option maxHeartbeats 4000000 in
set_option maxRecDepth 100000 in
theorem c_X2_loadedNodes (l : Launch) (G : ZG) {N : Nat} {x1 : Int32} {σ σ' : ZS} {r : Int32} (hf : f_X2_loadedNodes N x1 σ = some (r, σ')) : zMet l G yX2_loadedNodes cX2_loadedNodes 4 (some .int) rm_X2_loadedNodes [.ref (G.1 2), .int x1] σ (some (.int r)) σ' := by
  refine z_met (by decide +kernel) rfl (fun Y h hq => ?_)
  have h : zOk (l, rm_X2_loadedNodes, 4, 0, 0) Y G cX2_loadedNodes RX2 (some .int) := h
  rw [f_X2_loadedNodes] at hf
  refine z_sub (lv' := [(0, .ref (G.1 2)), (1, .int x1)]) [0, 1] rfl ?_
  refine z_iconst h (v := (0 : Int32)) dX2_loadedNodes_0 ic_0 ?_
  refine z_istore_n h dX2_loadedNodes_1 rfl (lv' := [(2, .int (0 : Int32)), (0, .ref (G.1 2)), (1, .int x1)]) rfl rfl ?_
  refine z_iconst h (v := (0 : Int32)) dX2_loadedNodes_2 ic_0 ?_
  refine z_istore_n h dX2_loadedNodes_3 rfl (lv' := [(3, .int (0 : Int32)), (2, .int (0 : Int32)), (0, .ref (G.1 2)), (1, .int x1)]) rfl rfl ?_
  exact z_sub [2, 3, 1, 0] rfl (k_X2_loadedNodes_h4 h hq N x1 _ _ _ _ hf)
theorem dX2_shifts_0 : decode cX2_shifts 0 = .ok (.aload_n 0, 1) := by decide +kernel
theorem dX2_shifts_1 : decode cX2_shifts 1 = .ok (.getfield 18, 3) := by decide +kernel
theorem dX2_shifts_4 : decode cX2_shifts 4 = .ok (.iload_n 1, 1) := by decide +kernel
theorem dX2_shifts_5 : decode cX2_shifts 5 = .ok (.iaload, 1) := by decide +kernel
theorem dX2_shifts_6 : decode cX2_shifts 6 = .ok (.ifCond .eq 17, 3) := by decide +kernel
theorem dX2_shifts_9 : decode cX2_shifts 9 = .ok (.aload_n 0, 1) := by decide +kernel
theorem dX2_shifts_10 : decode cX2_shifts 10 = .ok (.getfield 18, 3) := by decide +kernel
theorem dX2_shifts_13 : decode cX2_shifts 13 = .ok (.iload_n 1, 1) := by decide +kernel
theorem dX2_shifts_14 : decode cX2_shifts 14 = .ok (.iaload, 1) := by decide +kernel
theorem dX2_shifts_15 : decode cX2_shifts 15 = .ok (.iconst 3, 1) := by decide +kernel
theorem dX2_shifts_16 : decode cX2_shifts 16 = .ok (.if_icmp .ne 11, 3) := by decide +kernel
theorem dX2_shifts_19 : decode cX2_shifts 19 = .ok (.iload_n 2, 1) := by decide +kernel
theorem dX2_shifts_20 : decode cX2_shifts 20 = .ok (.ifCond .ne 7, 3) := by decide +kernel
theorem dX2_shifts_23 : decode cX2_shifts 23 = .ok (.iconst 1, 1) := by decide +kernel
theorem dX2_shifts_24 : decode cX2_shifts 24 = .ok (.goto 4, 3) := by decide +kernel
theorem dX2_shifts_27 : decode cX2_shifts 27 = .ok (.iconst 0, 1) := by decide +kernel
theorem dX2_shifts_28 : decode cX2_shifts 28 = .ok (.ireturn, 1) := by decide +kernel
abbrev rm_X2_shifts : Room := { frames := 0, cells := 0, slots := 0, locals := 0 }
noncomputable def f_X2_shifts_b23 (N : Nat) (σ : ZS) : Option (Int32 × ZS) := some ((1 : Int32), σ)
noncomputable def f_X2_shifts (N : Nat) (x1 : Int32) (x2 : Int32) (σ : ZS) : Option (Int32 × ZS) := ck (inb x1 7) ((if (gI σ 22 (x1.toNatClampNeg)) = 0 then f_X2_shifts_b23 N σ else ck (inb x1 7) ((if (gI σ 22 (x1.toNatClampNeg)) = (3 : Int32) then (if x2 = 0 then f_X2_shifts_b23 N σ else some ((0 : Int32), σ)) else some ((0 : Int32), σ)))))
set_option maxHeartbeats 4000000 in
set_option maxRecDepth 100000 in
theorem k_X2_shifts_b23 {l : Launch} {Y : ZY} {G : ZG} {r : Int32} {σ' : ZS} (h : zOk (l, rm_X2_shifts, 3, 0, 0) Y G cX2_shifts RX2 (some .boolean)) (hq : zRet (l, rm_X2_shifts, 3, 0, 0) Y G (some (.int r)) σ') (N : Nat) (σ : ZS) (hf : f_X2_shifts_b23 N σ = some (r, σ')) : Z (l, rm_X2_shifts, 3, 0, 0) Y G σ [] [] 23 := by
  rw [f_X2_shifts_b23] at hf
  refine z_iconst h (v := (1 : Int32)) dX2_shifts_23 ic_1 ?_
  refine z_goto h (tgt := 28) dX2_shifts_24 (by decide) ?_
  exact z_zret h rfl (rt_I hf hq) dX2_shifts_28
set_option maxHeartbeats 4000000 in
set_option maxRecDepth 100000 in
theorem c_X2_shifts (l : Launch) (G : ZG) {N : Nat} {x1 : Int32} {x2 : Int32} {σ σ' : ZS} {r : Int32} (hf : f_X2_shifts N x1 x2 σ = some (r, σ')) : zMet l G yX2_shifts cX2_shifts 3 (some .boolean) rm_X2_shifts [.ref (G.1 2), .int x1, .int x2] σ (some (.int r)) σ' := by
  refine z_met (by decide +kernel) rfl (fun Y h hq => ?_)
  have h : zOk (l, rm_X2_shifts, 3, 0, 0) Y G cX2_shifts RX2 (some .boolean) := h
  rw [f_X2_shifts] at hf
  refine z_sub (lv' := [(0, .ref (G.1 2)), (1, .int x1), (2, .int x2)]) [0, 1, 2] rfl ?_
  refine z_aload_n h dX2_shifts_0 rfl 0 rfl ?_
  refine z_gfR h zC2 (d := 22) (c := 2) tg_2 ln_2 4 rfl ft_2_4 rf_2_4 wd_34 dX2_shifts_1 ?_
  refine z_iload_n h dX2_shifts_4 rfl 1 rfl ?_
  obtain ⟨g1, hf⟩ := ck_out hf
  refine z_iald h (c := 22) tg_22 ln_22 g1 dX2_shifts_5 ?_
  refine z_if_eq h (tgt := 23) dX2_shifts_6 (by decide) (fun g2 => ?_) (fun g2 => ?_)
  · have hf := it_pos g2 hf
    exact z_sub [] rfl (k_X2_shifts_b23 h hq N _ hf)
  · have hf := it_neg g2 hf
    refine z_aload_n h dX2_shifts_9 rfl 0 rfl ?_
    refine z_gfR h zC2 (d := 22) (c := 2) tg_2 ln_2 4 rfl ft_2_4 rf_2_4 wd_34 dX2_shifts_10 ?_
    refine z_iload_n h dX2_shifts_13 rfl 1 rfl ?_
    obtain ⟨g3, hf⟩ := ck_out hf
    refine z_iald h (c := 22) tg_22 ln_22 g3 dX2_shifts_14 ?_
    refine z_iconst h (v := (3 : Int32)) dX2_shifts_15 ic_3 ?_
    refine z_icmp_ne h (tgt := 27) dX2_shifts_16 (by decide) (fun g4 => ?_) (fun g4 => ?_)
    · have hf := it_neg g4 hf
      refine z_iconst h (v := (0 : Int32)) dX2_shifts_27 ic_0 ?_
      exact z_zret h rfl (rt_I hf hq) dX2_shifts_28
    · have hf := it_pos g4 hf
      refine z_iload_n h dX2_shifts_19 rfl 2 rfl ?_
      refine z_if_ne h (tgt := 27) dX2_shifts_20 (by decide) (fun g5 => ?_) (fun g5 => ?_)
      · have hf := it_neg g5 hf
        refine z_iconst h (v := (0 : Int32)) dX2_shifts_27 ic_0 ?_
        exact z_zret h rfl (rt_I hf hq) dX2_shifts_28
      · have hf := it_pos g5 hf
        exact z_sub [] rfl (k_X2_shifts_b23 h hq N _ hf)
theorem dX2_turns_0 : decode cX2_turns 0 = .ok (.aload_n 0, 1) := by decide +kernel
theorem dX2_turns_1 : decode cX2_turns 1 = .ok (.getfield 18, 3) := by decide +kernel
theorem dX2_turns_4 : decode cX2_turns 4 = .ok (.iload_n 1, 1) := by decide +kernel
theorem dX2_turns_5 : decode cX2_turns 5 = .ok (.iaload, 1) := by decide +kernel
theorem dX2_turns_6 : decode cX2_turns 6 = .ok (.iconst 2, 1) := by decide +kernel
theorem dX2_turns_7 : decode cX2_turns 7 = .ok (.if_icmp .eq 7, 3) := by decide +kernel
theorem dX2_turns_10 : decode cX2_turns 10 = .ok (.iconst 1, 1) := by decide +kernel
theorem dX2_turns_11 : decode cX2_turns 11 = .ok (.goto 4, 3) := by decide +kernel
theorem dX2_turns_14 : decode cX2_turns 14 = .ok (.iconst 0, 1) := by decide +kernel
theorem dX2_turns_15 : decode cX2_turns 15 = .ok (.ireturn, 1) := by decide +kernel
abbrev rm_X2_turns : Room := { frames := 0, cells := 0, slots := 0, locals := 0 }
noncomputable def f_X2_turns (N : Nat) (x1 : Int32) (σ : ZS) : Option (Int32 × ZS) := ck (inb x1 7) ((if (gI σ 22 (x1.toNatClampNeg)) = (2 : Int32) then some ((0 : Int32), σ) else some ((1 : Int32), σ)))
set_option maxHeartbeats 4000000 in
set_option maxRecDepth 100000 in
theorem c_X2_turns (l : Launch) (G : ZG) {N : Nat} {x1 : Int32} {σ σ' : ZS} {r : Int32} (hf : f_X2_turns N x1 σ = some (r, σ')) : zMet l G yX2_turns cX2_turns 2 (some .boolean) rm_X2_turns [.ref (G.1 2), .int x1] σ (some (.int r)) σ' := by
  refine z_met (by decide +kernel) rfl (fun Y h hq => ?_)
  have h : zOk (l, rm_X2_turns, 2, 0, 0) Y G cX2_turns RX2 (some .boolean) := h
  rw [f_X2_turns] at hf
  refine z_sub (lv' := [(0, .ref (G.1 2)), (1, .int x1)]) [0, 1] rfl ?_
  refine z_aload_n h dX2_turns_0 rfl 0 rfl ?_
  refine z_gfR h zC2 (d := 22) (c := 2) tg_2 ln_2 4 rfl ft_2_4 rf_2_4 wd_34 dX2_turns_1 ?_
  refine z_iload_n h dX2_turns_4 rfl 1 rfl ?_
  obtain ⟨g1, hf⟩ := ck_out hf
  refine z_iald h (c := 22) tg_22 ln_22 g1 dX2_turns_5 ?_
  refine z_iconst h (v := (2 : Int32)) dX2_turns_6 ic_2 ?_
  refine z_icmp_eq h (tgt := 14) dX2_turns_7 (by decide) (fun g2 => ?_) (fun g2 => ?_)
  · have hf := it_pos g2 hf
    refine z_iconst h (v := (0 : Int32)) dX2_turns_14 ic_0 ?_
    exact z_zret h rfl (rt_I hf hq) dX2_turns_15
  · have hf := it_neg g2 hf
    refine z_iconst h (v := (1 : Int32)) dX2_turns_10 ic_1 ?_
    refine z_goto h (tgt := 15) dX2_turns_11 (by decide) ?_
    exact z_zret h rfl (rt_I hf hq) dX2_turns_15
theorem dX2_freedoms_0 : decode cX2_freedoms 0 = .ok (.iconst 0, 1) := by decide +kernel
theorem dX2_freedoms_1 : decode cX2_freedoms 1 = .ok (.istore_n 1, 1) := by decide +kernel
theorem dX2_freedoms_2 : decode cX2_freedoms 2 = .ok (.iconst 0, 1) := by decide +kernel
theorem dX2_freedoms_3 : decode cX2_freedoms 3 = .ok (.istore_n 2, 1) := by decide +kernel
theorem dX2_freedoms_4 : decode cX2_freedoms 4 = .ok (.iload_n 2, 1) := by decide +kernel
theorem dX2_freedoms_5 : decode cX2_freedoms 5 = .ok (.aload_n 0, 1) := by decide +kernel
theorem dX2_freedoms_6 : decode cX2_freedoms 6 = .ok (.getfield 35, 3) := by decide +kernel
theorem dX2_freedoms_9 : decode cX2_freedoms 9 = .ok (.if_icmp .ge 55, 3) := by decide +kernel
theorem dX2_freedoms_12 : decode cX2_freedoms 12 = .ok (.iload_n 1, 1) := by decide +kernel
theorem dX2_freedoms_13 : decode cX2_freedoms 13 = .ok (.aload_n 0, 1) := by decide +kernel
theorem dX2_freedoms_14 : decode cX2_freedoms 14 = .ok (.iload_n 2, 1) := by decide +kernel
theorem dX2_freedoms_15 : decode cX2_freedoms 15 = .ok (.iconst 0, 1) := by decide +kernel
theorem dX2_freedoms_16 : decode cX2_freedoms 16 = .ok (.invokevirtual 52, 3) := by decide +kernel
theorem dX2_freedoms_19 : decode cX2_freedoms 19 = .ok (.ifCond .eq 7, 3) := by decide +kernel
theorem dX2_freedoms_22 : decode cX2_freedoms 22 = .ok (.iconst 1, 1) := by decide +kernel
theorem dX2_freedoms_23 : decode cX2_freedoms 23 = .ok (.goto 4, 3) := by decide +kernel
theorem dX2_freedoms_26 : decode cX2_freedoms 26 = .ok (.iconst 0, 1) := by decide +kernel
theorem dX2_freedoms_27 : decode cX2_freedoms 27 = .ok (.aload_n 0, 1) := by decide +kernel
theorem dX2_freedoms_28 : decode cX2_freedoms 28 = .ok (.iload_n 2, 1) := by decide +kernel
theorem dX2_freedoms_29 : decode cX2_freedoms 29 = .ok (.iconst 1, 1) := by decide +kernel
theorem dX2_freedoms_30 : decode cX2_freedoms 30 = .ok (.invokevirtual 52, 3) := by decide +kernel
theorem dX2_freedoms_33 : decode cX2_freedoms 33 = .ok (.ifCond .eq 7, 3) := by decide +kernel
theorem dX2_freedoms_36 : decode cX2_freedoms 36 = .ok (.iconst 1, 1) := by decide +kernel
theorem dX2_freedoms_37 : decode cX2_freedoms 37 = .ok (.goto 4, 3) := by decide +kernel
theorem dX2_freedoms_40 : decode cX2_freedoms 40 = .ok (.iconst 0, 1) := by decide +kernel
theorem dX2_freedoms_41 : decode cX2_freedoms 41 = .ok (.iadd, 1) := by decide +kernel
theorem dX2_freedoms_42 : decode cX2_freedoms 42 = .ok (.aload_n 0, 1) := by decide +kernel
theorem dX2_freedoms_43 : decode cX2_freedoms 43 = .ok (.iload_n 2, 1) := by decide +kernel
theorem dX2_freedoms_44 : decode cX2_freedoms 44 = .ok (.invokevirtual 56, 3) := by decide +kernel
theorem dX2_freedoms_47 : decode cX2_freedoms 47 = .ok (.ifCond .eq 7, 3) := by decide +kernel
theorem dX2_freedoms_50 : decode cX2_freedoms 50 = .ok (.iconst 1, 1) := by decide +kernel
theorem dX2_freedoms_51 : decode cX2_freedoms 51 = .ok (.goto 4, 3) := by decide +kernel
theorem dX2_freedoms_54 : decode cX2_freedoms 54 = .ok (.iconst 0, 1) := by decide +kernel
theorem dX2_freedoms_55 : decode cX2_freedoms 55 = .ok (.iadd, 1) := by decide +kernel
theorem dX2_freedoms_56 : decode cX2_freedoms 56 = .ok (.iadd, 1) := by decide +kernel
theorem dX2_freedoms_57 : decode cX2_freedoms 57 = .ok (.istore_n 1, 1) := by decide +kernel
theorem dX2_freedoms_58 : decode cX2_freedoms 58 = .ok (.iinc 2 1, 3) := by decide +kernel
theorem dX2_freedoms_61 : decode cX2_freedoms 61 = .ok (.goto (-57), 3) := by decide +kernel
theorem dX2_freedoms_64 : decode cX2_freedoms 64 = .ok (.iload_n 1, 1) := by decide +kernel
theorem dX2_freedoms_65 : decode cX2_freedoms 65 = .ok (.ireturn, 1) := by decide +kernel
abbrev rm_X2_freedoms : Room := { frames := 1, cells := 0, slots := 0, locals := 30 }
noncomputable def f_X2_freedoms_b55 (N : Nat) (kb4 : Int32 → Int32 → ZS → Option (Int32 × ZS)) (x2 : Int32) (s0 : Int32) (s1 : Int32) (s2 : Int32) (σ : ZS) : Option (Int32 × ZS) := bd (s0 + (s1 + s2)) fun v11 => bd (x2 + (1 : Int32)) fun v12 => kb4 v11 v12 σ
noncomputable def f_X2_freedoms_b41 (N : Nat) (kb4 : Int32 → Int32 → ZS → Option (Int32 × ZS)) (x2 : Int32) (s0 : Int32) (s1 : Int32) (s2 : Int32) (σ : ZS) : Option (Int32 × ZS) := obd (f_X2_turns N x2 σ) fun v8 σ9 => (if v8 = 0 then f_X2_freedoms_b55 N kb4 x2 s0 (s1 + s2) (0 : Int32) σ9 else f_X2_freedoms_b55 N kb4 x2 s0 (s1 + s2) (1 : Int32) σ9)
noncomputable def f_X2_freedoms_b27 (N : Nat) (kb4 : Int32 → Int32 → ZS → Option (Int32 × ZS)) (x2 : Int32) (s0 : Int32) (s1 : Int32) (σ : ZS) : Option (Int32 × ZS) := obd (f_X2_shifts N x2 (1 : Int32) σ) fun v5 σ6 => (if v5 = 0 then f_X2_freedoms_b41 N kb4 x2 s0 s1 (0 : Int32) σ6 else f_X2_freedoms_b41 N kb4 x2 s0 s1 (1 : Int32) σ6)
noncomputable def f_X2_freedoms_h4 (N : Nat) : Nat → Int32 → Int32 → ZS → Option (Int32 × ZS)
  | 0, _, _, _ => none
  | n + 1, x1, x2, σ => (if (gI σ 2 0) ≤ x2 then some (x1, σ) else obd (f_X2_shifts N x2 (0 : Int32) σ) fun v2 σ3 => (if v2 = 0 then f_X2_freedoms_b27 N (fun x1_ x2_ σ_ => f_X2_freedoms_h4 N n x1_ x2_ σ_) x2 x1 (0 : Int32) σ3 else f_X2_freedoms_b27 N (fun x1_ x2_ σ_ => f_X2_freedoms_h4 N n x1_ x2_ σ_) x2 x1 (1 : Int32) σ3))
noncomputable def f_X2_freedoms (N : Nat) (σ : ZS) : Option (Int32 × ZS) := f_X2_freedoms_h4 N N (0 : Int32) (0 : Int32) σ
set_option maxHeartbeats 4000000 in
set_option maxRecDepth 100000 in
theorem k_X2_freedoms_b55 {l : Launch} {Y : ZY} {G : ZG} {r : Int32} {σ' : ZS} (h : zOk (l, rm_X2_freedoms, 3, 0, 0) Y G cX2_freedoms RX2 (some .int)) (hq : zRet (l, rm_X2_freedoms, 3, 0, 0) Y G (some (.int r)) σ') (N : Nat) {kb4 : Int32 → Int32 → ZS → Option (Int32 × ZS)} (x2 : Int32) (s0 : Int32) (s1 : Int32) (s2 : Int32) (hb4 : ∀ (x1_ : Int32) (x2_ : Int32) (σ_ : ZS), kb4 x1_ x2_ σ_ = some (r, σ') → Z (l, rm_X2_freedoms, 3, 0, 0) Y G σ_ [(0, .ref (G.1 2)), (1, .int x1_), (2, .int x2_)] [] 4) (σ : ZS) (hf : f_X2_freedoms_b55 N kb4 x2 s0 s1 s2 σ = some (r, σ')) : Z (l, rm_X2_freedoms, 3, 0, 0) Y G σ [(0, .ref (G.1 2)), (2, .int x2)] [.int s2, .int s1, .int s0] 55 := by
  rw [f_X2_freedoms_b55] at hf
  refine z_iadd h dX2_freedoms_55 ?_
  refine z_iadd h dX2_freedoms_56 ?_
  refine z_topI (fun v11 ev11 => ?_)
  have hf := bd_to ev11 hf
  refine z_istore_n h dX2_freedoms_57 rfl (lv' := [(1, .int v11), (0, .ref (G.1 2)), (2, .int x2)]) rfl rfl ?_
  obtain ⟨v12, ev12, hf⟩ := bd_ex hf
  refine z_iinc h (v := v12) (lv' := [(2, .int v12), (1, .int v11), (0, .ref (G.1 2))]) dX2_freedoms_58 2 rfl (by rw [ev12]; rfl) rfl rfl ?_
  refine z_goto h (tgt := 4) dX2_freedoms_61 (by decide) ?_
  exact z_sub [2, 1, 0] rfl (hb4 _ _ _ hf)
set_option maxHeartbeats 4000000 in
set_option maxRecDepth 100000 in
theorem k_X2_freedoms_b41 {l : Launch} {Y : ZY} {G : ZG} {r : Int32} {σ' : ZS} (h : zOk (l, rm_X2_freedoms, 3, 0, 0) Y G cX2_freedoms RX2 (some .int)) (hq : zRet (l, rm_X2_freedoms, 3, 0, 0) Y G (some (.int r)) σ') (N : Nat) {kb4 : Int32 → Int32 → ZS → Option (Int32 × ZS)} (x2 : Int32) (s0 : Int32) (s1 : Int32) (s2 : Int32) (hb4 : ∀ (x1_ : Int32) (x2_ : Int32) (σ_ : ZS), kb4 x1_ x2_ σ_ = some (r, σ') → Z (l, rm_X2_freedoms, 3, 0, 0) Y G σ_ [(0, .ref (G.1 2)), (1, .int x1_), (2, .int x2_)] [] 4) (σ : ZS) (hf : f_X2_freedoms_b41 N kb4 x2 s0 s1 s2 σ = some (r, σ')) : Z (l, rm_X2_freedoms, 3, 0, 0) Y G σ [(0, .ref (G.1 2)), (2, .int x2)] [.int s2, .int s1, .int s0] 41 := by
  rw [f_X2_freedoms_b41] at hf
  refine z_iadd h dX2_freedoms_41 ?_
  refine z_aload_n h dX2_freedoms_42 rfl 0 rfl ?_
  refine z_iload_n h dX2_freedoms_43 rfl 1 rfl ?_
  obtain ⟨v8, σ9, e9, hf⟩ := obd_out hf
  refine z_cVv h (n := 1) (c_X2_turns l G e9) zC2 tg_2 ln_2 rfl rfl wd_419 wd_324 wd_325 wd_14 wd_326 (by decide +kernel) ⟨rfl, rfl⟩ rfl rfl rfl dX2_freedoms_44 ⟨Nat.zero_le _, Nat.zero_le _⟩ ?_
  refine z_if_eq h (tgt := 54) dX2_freedoms_47 (by decide) (fun g10 => ?_) (fun g10 => ?_)
  · have hf := it_pos g10 hf
    refine z_iconst h (v := (0 : Int32)) dX2_freedoms_54 ic_0 ?_
    exact z_sub [0, 1] rfl (k_X2_freedoms_b55 h hq N x2 s0 (s1 + s2) (0 : Int32) hb4 _ hf)
  · have hf := it_neg g10 hf
    refine z_iconst h (v := (1 : Int32)) dX2_freedoms_50 ic_1 ?_
    refine z_goto h (tgt := 55) dX2_freedoms_51 (by decide) ?_
    exact z_sub [0, 1] rfl (k_X2_freedoms_b55 h hq N x2 s0 (s1 + s2) (1 : Int32) hb4 _ hf)
set_option maxHeartbeats 4000000 in
set_option maxRecDepth 100000 in
theorem k_X2_freedoms_b27 {l : Launch} {Y : ZY} {G : ZG} {r : Int32} {σ' : ZS} (h : zOk (l, rm_X2_freedoms, 3, 0, 0) Y G cX2_freedoms RX2 (some .int)) (hq : zRet (l, rm_X2_freedoms, 3, 0, 0) Y G (some (.int r)) σ') (N : Nat) {kb4 : Int32 → Int32 → ZS → Option (Int32 × ZS)} (x2 : Int32) (s0 : Int32) (s1 : Int32) (hb4 : ∀ (x1_ : Int32) (x2_ : Int32) (σ_ : ZS), kb4 x1_ x2_ σ_ = some (r, σ') → Z (l, rm_X2_freedoms, 3, 0, 0) Y G σ_ [(0, .ref (G.1 2)), (1, .int x1_), (2, .int x2_)] [] 4) (σ : ZS) (hf : f_X2_freedoms_b27 N kb4 x2 s0 s1 σ = some (r, σ')) : Z (l, rm_X2_freedoms, 3, 0, 0) Y G σ [(0, .ref (G.1 2)), (2, .int x2)] [.int s1, .int s0] 27 := by
  rw [f_X2_freedoms_b27] at hf
  refine z_aload_n h dX2_freedoms_27 rfl 0 rfl ?_
  refine z_iload_n h dX2_freedoms_28 rfl 1 rfl ?_
  refine z_iconst h (v := (1 : Int32)) dX2_freedoms_29 ic_1 ?_
  obtain ⟨v5, σ6, e6, hf⟩ := obd_out hf
  refine z_cVv h (n := 2) (c_X2_shifts l G e6) zC2 tg_2 ln_2 rfl rfl wd_418 wd_307 wd_308 wd_14 wd_309 (by decide +kernel) ⟨rfl, rfl⟩ rfl rfl rfl dX2_freedoms_30 ⟨Nat.zero_le _, Nat.zero_le _⟩ ?_
  refine z_if_eq h (tgt := 40) dX2_freedoms_33 (by decide) (fun g7 => ?_) (fun g7 => ?_)
  · have hf := it_pos g7 hf
    refine z_iconst h (v := (0 : Int32)) dX2_freedoms_40 ic_0 ?_
    exact z_sub [0, 1] rfl (k_X2_freedoms_b41 h hq N x2 s0 s1 (0 : Int32) hb4 _ hf)
  · have hf := it_neg g7 hf
    refine z_iconst h (v := (1 : Int32)) dX2_freedoms_36 ic_1 ?_
    refine z_goto h (tgt := 41) dX2_freedoms_37 (by decide) ?_
    exact z_sub [0, 1] rfl (k_X2_freedoms_b41 h hq N x2 s0 s1 (1 : Int32) hb4 _ hf)
set_option maxHeartbeats 4000000 in
set_option maxRecDepth 100000 in
theorem k_X2_freedoms_h4 {l : Launch} {Y : ZY} {G : ZG} {r : Int32} {σ' : ZS} (h : zOk (l, rm_X2_freedoms, 3, 0, 0) Y G cX2_freedoms RX2 (some .int)) (hq : zRet (l, rm_X2_freedoms, 3, 0, 0) Y G (some (.int r)) σ') (N : Nat) : ∀ (n : Nat) (x1 : Int32) (x2 : Int32) (σ : ZS), f_X2_freedoms_h4 N n x1 x2 σ = some (r, σ') → Z (l, rm_X2_freedoms, 3, 0, 0) Y G σ [(0, .ref (G.1 2)), (1, .int x1), (2, .int x2)] [] 4 := by
  intro n
  induction n with
  | zero =>
    intro x1 x2 σ hf
    rw [f_X2_freedoms_h4] at hf
    cases hf
  | succ n ih =>
    intro x1 x2 σ hf
    rw [f_X2_freedoms_h4] at hf
    refine z_iload_n h dX2_freedoms_4 rfl 2 rfl ?_
    refine z_aload_n h dX2_freedoms_5 rfl 0 rfl ?_
    refine z_gfI h zC2 (c := 2) tg_2 ln_2 0 rfl ft_2_0 wd_140 dX2_freedoms_6 ?_
    refine z_icmp_ge h (tgt := 64) dX2_freedoms_9 (by decide) (fun g1 => ?_) (fun g1 => ?_)
    · have hf := it_pos g1 hf
      refine z_iload_n h dX2_freedoms_64 rfl 1 rfl ?_
      exact z_iret h (rt_I hf hq) dX2_freedoms_65
    · have hf := it_neg g1 hf
      refine z_iload_n h dX2_freedoms_12 rfl 1 rfl ?_
      refine z_aload_n h dX2_freedoms_13 rfl 0 rfl ?_
      refine z_iload_n h dX2_freedoms_14 rfl 2 rfl ?_
      refine z_iconst h (v := (0 : Int32)) dX2_freedoms_15 ic_0 ?_
      obtain ⟨v2, σ3, e3, hf⟩ := obd_out hf
      refine z_cVv h (n := 2) (c_X2_shifts l G e3) zC2 tg_2 ln_2 rfl rfl wd_418 wd_307 wd_308 wd_14 wd_309 (by decide +kernel) ⟨rfl, rfl⟩ rfl rfl rfl dX2_freedoms_16 ⟨Nat.zero_le _, Nat.zero_le _⟩ ?_
      refine z_if_eq h (tgt := 26) dX2_freedoms_19 (by decide) (fun g4 => ?_) (fun g4 => ?_)
      · have hf := it_pos g4 hf
        refine z_iconst h (v := (0 : Int32)) dX2_freedoms_26 ic_0 ?_
        exact z_sub [0, 2] rfl (k_X2_freedoms_b27 h hq N x2 x1 (0 : Int32) (fun x1_ x2_ σ_ hf_ => ih x1_ x2_ σ_ hf_) _ hf)
      · have hf := it_neg g4 hf
        refine z_iconst h (v := (1 : Int32)) dX2_freedoms_22 ic_1 ?_
        refine z_goto h (tgt := 27) dX2_freedoms_23 (by decide) ?_
        exact z_sub [0, 2] rfl (k_X2_freedoms_b27 h hq N x2 x1 (1 : Int32) (fun x1_ x2_ σ_ hf_ => ih x1_ x2_ σ_ hf_) _ hf)
set_option maxHeartbeats 4000000 in
set_option maxRecDepth 100000 in
theorem c_X2_freedoms (l : Launch) (G : ZG) {N : Nat} {σ σ' : ZS} {r : Int32} (hf : f_X2_freedoms N σ = some (r, σ')) : zMet l G yX2_freedoms cX2_freedoms 3 (some .int) rm_X2_freedoms [.ref (G.1 2)] σ (some (.int r)) σ' := by
  refine z_met (by decide +kernel) rfl (fun Y h hq => ?_)
  have h : zOk (l, rm_X2_freedoms, 3, 0, 0) Y G cX2_freedoms RX2 (some .int) := h
  rw [f_X2_freedoms] at hf
  refine z_sub (lv' := [(0, .ref (G.1 2))]) [0] rfl ?_
  refine z_iconst h (v := (0 : Int32)) dX2_freedoms_0 ic_0 ?_
  refine z_istore_n h dX2_freedoms_1 rfl (lv' := [(1, .int (0 : Int32)), (0, .ref (G.1 2))]) rfl rfl ?_
  refine z_iconst h (v := (0 : Int32)) dX2_freedoms_2 ic_0 ?_
  refine z_istore_n h dX2_freedoms_3 rfl (lv' := [(2, .int (0 : Int32)), (1, .int (0 : Int32)), (0, .ref (G.1 2))]) rfl rfl ?_
  exact z_sub [2, 1, 0] rfl (k_X2_freedoms_h4 h hq N _ _ _ _ hf)
