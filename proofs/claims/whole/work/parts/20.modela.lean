theorem dX6_in_0 : decode cX6_in 0 = .ok (.iload_n 0, 1) := by decide +kernel
theorem dX6_in_1 : decode cX6_in 1 = .ok (.iload_n 1, 1) := by decide +kernel
theorem dX6_in_2 : decode cX6_in 2 = .ok (.if_icmp .lt 12, 3) := by decide +kernel
theorem dX6_in_5 : decode cX6_in 5 = .ok (.iload_n 0, 1) := by decide +kernel
theorem dX6_in_6 : decode cX6_in 6 = .ok (.iload_n 2, 1) := by decide +kernel
theorem dX6_in_7 : decode cX6_in 7 = .ok (.if_icmp .gt 7, 3) := by decide +kernel
theorem dX6_in_10 : decode cX6_in 10 = .ok (.iconst 1, 1) := by decide +kernel
theorem dX6_in_11 : decode cX6_in 11 = .ok (.goto 4, 3) := by decide +kernel
theorem dX6_in_14 : decode cX6_in 14 = .ok (.iconst 0, 1) := by decide +kernel
theorem dX6_in_15 : decode cX6_in 15 = .ok (.ireturn, 1) := by decide +kernel
abbrev rm_X6_in : Room := { frames := 0, cells := 0, slots := 0, locals := 0 }
noncomputable def f_X6_in (N : Nat) (x0 : Int32) (x1 : Int32) (x2 : Int32) (σ : ZS) : Option (Int32 × ZS) := (if x0 < x1 then some ((0 : Int32), σ) else (if x2 < x0 then some ((0 : Int32), σ) else some ((1 : Int32), σ)))
set_option maxHeartbeats 4000000 in
set_option maxRecDepth 100000 in
theorem c_X6_in (l : Launch) (G : ZG) {N : Nat} {x0 : Int32} {x1 : Int32} {x2 : Int32} {σ σ' : ZS} {r : Int32} (hf : f_X6_in N x0 x1 x2 σ = some (r, σ')) : zMet l G yX6_in cX6_in 3 (some .boolean) rm_X6_in [.int x0, .int x1, .int x2] σ (some (.int r)) σ' := by
  refine z_met (by decide +kernel) rfl (fun Y h hq => ?_)
  have h : zOk (l, rm_X6_in, 3, 0, 0) Y G cX6_in RX6 (some .boolean) := h
  rw [f_X6_in] at hf
  refine z_sub (lv' := [(0, .int x0), (1, .int x1), (2, .int x2)]) [0, 1, 2] rfl ?_
  refine z_iload_n h dX6_in_0 rfl 0 rfl ?_
  refine z_iload_n h dX6_in_1 rfl 1 rfl ?_
  refine z_icmp_lt h (tgt := 14) dX6_in_2 (by decide) (fun g1 => ?_) (fun g1 => ?_)
  · have hf := it_pos g1 hf
    refine z_iconst h (v := (0 : Int32)) dX6_in_14 ic_0 ?_
    exact z_zret h rfl (rt_I hf hq) dX6_in_15
  · have hf := it_neg g1 hf
    refine z_iload_n h dX6_in_5 rfl 0 rfl ?_
    refine z_iload_n h dX6_in_6 rfl 2 rfl ?_
    refine z_icmp_gt h (tgt := 14) dX6_in_7 (by decide) (fun g2 => ?_) (fun g2 => ?_)
    · have hf := it_pos g2 hf
      refine z_iconst h (v := (0 : Int32)) dX6_in_14 ic_0 ?_
      exact z_zret h rfl (rt_I hf hq) dX6_in_15
    · have hf := it_neg g2 hf
      refine z_iconst h (v := (1 : Int32)) dX6_in_10 ic_1 ?_
      refine z_goto h (tgt := 15) dX6_in_11 (by decide) ?_
      exact z_zret h rfl (rt_I hf hq) dX6_in_15
theorem dX6_isNode_0 : decode cX6_isNode 0 = .ok (.iload_n 1, 1) := by decide +kernel
theorem dX6_isNode_1 : decode cX6_isNode 1 = .ok (.iconst 0, 1) := by decide +kernel
theorem dX6_isNode_2 : decode cX6_isNode 2 = .ok (.aload_n 0, 1) := by decide +kernel
theorem dX6_isNode_3 : decode cX6_isNode 3 = .ok (.getfield 134, 3) := by decide +kernel
theorem dX6_isNode_6 : decode cX6_isNode 6 = .ok (.iconst 1, 1) := by decide +kernel
theorem dX6_isNode_7 : decode cX6_isNode 7 = .ok (.isub, 1) := by decide +kernel
theorem dX6_isNode_8 : decode cX6_isNode 8 = .ok (.invokestatic 137, 3) := by decide +kernel
theorem dX6_isNode_11 : decode cX6_isNode 11 = .ok (.ireturn, 1) := by decide +kernel
abbrev rm_X6_isNode : Room := { frames := 1, cells := 0, slots := 0, locals := 30 }
noncomputable def f_X6_isNode (N : Nat) (x1 : Int32) (σ : ZS) : Option (Int32 × ZS) := obd (f_X6_in N x1 (0 : Int32) ((gI σ 1067 0) - (1 : Int32)) σ) fun v1 σ2 => ck (bb v1) (some (v1, σ2))
set_option maxHeartbeats 4000000 in
set_option maxRecDepth 100000 in
theorem c_X6_isNode (l : Launch) (G : ZG) {N : Nat} {x1 : Int32} {σ σ' : ZS} {r : Int32} (hf : f_X6_isNode N x1 σ = some (r, σ')) : zMet l G yX6_isNode cX6_isNode 2 (some .boolean) rm_X6_isNode [.ref (G.1 1067), .int x1] σ (some (.int r)) σ' := by
  refine z_met (by decide +kernel) rfl (fun Y h hq => ?_)
  have h : zOk (l, rm_X6_isNode, 2, 0, 0) Y G cX6_isNode RX6 (some .boolean) := h
  rw [f_X6_isNode] at hf
  refine z_sub (lv' := [(0, .ref (G.1 1067)), (1, .int x1)]) [0, 1] rfl ?_
  refine z_iload_n h dX6_isNode_0 rfl 1 rfl ?_
  refine z_iconst h (v := (0 : Int32)) dX6_isNode_1 ic_0 ?_
  refine z_aload_n h dX6_isNode_2 rfl 0 rfl ?_
  refine z_gfI h zC6 (c := 1067) tg_1067 ln_1067 0 rfl ft_6_0 wd_155 dX6_isNode_3 ?_
  refine z_iconst h (v := (1 : Int32)) dX6_isNode_6 ic_1 ?_
  refine z_isub h dX6_isNode_7 ?_
  obtain ⟨v1, σ2, e2, hf⟩ := obd_out hf
  refine z_cSv h (n := 3) (c_X6_in l G e2) rfl wd_156 wd_157 wd_5 wd_158 (by decide +kernel) ⟨rfl, rfl⟩ rfl rfl rfl dX6_isNode_8 ⟨Nat.zero_le _, Nat.zero_le _⟩ ?_
  obtain ⟨g3, hf⟩ := ck_out hf
  exact z_zret h g3 (rt_I hf hq) dX6_isNode_11
theorem dX6_isBar_0 : decode cX6_isBar 0 = .ok (.iload_n 1, 1) := by decide +kernel
theorem dX6_isBar_1 : decode cX6_isBar 1 = .ok (.iconst 0, 1) := by decide +kernel
theorem dX6_isBar_2 : decode cX6_isBar 2 = .ok (.aload_n 0, 1) := by decide +kernel
theorem dX6_isBar_3 : decode cX6_isBar 3 = .ok (.getfield 141, 3) := by decide +kernel
theorem dX6_isBar_6 : decode cX6_isBar 6 = .ok (.iconst 1, 1) := by decide +kernel
theorem dX6_isBar_7 : decode cX6_isBar 7 = .ok (.isub, 1) := by decide +kernel
theorem dX6_isBar_8 : decode cX6_isBar 8 = .ok (.invokestatic 137, 3) := by decide +kernel
theorem dX6_isBar_11 : decode cX6_isBar 11 = .ok (.ireturn, 1) := by decide +kernel
abbrev rm_X6_isBar : Room := { frames := 1, cells := 0, slots := 0, locals := 30 }
noncomputable def f_X6_isBar (N : Nat) (x1 : Int32) (σ : ZS) : Option (Int32 × ZS) := obd (f_X6_in N x1 (0 : Int32) ((gI σ 1067 4) - (1 : Int32)) σ) fun v1 σ2 => ck (bb v1) (some (v1, σ2))
set_option maxHeartbeats 4000000 in
set_option maxRecDepth 100000 in
theorem c_X6_isBar (l : Launch) (G : ZG) {N : Nat} {x1 : Int32} {σ σ' : ZS} {r : Int32} (hf : f_X6_isBar N x1 σ = some (r, σ')) : zMet l G yX6_isBar cX6_isBar 2 (some .boolean) rm_X6_isBar [.ref (G.1 1067), .int x1] σ (some (.int r)) σ' := by
  refine z_met (by decide +kernel) rfl (fun Y h hq => ?_)
  have h : zOk (l, rm_X6_isBar, 2, 0, 0) Y G cX6_isBar RX6 (some .boolean) := h
  rw [f_X6_isBar] at hf
  refine z_sub (lv' := [(0, .ref (G.1 1067)), (1, .int x1)]) [0, 1] rfl ?_
  refine z_iload_n h dX6_isBar_0 rfl 1 rfl ?_
  refine z_iconst h (v := (0 : Int32)) dX6_isBar_1 ic_0 ?_
  refine z_aload_n h dX6_isBar_2 rfl 0 rfl ?_
  refine z_gfI h zC6 (c := 1067) tg_1067 ln_1067 4 rfl ft_6_4 wd_200 dX6_isBar_3 ?_
  refine z_iconst h (v := (1 : Int32)) dX6_isBar_6 ic_1 ?_
  refine z_isub h dX6_isBar_7 ?_
  obtain ⟨v1, σ2, e2, hf⟩ := obd_out hf
  refine z_cSv h (n := 3) (c_X6_in l G e2) rfl wd_156 wd_157 wd_5 wd_158 (by decide +kernel) ⟨rfl, rfl⟩ rfl rfl rfl dX6_isBar_8 ⟨Nat.zero_le _, Nat.zero_le _⟩ ?_
  obtain ⟨g3, hf⟩ := ck_out hf
  exact z_zret h g3 (rt_I hf hq) dX6_isBar_11
theorem dX6_isEnd_0 : decode cX6_isEnd 0 = .ok (.iload_n 1, 1) := by decide +kernel
theorem dX6_isEnd_1 : decode cX6_isEnd 1 = .ok (.iconst 0, 1) := by decide +kernel
theorem dX6_isEnd_2 : decode cX6_isEnd 2 = .ok (.iconst 2, 1) := by decide +kernel
theorem dX6_isEnd_3 : decode cX6_isEnd 3 = .ok (.aload_n 0, 1) := by decide +kernel
theorem dX6_isEnd_4 : decode cX6_isEnd 4 = .ok (.getfield 141, 3) := by decide +kernel
theorem dX6_isEnd_7 : decode cX6_isEnd 7 = .ok (.imul, 1) := by decide +kernel
theorem dX6_isEnd_8 : decode cX6_isEnd 8 = .ok (.iconst 1, 1) := by decide +kernel
theorem dX6_isEnd_9 : decode cX6_isEnd 9 = .ok (.isub, 1) := by decide +kernel
theorem dX6_isEnd_10 : decode cX6_isEnd 10 = .ok (.invokestatic 137, 3) := by decide +kernel
theorem dX6_isEnd_13 : decode cX6_isEnd 13 = .ok (.ireturn, 1) := by decide +kernel
abbrev rm_X6_isEnd : Room := { frames := 1, cells := 0, slots := 0, locals := 30 }
noncomputable def f_X6_isEnd (N : Nat) (x1 : Int32) (σ : ZS) : Option (Int32 × ZS) := obd (f_X6_in N x1 (0 : Int32) (((2 : Int32) * (gI σ 1067 4)) - (1 : Int32)) σ) fun v1 σ2 => ck (bb v1) (some (v1, σ2))
set_option maxHeartbeats 4000000 in
set_option maxRecDepth 100000 in
theorem c_X6_isEnd (l : Launch) (G : ZG) {N : Nat} {x1 : Int32} {σ σ' : ZS} {r : Int32} (hf : f_X6_isEnd N x1 σ = some (r, σ')) : zMet l G yX6_isEnd cX6_isEnd 2 (some .boolean) rm_X6_isEnd [.ref (G.1 1067), .int x1] σ (some (.int r)) σ' := by
  refine z_met (by decide +kernel) rfl (fun Y h hq => ?_)
  have h : zOk (l, rm_X6_isEnd, 2, 0, 0) Y G cX6_isEnd RX6 (some .boolean) := h
  rw [f_X6_isEnd] at hf
  refine z_sub (lv' := [(0, .ref (G.1 1067)), (1, .int x1)]) [0, 1] rfl ?_
  refine z_iload_n h dX6_isEnd_0 rfl 1 rfl ?_
  refine z_iconst h (v := (0 : Int32)) dX6_isEnd_1 ic_0 ?_
  refine z_iconst h (v := (2 : Int32)) dX6_isEnd_2 ic_2 ?_
  refine z_aload_n h dX6_isEnd_3 rfl 0 rfl ?_
  refine z_gfI h zC6 (c := 1067) tg_1067 ln_1067 4 rfl ft_6_4 wd_200 dX6_isEnd_4 ?_
  refine z_imul h dX6_isEnd_7 ?_
  refine z_iconst h (v := (1 : Int32)) dX6_isEnd_8 ic_1 ?_
  refine z_isub h dX6_isEnd_9 ?_
  obtain ⟨v1, σ2, e2, hf⟩ := obd_out hf
  refine z_cSv h (n := 3) (c_X6_in l G e2) rfl wd_156 wd_157 wd_5 wd_158 (by decide +kernel) ⟨rfl, rfl⟩ rfl rfl rfl dX6_isEnd_10 ⟨Nat.zero_le _, Nat.zero_le _⟩ ?_
  obtain ⟨g3, hf⟩ := ck_out hf
  exact z_zret h g3 (rt_I hf hq) dX6_isEnd_13
theorem dX6_forget_0 : decode cX6_forget 0 = .ok (.iconst 0, 1) := by decide +kernel
theorem dX6_forget_1 : decode cX6_forget 1 = .ok (.istore_n 1, 1) := by decide +kernel
theorem dX6_forget_2 : decode cX6_forget 2 = .ok (.iload_n 1, 1) := by decide +kernel
theorem dX6_forget_3 : decode cX6_forget 3 = .ok (.iconst 3, 1) := by decide +kernel
theorem dX6_forget_4 : decode cX6_forget 4 = .ok (.if_icmp .ge 16, 3) := by decide +kernel
theorem dX6_forget_7 : decode cX6_forget 7 = .ok (.aload_n 0, 1) := by decide +kernel
theorem dX6_forget_8 : decode cX6_forget 8 = .ok (.getfield 104, 3) := by decide +kernel
theorem dX6_forget_11 : decode cX6_forget 11 = .ok (.iload_n 1, 1) := by decide +kernel
theorem dX6_forget_12 : decode cX6_forget 12 = .ok (.iconst 0, 1) := by decide +kernel
theorem dX6_forget_13 : decode cX6_forget 13 = .ok (.bastore, 1) := by decide +kernel
theorem dX6_forget_14 : decode cX6_forget 14 = .ok (.iinc 1 1, 3) := by decide +kernel
theorem dX6_forget_17 : decode cX6_forget 17 = .ok (.goto (-15), 3) := by decide +kernel
theorem dX6_forget_20 : decode cX6_forget 20 = .ok (.return_, 1) := by decide +kernel
abbrev rm_X6_forget : Room := { frames := 0, cells := 0, slots := 0, locals := 0 }
noncomputable def f_X6_forget_h2 (N : Nat) : Nat → Int32 → ZS → Option (Unit × ZS)
  | 0, _, _ => none
  | n + 1, x1, σ => (if (3 : Int32) ≤ x1 then some ((), σ) else ck (inb x1 3) (bd (sI σ 1096 (x1.toNatClampNeg) (0 : Int32)) fun σ3 => bd (x1 + (1 : Int32)) fun v4 => f_X6_forget_h2 N n v4 σ3))
noncomputable def f_X6_forget (N : Nat) (σ : ZS) : Option (Unit × ZS) := f_X6_forget_h2 N N (0 : Int32) σ
set_option maxHeartbeats 4000000 in
set_option maxRecDepth 100000 in
theorem k_X6_forget_h2 {l : Launch} {Y : ZY} {G : ZG} {σ' : ZS} (h : zOk (l, rm_X6_forget, 2, 0, 0) Y G cX6_forget RX6 none) (hq : zRet (l, rm_X6_forget, 2, 0, 0) Y G none σ') (N : Nat) : ∀ (n : Nat) (x1 : Int32) (σ : ZS), f_X6_forget_h2 N n x1 σ = some ((), σ') → Z (l, rm_X6_forget, 2, 0, 0) Y G σ [(0, .ref (G.1 1067)), (1, .int x1)] [] 2 := by
  intro n
  induction n with
  | zero =>
    intro x1 σ hf
    rw [f_X6_forget_h2] at hf
    cases hf
  | succ n ih =>
    intro x1 σ hf
    rw [f_X6_forget_h2] at hf
    refine z_iload_n h dX6_forget_2 rfl 1 rfl ?_
    refine z_iconst h (v := (3 : Int32)) dX6_forget_3 ic_3 ?_
    refine z_icmp_ge h (tgt := 20) dX6_forget_4 (by decide) (fun g1 => ?_) (fun g1 => ?_)
    · have hf := it_pos g1 hf
      exact z_vret h (rt_V hf hq) dX6_forget_20
    · have hf := it_neg g1 hf
      refine z_aload_n h dX6_forget_7 rfl 0 rfl ?_
      refine z_gfR h zC6 (d := 1096) (c := 1067) tg_1067 ln_1067 43 rfl ft_6_43 rf_1067_43 wd_119 dX6_forget_8 ?_
      refine z_iload_n h dX6_forget_11 rfl 1 rfl ?_
      refine z_iconst h (v := (0 : Int32)) dX6_forget_12 ic_0 ?_
      obtain ⟨g2, hf⟩ := ck_out hf
      refine z_zast h (c := 1096) tg_1096 ln_1096 g2 rfl dX6_forget_13 ?_
      refine z_gen (fun σ3 eσ3 => ?_)
      have hf := bd_to eσ3 hf
      obtain ⟨v4, ev4, hf⟩ := bd_ex hf
      refine z_iinc h (v := v4) (lv' := [(1, .int v4), (0, .ref (G.1 1067))]) dX6_forget_14 1 rfl (by rw [ev4]; rfl) rfl rfl ?_
      refine z_goto h (tgt := 2) dX6_forget_17 (by decide) ?_
      exact z_sub [1, 0] rfl (ih _ _ hf)
set_option maxHeartbeats 4000000 in
set_option maxRecDepth 100000 in
theorem c_X6_forget (l : Launch) (G : ZG) {N : Nat} {σ σ' : ZS} {r : Unit} (hf : f_X6_forget N σ = some (r, σ')) : zMet l G yX6_forget cX6_forget 2 none rm_X6_forget [.ref (G.1 1067)] σ none σ' := by
  refine z_met (by decide +kernel) rfl (fun Y h hq => ?_)
  have h : zOk (l, rm_X6_forget, 2, 0, 0) Y G cX6_forget RX6 none := h
  rw [f_X6_forget] at hf
  refine z_sub (lv' := [(0, .ref (G.1 1067))]) [0] rfl ?_
  refine z_iconst h (v := (0 : Int32)) dX6_forget_0 ic_0 ?_
  refine z_istore_n h dX6_forget_1 rfl (lv' := [(1, .int (0 : Int32)), (0, .ref (G.1 1067))]) rfl rfl ?_
  exact z_sub [1, 0] rfl (k_X6_forget_h2 h hq N _ _ _ hf)
theorem dX6_node_0 : decode cX6_node 0 = .ok (.iload_n 1, 1) := by decide +kernel
theorem dX6_node_1 : decode cX6_node 1 = .ok (.iconst 0, 1) := by decide +kernel
theorem dX6_node_2 : decode cX6_node 2 = .ok (.bipush 9, 2) := by decide +kernel
theorem dX6_node_4 : decode cX6_node 4 = .ok (.invokestatic 137, 3) := by decide +kernel
theorem dX6_node_7 : decode cX6_node 7 = .ok (.ifCond .eq 22, 3) := by decide +kernel
theorem dX6_node_10 : decode cX6_node 10 = .ok (.iload_n 2, 1) := by decide +kernel
theorem dX6_node_11 : decode cX6_node 11 = .ok (.iconst 0, 1) := by decide +kernel
theorem dX6_node_12 : decode cX6_node 12 = .ok (.bipush 9, 2) := by decide +kernel
theorem dX6_node_14 : decode cX6_node 14 = .ok (.invokestatic 137, 3) := by decide +kernel
theorem dX6_node_17 : decode cX6_node 17 = .ok (.ifCond .eq 12, 3) := by decide +kernel
theorem dX6_node_20 : decode cX6_node 20 = .ok (.iload_n 3, 1) := by decide +kernel
theorem dX6_node_21 : decode cX6_node 21 = .ok (.iconst 0, 1) := by decide +kernel
theorem dX6_node_22 : decode cX6_node 22 = .ok (.iconst 3, 1) := by decide +kernel
theorem dX6_node_23 : decode cX6_node 23 = .ok (.invokestatic 137, 3) := by decide +kernel
theorem dX6_node_26 : decode cX6_node 26 = .ok (.ifCond .ne 6, 3) := by decide +kernel
theorem dX6_node_29 : decode cX6_node 29 = .ok (.bipush (-2), 2) := by decide +kernel
theorem dX6_node_31 : decode cX6_node 31 = .ok (.ireturn, 1) := by decide +kernel
theorem dX6_node_32 : decode cX6_node 32 = .ok (.iconst 0, 1) := by decide +kernel
theorem dX6_node_33 : decode cX6_node 33 = .ok (.istore 4, 2) := by decide +kernel
theorem dX6_node_35 : decode cX6_node 35 = .ok (.iload 4, 2) := by decide +kernel
theorem dX6_node_37 : decode cX6_node 37 = .ok (.aload_n 0, 1) := by decide +kernel
theorem dX6_node_38 : decode cX6_node 38 = .ok (.getfield 134, 3) := by decide +kernel
theorem dX6_node_41 : decode cX6_node 41 = .ok (.if_icmp .ge 34, 3) := by decide +kernel
theorem dX6_node_44 : decode cX6_node 44 = .ok (.aload_n 0, 1) := by decide +kernel
theorem dX6_node_45 : decode cX6_node 45 = .ok (.getfield 7, 3) := by decide +kernel
theorem dX6_node_48 : decode cX6_node 48 = .ok (.iload 4, 2) := by decide +kernel
theorem dX6_node_50 : decode cX6_node 50 = .ok (.iaload, 1) := by decide +kernel
theorem dX6_node_51 : decode cX6_node 51 = .ok (.iload_n 1, 1) := by decide +kernel
theorem dX6_node_52 : decode cX6_node 52 = .ok (.if_icmp .ne 17, 3) := by decide +kernel
theorem dX6_node_55 : decode cX6_node 55 = .ok (.aload_n 0, 1) := by decide +kernel
theorem dX6_node_56 : decode cX6_node 56 = .ok (.getfield 13, 3) := by decide +kernel
theorem dX6_node_59 : decode cX6_node 59 = .ok (.iload 4, 2) := by decide +kernel
theorem dX6_node_61 : decode cX6_node 61 = .ok (.iaload, 1) := by decide +kernel
theorem dX6_node_62 : decode cX6_node 62 = .ok (.iload_n 2, 1) := by decide +kernel
theorem dX6_node_63 : decode cX6_node 63 = .ok (.if_icmp .ne 6, 3) := by decide +kernel
theorem dX6_node_66 : decode cX6_node 66 = .ok (.bipush (-5), 2) := by decide +kernel
theorem dX6_node_68 : decode cX6_node 68 = .ok (.ireturn, 1) := by decide +kernel
theorem dX6_node_69 : decode cX6_node 69 = .ok (.iinc 4 1, 3) := by decide +kernel
theorem dX6_node_72 : decode cX6_node 72 = .ok (.goto (-37), 3) := by decide +kernel
theorem dX6_node_75 : decode cX6_node 75 = .ok (.aload_n 0, 1) := by decide +kernel
theorem dX6_node_76 : decode cX6_node 76 = .ok (.getfield 134, 3) := by decide +kernel
theorem dX6_node_79 : decode cX6_node 79 = .ok (.bipush 7, 2) := by decide +kernel
theorem dX6_node_81 : decode cX6_node 81 = .ok (.if_icmp .ne 6, 3) := by decide +kernel
theorem dX6_node_84 : decode cX6_node 84 = .ok (.bipush (-4), 2) := by decide +kernel
theorem dX6_node_86 : decode cX6_node 86 = .ok (.ireturn, 1) := by decide +kernel
theorem dX6_node_87 : decode cX6_node 87 = .ok (.aload_n 0, 1) := by decide +kernel
theorem dX6_node_88 : decode cX6_node 88 = .ok (.getfield 7, 3) := by decide +kernel
theorem dX6_node_91 : decode cX6_node 91 = .ok (.aload_n 0, 1) := by decide +kernel
theorem dX6_node_92 : decode cX6_node 92 = .ok (.getfield 134, 3) := by decide +kernel
theorem dX6_node_95 : decode cX6_node 95 = .ok (.iload_n 1, 1) := by decide +kernel
theorem dX6_node_96 : decode cX6_node 96 = .ok (.iastore, 1) := by decide +kernel
theorem dX6_node_97 : decode cX6_node 97 = .ok (.aload_n 0, 1) := by decide +kernel
theorem dX6_node_98 : decode cX6_node 98 = .ok (.getfield 13, 3) := by decide +kernel
theorem dX6_node_101 : decode cX6_node 101 = .ok (.aload_n 0, 1) := by decide +kernel
theorem dX6_node_102 : decode cX6_node 102 = .ok (.getfield 134, 3) := by decide +kernel
theorem dX6_node_105 : decode cX6_node 105 = .ok (.iload_n 2, 1) := by decide +kernel
theorem dX6_node_106 : decode cX6_node 106 = .ok (.iastore, 1) := by decide +kernel
theorem dX6_node_107 : decode cX6_node 107 = .ok (.aload_n 0, 1) := by decide +kernel
theorem dX6_node_108 : decode cX6_node 108 = .ok (.getfield 16, 3) := by decide +kernel
theorem dX6_node_111 : decode cX6_node 111 = .ok (.aload_n 0, 1) := by decide +kernel
theorem dX6_node_112 : decode cX6_node 112 = .ok (.getfield 134, 3) := by decide +kernel
theorem dX6_node_115 : decode cX6_node 115 = .ok (.iload_n 3, 1) := by decide +kernel
theorem dX6_node_116 : decode cX6_node 116 = .ok (.iastore, 1) := by decide +kernel
theorem dX6_node_117 : decode cX6_node 117 = .ok (.iconst 0, 1) := by decide +kernel
theorem dX6_node_118 : decode cX6_node 118 = .ok (.istore 4, 2) := by decide +kernel
theorem dX6_node_120 : decode cX6_node 120 = .ok (.iload 4, 2) := by decide +kernel
theorem dX6_node_122 : decode cX6_node 122 = .ok (.iconst 3, 1) := by decide +kernel
theorem dX6_node_123 : decode cX6_node 123 = .ok (.if_icmp .ge 47, 3) := by decide +kernel
theorem dX6_node_126 : decode cX6_node 126 = .ok (.aload_n 0, 1) := by decide +kernel
theorem dX6_node_127 : decode cX6_node 127 = .ok (.getfield 28, 3) := by decide +kernel
theorem dX6_node_130 : decode cX6_node 130 = .ok (.bipush 14, 2) := by decide +kernel
theorem dX6_node_132 : decode cX6_node 132 = .ok (.iload 4, 2) := by decide +kernel
theorem dX6_node_134 : decode cX6_node 134 = .ok (.imul, 1) := by decide +kernel
theorem dX6_node_135 : decode cX6_node 135 = .ok (.iconst 2, 1) := by decide +kernel
theorem dX6_node_136 : decode cX6_node 136 = .ok (.aload_n 0, 1) := by decide +kernel
theorem dX6_node_137 : decode cX6_node 137 = .ok (.getfield 134, 3) := by decide +kernel
theorem dX6_node_140 : decode cX6_node 140 = .ok (.imul, 1) := by decide +kernel
theorem dX6_node_141 : decode cX6_node 141 = .ok (.iadd, 1) := by decide +kernel
theorem dX6_node_142 : decode cX6_node 142 = .ok (.iconst 0, 1) := by decide +kernel
theorem dX6_node_143 : decode cX6_node 143 = .ok (.iastore, 1) := by decide +kernel
theorem dX6_node_144 : decode cX6_node 144 = .ok (.aload_n 0, 1) := by decide +kernel
theorem dX6_node_145 : decode cX6_node 145 = .ok (.getfield 28, 3) := by decide +kernel
theorem dX6_node_148 : decode cX6_node 148 = .ok (.bipush 14, 2) := by decide +kernel
theorem dX6_node_150 : decode cX6_node 150 = .ok (.iload 4, 2) := by decide +kernel
theorem dX6_node_152 : decode cX6_node 152 = .ok (.imul, 1) := by decide +kernel
theorem dX6_node_153 : decode cX6_node 153 = .ok (.iconst 2, 1) := by decide +kernel
theorem dX6_node_154 : decode cX6_node 154 = .ok (.aload_n 0, 1) := by decide +kernel
theorem dX6_node_155 : decode cX6_node 155 = .ok (.getfield 134, 3) := by decide +kernel
theorem dX6_node_158 : decode cX6_node 158 = .ok (.imul, 1) := by decide +kernel
theorem dX6_node_159 : decode cX6_node 159 = .ok (.iadd, 1) := by decide +kernel
theorem dX6_node_160 : decode cX6_node 160 = .ok (.iconst 1, 1) := by decide +kernel
theorem dX6_node_161 : decode cX6_node 161 = .ok (.iadd, 1) := by decide +kernel
theorem dX6_node_162 : decode cX6_node 162 = .ok (.iconst 0, 1) := by decide +kernel
theorem dX6_node_163 : decode cX6_node 163 = .ok (.iastore, 1) := by decide +kernel
theorem dX6_node_164 : decode cX6_node 164 = .ok (.iinc 4 1, 3) := by decide +kernel
theorem dX6_node_167 : decode cX6_node 167 = .ok (.goto (-47), 3) := by decide +kernel
theorem dX6_node_170 : decode cX6_node 170 = .ok (.aload_n 0, 1) := by decide +kernel
theorem dX6_node_171 : decode cX6_node 171 = .ok (.iconst 1, 1) := by decide +kernel
theorem dX6_node_172 : decode cX6_node 172 = .ok (.putfield 31, 3) := by decide +kernel
theorem dX6_node_175 : decode cX6_node 175 = .ok (.aload_n 0, 1) := by decide +kernel
theorem dX6_node_176 : decode cX6_node 176 = .ok (.invokevirtual 144, 3) := by decide +kernel
theorem dX6_node_179 : decode cX6_node 179 = .ok (.aload_n 0, 1) := by decide +kernel
theorem dX6_node_180 : decode cX6_node 180 = .ok (.dup, 1) := by decide +kernel
theorem dX6_node_181 : decode cX6_node 181 = .ok (.getfield 134, 3) := by decide +kernel
theorem dX6_node_184 : decode cX6_node 184 = .ok (.dup_x1, 1) := by decide +kernel
theorem dX6_node_185 : decode cX6_node 185 = .ok (.iconst 1, 1) := by decide +kernel
theorem dX6_node_186 : decode cX6_node 186 = .ok (.iadd, 1) := by decide +kernel
theorem dX6_node_187 : decode cX6_node 187 = .ok (.putfield 134, 3) := by decide +kernel
theorem dX6_node_190 : decode cX6_node 190 = .ok (.ireturn, 1) := by decide +kernel
abbrev rm_X6_node : Room := { frames := 1, cells := 0, slots := 0, locals := 30 }
noncomputable def f_X6_node_h120 (N : Nat) : Nat → Int32 → ZS → Option (Int32 × ZS)
  | 0, _, _ => none
  | n + 1, x4, σ => (if (3 : Int32) ≤ x4 then bd (sI σ 1067 9 (1 : Int32)) fun σ19 => obd (f_X6_forget N σ19) fun _ σ21 => bd (gI σ21 1067 0) fun v22 => bd (v22 + (1 : Int32)) fun v23 => bd (sI σ21 1067 0 v23) fun σ24 => some (v22, σ24) else ck (inb (((14 : Int32) * x4) + ((2 : Int32) * (gI σ 1067 0))) 42) (bd (sI σ 1074 ((((14 : Int32) * x4) + ((2 : Int32) * (gI σ 1067 0))).toNatClampNeg) (0 : Int32)) fun σ26 => ck (inb ((((14 : Int32) * x4) + ((2 : Int32) * (gI σ26 1067 0))) + (1 : Int32)) 42) (bd (sI σ26 1074 (((((14 : Int32) * x4) + ((2 : Int32) * (gI σ26 1067 0))) + (1 : Int32)).toNatClampNeg) (0 : Int32)) fun σ28 => bd (x4 + (1 : Int32)) fun v29 => f_X6_node_h120 N n v29 σ28)))
noncomputable def f_X6_node_b69 (N : Nat) (kb35 : Int32 → ZS → Option (Int32 × ZS)) (x1 : Int32) (x2 : Int32) (x3 : Int32) (x4 : Int32) (σ : ZS) : Option (Int32 × ZS) := bd (x4 + (1 : Int32)) fun v32 => kb35 v32 σ
noncomputable def f_X6_node_h35 (N : Nat) (x1 : Int32) (x2 : Int32) (x3 : Int32) : Nat → Int32 → ZS → Option (Int32 × ZS)
  | 0, _, _ => none
  | n + 1, x4, σ => (if (gI σ 1067 0) ≤ x4 then (if (gI σ 1067 0) = (7 : Int32) then some ((-4 : Int32), σ) else ck (inb (gI σ 1067 0) 7) (bd (sI σ 1068 ((gI σ 1067 0).toNatClampNeg) x1) fun σ13 => ck (inb (gI σ13 1067 0) 7) (bd (sI σ13 1069 ((gI σ13 1067 0).toNatClampNeg) x2) fun σ15 => ck (inb (gI σ15 1067 0) 7) (bd (sI σ15 1070 ((gI σ15 1067 0).toNatClampNeg) x3) fun σ17 => f_X6_node_h120 N N (0 : Int32) σ17)))) else ck (inb x4 7) ((if (gI σ 1068 (x4.toNatClampNeg)) = x1 then ck (inb x4 7) ((if (gI σ 1069 (x4.toNatClampNeg)) = x2 then some ((-5 : Int32), σ) else f_X6_node_b69 N (fun x4_ σ_ => f_X6_node_h35 N x1 x2 x3 n x4_ σ_) x1 x2 x3 x4 σ)) else f_X6_node_b69 N (fun x4_ σ_ => f_X6_node_h35 N x1 x2 x3 n x4_ σ_) x1 x2 x3 x4 σ)))
noncomputable def f_X6_node (N : Nat) (x1 : Int32) (x2 : Int32) (x3 : Int32) (σ : ZS) : Option (Int32 × ZS) := obd (f_X6_in N x1 (0 : Int32) (9 : Int32) σ) fun v1 σ2 => (if v1 = 0 then some ((-2 : Int32), σ2) else obd (f_X6_in N x2 (0 : Int32) (9 : Int32) σ2) fun v4 σ5 => (if v4 = 0 then some ((-2 : Int32), σ5) else obd (f_X6_in N x3 (0 : Int32) (3 : Int32) σ5) fun v7 σ8 => (if v7 = 0 then some ((-2 : Int32), σ8) else f_X6_node_h35 N x1 x2 x3 N (0 : Int32) σ8)))
set_option maxHeartbeats 4000000 in
set_option maxRecDepth 100000 in
theorem k_X6_node_h120 {l : Launch} {Y : ZY} {G : ZG} {r : Int32} {σ' : ZS} (h : zOk (l, rm_X6_node, 5, 0, 0) Y G cX6_node RX6 (some .int)) (hq : zRet (l, rm_X6_node, 5, 0, 0) Y G (some (.int r)) σ') (N : Nat) : ∀ (n : Nat) (x4 : Int32) (σ : ZS), f_X6_node_h120 N n x4 σ = some (r, σ') → Z (l, rm_X6_node, 5, 0, 0) Y G σ [(0, .ref (G.1 1067)), (4, .int x4)] [] 120 := by
  intro n
  induction n with
  | zero =>
    intro x4 σ hf
    rw [f_X6_node_h120] at hf
    cases hf
  | succ n ih =>
    intro x4 σ hf
    rw [f_X6_node_h120] at hf
    refine z_iload h dX6_node_120 1 rfl ?_
    refine z_iconst h (v := (3 : Int32)) dX6_node_122 ic_3 ?_
    refine z_icmp_ge h (tgt := 170) dX6_node_123 (by decide) (fun g18 => ?_) (fun g18 => ?_)
    · have hf := it_pos g18 hf
      refine z_aload_n h dX6_node_170 rfl 0 rfl ?_
      refine z_iconst h (v := (1 : Int32)) dX6_node_171 ic_1 ?_
      refine z_pfI h zC6 (c := 1067) tg_1067 ln_1067 9 rfl ft_6_9 wd_95 rfl (ty := .boolean) (by decide +kernel) rfl rfl dX6_node_172 ?_
      refine z_gen (fun σ19 eσ19 => ?_)
      have hf := bd_to eσ19 hf
      refine z_aload_n h dX6_node_175 rfl 0 rfl ?_
      obtain ⟨v20, σ21, e21, hf⟩ := obd_out hf
      refine z_cV0 h (n := 0) (c_X6_forget l G e21) zC6 tg_1067 ln_1067 rfl rfl wd_159 wd_160 wd_161 wd_5 wd_162 (by decide +kernel) ⟨rfl, rfl⟩ rfl rfl rfl dX6_node_176 ⟨Nat.zero_le _, Nat.zero_le _⟩ ?_
      refine z_aload_n h dX6_node_179 rfl 0 rfl ?_
      refine z_dup h dX6_node_180 rfl ?_
      refine z_gfI h zC6 (c := 1067) tg_1067 ln_1067 0 rfl ft_6_0 wd_155 dX6_node_181 ?_
      refine z_topI (fun v22 ev22 => ?_)
      have hf := bd_to ev22 hf
      refine z_dup_x1 h dX6_node_184 rfl rfl ?_
      refine z_iconst h (v := (1 : Int32)) dX6_node_185 ic_1 ?_
      refine z_iadd h dX6_node_186 ?_
      refine z_topI (fun v23 ev23 => ?_)
      have hf := bd_to ev23 hf
      refine z_pfI h zC6 (c := 1067) tg_1067 ln_1067 0 rfl ft_6_0 wd_155 rfl (ty := .int) (by decide +kernel) rfl rfl dX6_node_187 ?_
      refine z_gen (fun σ24 eσ24 => ?_)
      have hf := bd_to eσ24 hf
      exact z_iret h (rt_I hf hq) dX6_node_190
    · have hf := it_neg g18 hf
      refine z_aload_n h dX6_node_126 rfl 0 rfl ?_
      refine z_gfR h zC6 (d := 1074) (c := 1067) tg_1067 ln_1067 8 rfl ft_6_8 rf_1067_8 wd_94 dX6_node_127 ?_
      refine z_bipush h (v := (14 : Int32)) dX6_node_130 bp_14 ?_
      refine z_iload h dX6_node_132 1 rfl ?_
      refine z_imul h dX6_node_134 ?_
      refine z_iconst h (v := (2 : Int32)) dX6_node_135 ic_2 ?_
      refine z_aload_n h dX6_node_136 rfl 0 rfl ?_
      refine z_gfI h zC6 (c := 1067) tg_1067 ln_1067 0 rfl ft_6_0 wd_155 dX6_node_137 ?_
      refine z_imul h dX6_node_140 ?_
      refine z_iadd h dX6_node_141 ?_
      refine z_iconst h (v := (0 : Int32)) dX6_node_142 ic_0 ?_
      obtain ⟨g25, hf⟩ := ck_out hf
      refine z_iast h (c := 1074) tg_1074 ln_1074 g25 dX6_node_143 ?_
      refine z_gen (fun σ26 eσ26 => ?_)
      have hf := bd_to eσ26 hf
      refine z_aload_n h dX6_node_144 rfl 0 rfl ?_
      refine z_gfR h zC6 (d := 1074) (c := 1067) tg_1067 ln_1067 8 rfl ft_6_8 rf_1067_8 wd_94 dX6_node_145 ?_
      refine z_bipush h (v := (14 : Int32)) dX6_node_148 bp_14 ?_
      refine z_iload h dX6_node_150 1 rfl ?_
      refine z_imul h dX6_node_152 ?_
      refine z_iconst h (v := (2 : Int32)) dX6_node_153 ic_2 ?_
      refine z_aload_n h dX6_node_154 rfl 0 rfl ?_
      refine z_gfI h zC6 (c := 1067) tg_1067 ln_1067 0 rfl ft_6_0 wd_155 dX6_node_155 ?_
      refine z_imul h dX6_node_158 ?_
      refine z_iadd h dX6_node_159 ?_
      refine z_iconst h (v := (1 : Int32)) dX6_node_160 ic_1 ?_
      refine z_iadd h dX6_node_161 ?_
      refine z_iconst h (v := (0 : Int32)) dX6_node_162 ic_0 ?_
      obtain ⟨g27, hf⟩ := ck_out hf
      refine z_iast h (c := 1074) tg_1074 ln_1074 g27 dX6_node_163 ?_
      refine z_gen (fun σ28 eσ28 => ?_)
      have hf := bd_to eσ28 hf
      obtain ⟨v29, ev29, hf⟩ := bd_ex hf
      refine z_iinc h (v := v29) (lv' := [(4, .int v29), (0, .ref (G.1 1067))]) dX6_node_164 1 rfl (by rw [ev29]; rfl) rfl rfl ?_
      refine z_goto h (tgt := 120) dX6_node_167 (by decide) ?_
      exact z_sub [1, 0] rfl (ih _ _ hf)
set_option maxHeartbeats 4000000 in
set_option maxRecDepth 100000 in
theorem k_X6_node_b69 {l : Launch} {Y : ZY} {G : ZG} {r : Int32} {σ' : ZS} (h : zOk (l, rm_X6_node, 5, 0, 0) Y G cX6_node RX6 (some .int)) (hq : zRet (l, rm_X6_node, 5, 0, 0) Y G (some (.int r)) σ') (N : Nat) {kb35 : Int32 → ZS → Option (Int32 × ZS)} (x1 : Int32) (x2 : Int32) (x3 : Int32) (x4 : Int32) (hb35 : ∀ (x4_ : Int32) (σ_ : ZS), kb35 x4_ σ_ = some (r, σ') → Z (l, rm_X6_node, 5, 0, 0) Y G σ_ [(0, .ref (G.1 1067)), (1, .int x1), (2, .int x2), (3, .int x3), (4, .int x4_)] [] 35) (σ : ZS) (hf : f_X6_node_b69 N kb35 x1 x2 x3 x4 σ = some (r, σ')) : Z (l, rm_X6_node, 5, 0, 0) Y G σ [(0, .ref (G.1 1067)), (1, .int x1), (2, .int x2), (3, .int x3), (4, .int x4)] [] 69 := by
  rw [f_X6_node_b69] at hf
  obtain ⟨v32, ev32, hf⟩ := bd_ex hf
  refine z_iinc h (v := v32) (lv' := [(4, .int v32), (0, .ref (G.1 1067)), (1, .int x1), (2, .int x2), (3, .int x3)]) dX6_node_69 4 rfl (by rw [ev32]; rfl) rfl rfl ?_
  refine z_goto h (tgt := 35) dX6_node_72 (by decide) ?_
  exact z_sub [1, 2, 3, 4, 0] rfl (hb35 _ _ hf)
set_option maxHeartbeats 4000000 in
set_option maxRecDepth 100000 in
theorem k_X6_node_h35 {l : Launch} {Y : ZY} {G : ZG} {r : Int32} {σ' : ZS} (h : zOk (l, rm_X6_node, 5, 0, 0) Y G cX6_node RX6 (some .int)) (hq : zRet (l, rm_X6_node, 5, 0, 0) Y G (some (.int r)) σ') (N : Nat) (x1 : Int32) (x2 : Int32) (x3 : Int32) : ∀ (n : Nat) (x4 : Int32) (σ : ZS), f_X6_node_h35 N x1 x2 x3 n x4 σ = some (r, σ') → Z (l, rm_X6_node, 5, 0, 0) Y G σ [(0, .ref (G.1 1067)), (1, .int x1), (2, .int x2), (3, .int x3), (4, .int x4)] [] 35 := by
  intro n
  induction n with
  | zero =>
    intro x4 σ hf
    rw [f_X6_node_h35] at hf
    cases hf
  | succ n ih =>
    intro x4 σ hf
    rw [f_X6_node_h35] at hf
    refine z_iload h dX6_node_35 4 rfl ?_
    refine z_aload_n h dX6_node_37 rfl 0 rfl ?_
    refine z_gfI h zC6 (c := 1067) tg_1067 ln_1067 0 rfl ft_6_0 wd_155 dX6_node_38 ?_
    refine z_icmp_ge h (tgt := 75) dX6_node_41 (by decide) (fun g10 => ?_) (fun g10 => ?_)
    · have hf := it_pos g10 hf
      refine z_aload_n h dX6_node_75 rfl 0 rfl ?_
      refine z_gfI h zC6 (c := 1067) tg_1067 ln_1067 0 rfl ft_6_0 wd_155 dX6_node_76 ?_
      refine z_bipush h (v := (7 : Int32)) dX6_node_79 bp_7 ?_
      refine z_icmp_ne h (tgt := 87) dX6_node_81 (by decide) (fun g11 => ?_) (fun g11 => ?_)
      · have hf := it_neg g11 hf
        refine z_aload_n h dX6_node_87 rfl 0 rfl ?_
        refine z_gfR h zC6 (d := 1068) (c := 1067) tg_1067 ln_1067 1 rfl ft_6_1 rf_1067_1 wd_88 dX6_node_88 ?_
        refine z_aload_n h dX6_node_91 rfl 0 rfl ?_
        refine z_gfI h zC6 (c := 1067) tg_1067 ln_1067 0 rfl ft_6_0 wd_155 dX6_node_92 ?_
        refine z_iload_n h dX6_node_95 rfl 1 rfl ?_
        obtain ⟨g12, hf⟩ := ck_out hf
        refine z_iast h (c := 1068) tg_1068 ln_1068 g12 dX6_node_96 ?_
        refine z_gen (fun σ13 eσ13 => ?_)
        have hf := bd_to eσ13 hf
        refine z_aload_n h dX6_node_97 rfl 0 rfl ?_
        refine z_gfR h zC6 (d := 1069) (c := 1067) tg_1067 ln_1067 2 rfl ft_6_2 rf_1067_2 wd_89 dX6_node_98 ?_
        refine z_aload_n h dX6_node_101 rfl 0 rfl ?_
        refine z_gfI h zC6 (c := 1067) tg_1067 ln_1067 0 rfl ft_6_0 wd_155 dX6_node_102 ?_
        refine z_iload_n h dX6_node_105 rfl 2 rfl ?_
        obtain ⟨g14, hf⟩ := ck_out hf
        refine z_iast h (c := 1069) tg_1069 ln_1069 g14 dX6_node_106 ?_
        refine z_gen (fun σ15 eσ15 => ?_)
        have hf := bd_to eσ15 hf
        refine z_aload_n h dX6_node_107 rfl 0 rfl ?_
        refine z_gfR h zC6 (d := 1070) (c := 1067) tg_1067 ln_1067 3 rfl ft_6_3 rf_1067_3 wd_90 dX6_node_108 ?_
        refine z_aload_n h dX6_node_111 rfl 0 rfl ?_
        refine z_gfI h zC6 (c := 1067) tg_1067 ln_1067 0 rfl ft_6_0 wd_155 dX6_node_112 ?_
        refine z_iload_n h dX6_node_115 rfl 3 rfl ?_
        obtain ⟨g16, hf⟩ := ck_out hf
        refine z_iast h (c := 1070) tg_1070 ln_1070 g16 dX6_node_116 ?_
        refine z_gen (fun σ17 eσ17 => ?_)
        have hf := bd_to eσ17 hf
        refine z_iconst h (v := (0 : Int32)) dX6_node_117 ic_0 ?_
        refine z_istore h dX6_node_118 (lv' := [(4, .int (0 : Int32)), (0, .ref (G.1 1067)), (1, .int x1), (2, .int x2), (3, .int x3)]) rfl rfl ?_
        exact z_sub [1, 0] rfl (k_X6_node_h120 h hq N _ _ _ hf)
      · have hf := it_pos g11 hf
        refine z_bipush h (v := (-4 : Int32)) dX6_node_84 bp_m4 ?_
        exact z_iret h (rt_I hf hq) dX6_node_86
    · have hf := it_neg g10 hf
      refine z_aload_n h dX6_node_44 rfl 0 rfl ?_
      refine z_gfR h zC6 (d := 1068) (c := 1067) tg_1067 ln_1067 1 rfl ft_6_1 rf_1067_1 wd_88 dX6_node_45 ?_
      refine z_iload h dX6_node_48 4 rfl ?_
      obtain ⟨g30, hf⟩ := ck_out hf
      refine z_iald h (c := 1068) tg_1068 ln_1068 g30 dX6_node_50 ?_
      refine z_iload_n h dX6_node_51 rfl 1 rfl ?_
      refine z_icmp_ne h (tgt := 69) dX6_node_52 (by decide) (fun g31 => ?_) (fun g31 => ?_)
      · have hf := it_neg g31 hf
        exact z_sub [0, 1, 2, 3, 4] rfl (k_X6_node_b69 h hq N x1 x2 x3 x4 (fun x4_ σ_ hf_ => ih x4_ σ_ hf_) _ hf)
      · have hf := it_pos g31 hf
        refine z_aload_n h dX6_node_55 rfl 0 rfl ?_
        refine z_gfR h zC6 (d := 1069) (c := 1067) tg_1067 ln_1067 2 rfl ft_6_2 rf_1067_2 wd_89 dX6_node_56 ?_
        refine z_iload h dX6_node_59 4 rfl ?_
        obtain ⟨g33, hf⟩ := ck_out hf
        refine z_iald h (c := 1069) tg_1069 ln_1069 g33 dX6_node_61 ?_
        refine z_iload_n h dX6_node_62 rfl 2 rfl ?_
        refine z_icmp_ne h (tgt := 69) dX6_node_63 (by decide) (fun g34 => ?_) (fun g34 => ?_)
        · have hf := it_neg g34 hf
          exact z_sub [0, 1, 2, 3, 4] rfl (k_X6_node_b69 h hq N x1 x2 x3 x4 (fun x4_ σ_ hf_ => ih x4_ σ_ hf_) _ hf)
        · have hf := it_pos g34 hf
          refine z_bipush h (v := (-5 : Int32)) dX6_node_66 bp_m5 ?_
          exact z_iret h (rt_I hf hq) dX6_node_68
set_option maxHeartbeats 4000000 in
set_option maxRecDepth 100000 in
theorem c_X6_node (l : Launch) (G : ZG) {N : Nat} {x1 : Int32} {x2 : Int32} {x3 : Int32} {σ σ' : ZS} {r : Int32} (hf : f_X6_node N x1 x2 x3 σ = some (r, σ')) : zMet l G yX6_node cX6_node 5 (some .int) rm_X6_node [.ref (G.1 1067), .int x1, .int x2, .int x3] σ (some (.int r)) σ' := by
  refine z_met (by decide +kernel) rfl (fun Y h hq => ?_)
  have h : zOk (l, rm_X6_node, 5, 0, 0) Y G cX6_node RX6 (some .int) := h
  rw [f_X6_node] at hf
  refine z_sub (lv' := [(0, .ref (G.1 1067)), (1, .int x1), (2, .int x2), (3, .int x3)]) [0, 1, 2, 3] rfl ?_
  refine z_iload_n h dX6_node_0 rfl 1 rfl ?_
  refine z_iconst h (v := (0 : Int32)) dX6_node_1 ic_0 ?_
  refine z_bipush h (v := (9 : Int32)) dX6_node_2 bp_9 ?_
  obtain ⟨v1, σ2, e2, hf⟩ := obd_out hf
  refine z_cSv h (n := 3) (c_X6_in l G e2) rfl wd_156 wd_157 wd_5 wd_158 (by decide +kernel) ⟨rfl, rfl⟩ rfl rfl rfl dX6_node_4 ⟨Nat.zero_le _, Nat.zero_le _⟩ ?_
  refine z_if_eq h (tgt := 29) dX6_node_7 (by decide) (fun g3 => ?_) (fun g3 => ?_)
  · have hf := it_pos g3 hf
    refine z_bipush h (v := (-2 : Int32)) dX6_node_29 bp_m2 ?_
    exact z_iret h (rt_I hf hq) dX6_node_31
  · have hf := it_neg g3 hf
    refine z_iload_n h dX6_node_10 rfl 2 rfl ?_
    refine z_iconst h (v := (0 : Int32)) dX6_node_11 ic_0 ?_
    refine z_bipush h (v := (9 : Int32)) dX6_node_12 bp_9 ?_
    obtain ⟨v4, σ5, e5, hf⟩ := obd_out hf
    refine z_cSv h (n := 3) (c_X6_in l G e5) rfl wd_156 wd_157 wd_5 wd_158 (by decide +kernel) ⟨rfl, rfl⟩ rfl rfl rfl dX6_node_14 ⟨Nat.zero_le _, Nat.zero_le _⟩ ?_
    refine z_if_eq h (tgt := 29) dX6_node_17 (by decide) (fun g6 => ?_) (fun g6 => ?_)
    · have hf := it_pos g6 hf
      refine z_bipush h (v := (-2 : Int32)) dX6_node_29 bp_m2 ?_
      exact z_iret h (rt_I hf hq) dX6_node_31
    · have hf := it_neg g6 hf
      refine z_iload_n h dX6_node_20 rfl 3 rfl ?_
      refine z_iconst h (v := (0 : Int32)) dX6_node_21 ic_0 ?_
      refine z_iconst h (v := (3 : Int32)) dX6_node_22 ic_3 ?_
      obtain ⟨v7, σ8, e8, hf⟩ := obd_out hf
      refine z_cSv h (n := 3) (c_X6_in l G e8) rfl wd_156 wd_157 wd_5 wd_158 (by decide +kernel) ⟨rfl, rfl⟩ rfl rfl rfl dX6_node_23 ⟨Nat.zero_le _, Nat.zero_le _⟩ ?_
      refine z_if_ne h (tgt := 32) dX6_node_26 (by decide) (fun g9 => ?_) (fun g9 => ?_)
      · have hf := it_neg g9 hf
        refine z_iconst h (v := (0 : Int32)) dX6_node_32 ic_0 ?_
        refine z_istore h dX6_node_33 (lv' := [(4, .int (0 : Int32)), (0, .ref (G.1 1067)), (1, .int x1), (2, .int x2), (3, .int x3)]) rfl rfl ?_
        exact z_sub [1, 2, 3, 4, 0] rfl (k_X6_node_h35 h hq N x1 x2 x3 _ _ _ hf)
      · have hf := it_pos g9 hf
        refine z_bipush h (v := (-2 : Int32)) dX6_node_29 bp_m2 ?_
        exact z_iret h (rt_I hf hq) dX6_node_31
theorem dX6_hold_0 : decode cX6_hold 0 = .ok (.aload_n 0, 1) := by decide +kernel
theorem dX6_hold_1 : decode cX6_hold 1 = .ok (.iload_n 1, 1) := by decide +kernel
theorem dX6_hold_2 : decode cX6_hold 2 = .ok (.invokevirtual 147, 3) := by decide +kernel
theorem dX6_hold_5 : decode cX6_hold 5 = .ok (.ifCond .ne 5, 3) := by decide +kernel
theorem dX6_hold_8 : decode cX6_hold 8 = .ok (.iconst (-1), 1) := by decide +kernel
theorem dX6_hold_9 : decode cX6_hold 9 = .ok (.ireturn, 1) := by decide +kernel
theorem dX6_hold_10 : decode cX6_hold 10 = .ok (.iload_n 2, 1) := by decide +kernel
theorem dX6_hold_11 : decode cX6_hold 11 = .ok (.iconst 0, 1) := by decide +kernel
theorem dX6_hold_12 : decode cX6_hold 12 = .ok (.iconst 3, 1) := by decide +kernel
theorem dX6_hold_13 : decode cX6_hold 13 = .ok (.invokestatic 137, 3) := by decide +kernel
theorem dX6_hold_16 : decode cX6_hold 16 = .ok (.ifCond .ne 6, 3) := by decide +kernel
theorem dX6_hold_19 : decode cX6_hold 19 = .ok (.bipush (-2), 2) := by decide +kernel
theorem dX6_hold_21 : decode cX6_hold 21 = .ok (.ireturn, 1) := by decide +kernel
theorem dX6_hold_22 : decode cX6_hold 22 = .ok (.aload_n 0, 1) := by decide +kernel
theorem dX6_hold_23 : decode cX6_hold 23 = .ok (.getfield 16, 3) := by decide +kernel
theorem dX6_hold_26 : decode cX6_hold 26 = .ok (.iload_n 1, 1) := by decide +kernel
theorem dX6_hold_27 : decode cX6_hold 27 = .ok (.iaload, 1) := by decide +kernel
theorem dX6_hold_28 : decode cX6_hold 28 = .ok (.istore_n 3, 1) := by decide +kernel
theorem dX6_hold_29 : decode cX6_hold 29 = .ok (.aload_n 0, 1) := by decide +kernel
theorem dX6_hold_30 : decode cX6_hold 30 = .ok (.getfield 16, 3) := by decide +kernel
theorem dX6_hold_33 : decode cX6_hold 33 = .ok (.iload_n 1, 1) := by decide +kernel
theorem dX6_hold_34 : decode cX6_hold 34 = .ok (.iload_n 2, 1) := by decide +kernel
theorem dX6_hold_35 : decode cX6_hold 35 = .ok (.iastore, 1) := by decide +kernel
theorem dX6_hold_36 : decode cX6_hold 36 = .ok (.aload_n 0, 1) := by decide +kernel
theorem dX6_hold_37 : decode cX6_hold 37 = .ok (.iconst 1, 1) := by decide +kernel
theorem dX6_hold_38 : decode cX6_hold 38 = .ok (.putfield 31, 3) := by decide +kernel
theorem dX6_hold_41 : decode cX6_hold 41 = .ok (.aload_n 0, 1) := by decide +kernel
theorem dX6_hold_42 : decode cX6_hold 42 = .ok (.invokevirtual 144, 3) := by decide +kernel
theorem dX6_hold_45 : decode cX6_hold 45 = .ok (.iload_n 3, 1) := by decide +kernel
theorem dX6_hold_46 : decode cX6_hold 46 = .ok (.ireturn, 1) := by decide +kernel
abbrev rm_X6_hold : Room := { frames := 2, cells := 0, slots := 0, locals := 59 }
noncomputable def f_X6_hold (N : Nat) (x1 : Int32) (x2 : Int32) (σ : ZS) : Option (Int32 × ZS) := obd (f_X6_isNode N x1 σ) fun v1 σ2 => (if v1 = 0 then some ((-1 : Int32), σ2) else obd (f_X6_in N x2 (0 : Int32) (3 : Int32) σ2) fun v4 σ5 => (if v4 = 0 then some ((-2 : Int32), σ5) else ck (inb x1 7) (bd (gI σ5 1070 (x1.toNatClampNeg)) fun v8 => ck (inb x1 7) (bd (sI σ5 1070 (x1.toNatClampNeg) x2) fun σ10 => bd (sI σ10 1067 9 (1 : Int32)) fun σ11 => obd (f_X6_forget N σ11) fun _ σ13 => some (v8, σ13)))))
set_option maxHeartbeats 4000000 in
set_option maxRecDepth 100000 in
theorem c_X6_hold (l : Launch) (G : ZG) {N : Nat} {x1 : Int32} {x2 : Int32} {σ σ' : ZS} {r : Int32} (hf : f_X6_hold N x1 x2 σ = some (r, σ')) : zMet l G yX6_hold cX6_hold 4 (some .int) rm_X6_hold [.ref (G.1 1067), .int x1, .int x2] σ (some (.int r)) σ' := by
  refine z_met (by decide +kernel) rfl (fun Y h hq => ?_)
  have h : zOk (l, rm_X6_hold, 4, 0, 0) Y G cX6_hold RX6 (some .int) := h
  rw [f_X6_hold] at hf
  refine z_sub (lv' := [(0, .ref (G.1 1067)), (1, .int x1), (2, .int x2)]) [0, 1, 2] rfl ?_
  refine z_aload_n h dX6_hold_0 rfl 0 rfl ?_
  refine z_iload_n h dX6_hold_1 rfl 1 rfl ?_
  obtain ⟨v1, σ2, e2, hf⟩ := obd_out hf
  refine z_cVv h (n := 1) (c_X6_isNode l G e2) zC6 tg_1067 ln_1067 rfl rfl wd_175 wd_176 wd_177 wd_5 wd_178 (by decide +kernel) ⟨rfl, rfl⟩ rfl rfl rfl dX6_hold_2 ⟨Nat.zero_le _, Nat.zero_le _⟩ ?_
  refine z_if_ne h (tgt := 10) dX6_hold_5 (by decide) (fun g3 => ?_) (fun g3 => ?_)
  · have hf := it_neg g3 hf
    refine z_iload_n h dX6_hold_10 rfl 2 rfl ?_
    refine z_iconst h (v := (0 : Int32)) dX6_hold_11 ic_0 ?_
    refine z_iconst h (v := (3 : Int32)) dX6_hold_12 ic_3 ?_
    obtain ⟨v4, σ5, e5, hf⟩ := obd_out hf
    refine z_cSv h (n := 3) (c_X6_in l G e5) rfl wd_156 wd_157 wd_5 wd_158 (by decide +kernel) ⟨rfl, rfl⟩ rfl rfl rfl dX6_hold_13 ⟨Nat.zero_le _, Nat.zero_le _⟩ ?_
    refine z_if_ne h (tgt := 22) dX6_hold_16 (by decide) (fun g6 => ?_) (fun g6 => ?_)
    · have hf := it_neg g6 hf
      refine z_aload_n h dX6_hold_22 rfl 0 rfl ?_
      refine z_gfR h zC6 (d := 1070) (c := 1067) tg_1067 ln_1067 3 rfl ft_6_3 rf_1067_3 wd_90 dX6_hold_23 ?_
      refine z_iload_n h dX6_hold_26 rfl 1 rfl ?_
      obtain ⟨g7, hf⟩ := ck_out hf
      refine z_iald h (c := 1070) tg_1070 ln_1070 g7 dX6_hold_27 ?_
      refine z_topI (fun v8 ev8 => ?_)
      have hf := bd_to ev8 hf
      refine z_istore_n h dX6_hold_28 rfl (lv' := [(3, .int v8), (0, .ref (G.1 1067)), (1, .int x1), (2, .int x2)]) rfl rfl ?_
      refine z_aload_n h dX6_hold_29 rfl 1 rfl ?_
      refine z_gfR h zC6 (d := 1070) (c := 1067) tg_1067 ln_1067 3 rfl ft_6_3 rf_1067_3 wd_90 dX6_hold_30 ?_
      refine z_iload_n h dX6_hold_33 rfl 2 rfl ?_
      refine z_iload_n h dX6_hold_34 rfl 3 rfl ?_
      obtain ⟨g9, hf⟩ := ck_out hf
      refine z_iast h (c := 1070) tg_1070 ln_1070 g9 dX6_hold_35 ?_
      refine z_gen (fun σ10 eσ10 => ?_)
      have hf := bd_to eσ10 hf
      refine z_aload_n h dX6_hold_36 rfl 1 rfl ?_
      refine z_iconst h (v := (1 : Int32)) dX6_hold_37 ic_1 ?_
      refine z_pfI h zC6 (c := 1067) tg_1067 ln_1067 9 rfl ft_6_9 wd_95 rfl (ty := .boolean) (by decide +kernel) rfl rfl dX6_hold_38 ?_
      refine z_gen (fun σ11 eσ11 => ?_)
      have hf := bd_to eσ11 hf
      refine z_aload_n h dX6_hold_41 rfl 1 rfl ?_
      obtain ⟨v12, σ13, e13, hf⟩ := obd_out hf
      refine z_cV0 h (n := 0) (c_X6_forget l G e13) zC6 tg_1067 ln_1067 rfl rfl wd_159 wd_160 wd_161 wd_5 wd_162 (by decide +kernel) ⟨rfl, rfl⟩ rfl rfl rfl dX6_hold_42 ⟨Nat.zero_le _, Nat.zero_le _⟩ ?_
      refine z_iload_n h dX6_hold_45 rfl 0 rfl ?_
      exact z_iret h (rt_I hf hq) dX6_hold_46
    · have hf := it_pos g6 hf
      refine z_bipush h (v := (-2 : Int32)) dX6_hold_19 bp_m2 ?_
      exact z_iret h (rt_I hf hq) dX6_hold_21
  · have hf := it_pos g3 hf
    refine z_iconst h (v := (-1 : Int32)) dX6_hold_8 ic_m1 ?_
    exact z_iret h (rt_I hf hq) dX6_hold_9
theorem dX6_bar_0 : decode cX6_bar 0 = .ok (.aload_n 0, 1) := by decide +kernel
theorem dX6_bar_1 : decode cX6_bar 1 = .ok (.iload_n 1, 1) := by decide +kernel
theorem dX6_bar_2 : decode cX6_bar 2 = .ok (.invokevirtual 147, 3) := by decide +kernel
theorem dX6_bar_5 : decode cX6_bar 5 = .ok (.ifCond .eq 11, 3) := by decide +kernel
theorem dX6_bar_8 : decode cX6_bar 8 = .ok (.aload_n 0, 1) := by decide +kernel
theorem dX6_bar_9 : decode cX6_bar 9 = .ok (.iload_n 2, 1) := by decide +kernel
theorem dX6_bar_10 : decode cX6_bar 10 = .ok (.invokevirtual 147, 3) := by decide +kernel
theorem dX6_bar_13 : decode cX6_bar 13 = .ok (.ifCond .ne 5, 3) := by decide +kernel
theorem dX6_bar_16 : decode cX6_bar 16 = .ok (.iconst (-1), 1) := by decide +kernel
theorem dX6_bar_17 : decode cX6_bar 17 = .ok (.ireturn, 1) := by decide +kernel
theorem dX6_bar_18 : decode cX6_bar 18 = .ok (.aload_n 0, 1) := by decide +kernel
theorem dX6_bar_19 : decode cX6_bar 19 = .ok (.getfield 7, 3) := by decide +kernel
theorem dX6_bar_22 : decode cX6_bar 22 = .ok (.iload_n 2, 1) := by decide +kernel
theorem dX6_bar_23 : decode cX6_bar 23 = .ok (.iaload, 1) := by decide +kernel
theorem dX6_bar_24 : decode cX6_bar 24 = .ok (.aload_n 0, 1) := by decide +kernel
theorem dX6_bar_25 : decode cX6_bar 25 = .ok (.getfield 7, 3) := by decide +kernel
theorem dX6_bar_28 : decode cX6_bar 28 = .ok (.iload_n 1, 1) := by decide +kernel
theorem dX6_bar_29 : decode cX6_bar 29 = .ok (.iaload, 1) := by decide +kernel
theorem dX6_bar_30 : decode cX6_bar 30 = .ok (.isub, 1) := by decide +kernel
theorem dX6_bar_31 : decode cX6_bar 31 = .ok (.istore 4, 2) := by decide +kernel
theorem dX6_bar_33 : decode cX6_bar 33 = .ok (.aload_n 0, 1) := by decide +kernel
theorem dX6_bar_34 : decode cX6_bar 34 = .ok (.getfield 13, 3) := by decide +kernel
theorem dX6_bar_37 : decode cX6_bar 37 = .ok (.iload_n 2, 1) := by decide +kernel
theorem dX6_bar_38 : decode cX6_bar 38 = .ok (.iaload, 1) := by decide +kernel
theorem dX6_bar_39 : decode cX6_bar 39 = .ok (.aload_n 0, 1) := by decide +kernel
theorem dX6_bar_40 : decode cX6_bar 40 = .ok (.getfield 13, 3) := by decide +kernel
theorem dX6_bar_43 : decode cX6_bar 43 = .ok (.iload_n 1, 1) := by decide +kernel
theorem dX6_bar_44 : decode cX6_bar 44 = .ok (.iaload, 1) := by decide +kernel
theorem dX6_bar_45 : decode cX6_bar 45 = .ok (.isub, 1) := by decide +kernel
theorem dX6_bar_46 : decode cX6_bar 46 = .ok (.istore 5, 2) := by decide +kernel
theorem dX6_bar_48 : decode cX6_bar 48 = .ok (.iload 5, 2) := by decide +kernel
theorem dX6_bar_50 : decode cX6_bar 50 = .ok (.ifCond .ne 17, 3) := by decide +kernel
theorem dX6_bar_53 : decode cX6_bar 53 = .ok (.iload 4, 2) := by decide +kernel
theorem dX6_bar_55 : decode cX6_bar 55 = .ok (.iconst 1, 1) := by decide +kernel
theorem dX6_bar_56 : decode cX6_bar 56 = .ok (.iconst 4, 1) := by decide +kernel
theorem dX6_bar_57 : decode cX6_bar 57 = .ok (.invokestatic 137, 3) := by decide +kernel
theorem dX6_bar_60 : decode cX6_bar 60 = .ok (.ifCond .eq 7, 3) := by decide +kernel
theorem dX6_bar_63 : decode cX6_bar 63 = .ok (.iconst 1, 1) := by decide +kernel
theorem dX6_bar_64 : decode cX6_bar 64 = .ok (.goto 4, 3) := by decide +kernel
theorem dX6_bar_67 : decode cX6_bar 67 = .ok (.iconst 0, 1) := by decide +kernel
theorem dX6_bar_68 : decode cX6_bar 68 = .ok (.istore 6, 2) := by decide +kernel
theorem dX6_bar_70 : decode cX6_bar 70 = .ok (.iload 4, 2) := by decide +kernel
theorem dX6_bar_72 : decode cX6_bar 72 = .ok (.ifCond .ne 17, 3) := by decide +kernel
theorem dX6_bar_75 : decode cX6_bar 75 = .ok (.iload 5, 2) := by decide +kernel
theorem dX6_bar_77 : decode cX6_bar 77 = .ok (.iconst 1, 1) := by decide +kernel
theorem dX6_bar_78 : decode cX6_bar 78 = .ok (.iconst 4, 1) := by decide +kernel
theorem dX6_bar_79 : decode cX6_bar 79 = .ok (.invokestatic 137, 3) := by decide +kernel
theorem dX6_bar_82 : decode cX6_bar 82 = .ok (.ifCond .eq 7, 3) := by decide +kernel
theorem dX6_bar_85 : decode cX6_bar 85 = .ok (.iconst 1, 1) := by decide +kernel
theorem dX6_bar_86 : decode cX6_bar 86 = .ok (.goto 4, 3) := by decide +kernel
theorem dX6_bar_89 : decode cX6_bar 89 = .ok (.iconst 0, 1) := by decide +kernel
theorem dX6_bar_90 : decode cX6_bar 90 = .ok (.istore 7, 2) := by decide +kernel
theorem dX6_bar_92 : decode cX6_bar 92 = .ok (.iload_n 3, 1) := by decide +kernel
theorem dX6_bar_93 : decode cX6_bar 93 = .ok (.iconst 1, 1) := by decide +kernel
theorem dX6_bar_94 : decode cX6_bar 94 = .ok (.bipush 12, 2) := by decide +kernel
theorem dX6_bar_96 : decode cX6_bar 96 = .ok (.invokestatic 137, 3) := by decide +kernel
theorem dX6_bar_99 : decode cX6_bar 99 = .ok (.ifCond .eq 13, 3) := by decide +kernel
theorem dX6_bar_102 : decode cX6_bar 102 = .ok (.iload 6, 2) := by decide +kernel
theorem dX6_bar_104 : decode cX6_bar 104 = .ok (.ifCond .ne 11, 3) := by decide +kernel
theorem dX6_bar_107 : decode cX6_bar 107 = .ok (.iload 7, 2) := by decide +kernel
theorem dX6_bar_109 : decode cX6_bar 109 = .ok (.ifCond .ne 6, 3) := by decide +kernel
theorem dX6_bar_112 : decode cX6_bar 112 = .ok (.bipush (-2), 2) := by decide +kernel
theorem dX6_bar_114 : decode cX6_bar 114 = .ok (.ireturn, 1) := by decide +kernel
theorem dX6_bar_115 : decode cX6_bar 115 = .ok (.iconst 0, 1) := by decide +kernel
theorem dX6_bar_116 : decode cX6_bar 116 = .ok (.istore 8, 2) := by decide +kernel
theorem dX6_bar_118 : decode cX6_bar 118 = .ok (.iload 8, 2) := by decide +kernel
theorem dX6_bar_120 : decode cX6_bar 120 = .ok (.aload_n 0, 1) := by decide +kernel
theorem dX6_bar_121 : decode cX6_bar 121 = .ok (.getfield 141, 3) := by decide +kernel
theorem dX6_bar_124 : decode cX6_bar 124 = .ok (.if_icmp .ge 34, 3) := by decide +kernel
theorem dX6_bar_127 : decode cX6_bar 127 = .ok (.aload_n 0, 1) := by decide +kernel
theorem dX6_bar_128 : decode cX6_bar 128 = .ok (.getfield 19, 3) := by decide +kernel
theorem dX6_bar_131 : decode cX6_bar 131 = .ok (.iload 8, 2) := by decide +kernel
theorem dX6_bar_133 : decode cX6_bar 133 = .ok (.iaload, 1) := by decide +kernel
theorem dX6_bar_134 : decode cX6_bar 134 = .ok (.iload_n 1, 1) := by decide +kernel
theorem dX6_bar_135 : decode cX6_bar 135 = .ok (.if_icmp .ne 17, 3) := by decide +kernel
theorem dX6_bar_138 : decode cX6_bar 138 = .ok (.aload_n 0, 1) := by decide +kernel
theorem dX6_bar_139 : decode cX6_bar 139 = .ok (.getfield 22, 3) := by decide +kernel
theorem dX6_bar_142 : decode cX6_bar 142 = .ok (.iload 8, 2) := by decide +kernel
theorem dX6_bar_144 : decode cX6_bar 144 = .ok (.iaload, 1) := by decide +kernel
theorem dX6_bar_145 : decode cX6_bar 145 = .ok (.iload_n 2, 1) := by decide +kernel
theorem dX6_bar_146 : decode cX6_bar 146 = .ok (.if_icmp .ne 6, 3) := by decide +kernel
theorem dX6_bar_149 : decode cX6_bar 149 = .ok (.bipush (-5), 2) := by decide +kernel
theorem dX6_bar_151 : decode cX6_bar 151 = .ok (.ireturn, 1) := by decide +kernel
theorem dX6_bar_152 : decode cX6_bar 152 = .ok (.iinc 8 1, 3) := by decide +kernel
theorem dX6_bar_155 : decode cX6_bar 155 = .ok (.goto (-37), 3) := by decide +kernel
theorem dX6_bar_158 : decode cX6_bar 158 = .ok (.aload_n 0, 1) := by decide +kernel
theorem dX6_bar_159 : decode cX6_bar 159 = .ok (.getfield 141, 3) := by decide +kernel
theorem dX6_bar_162 : decode cX6_bar 162 = .ok (.bipush 6, 2) := by decide +kernel
theorem dX6_bar_164 : decode cX6_bar 164 = .ok (.if_icmp .ne 6, 3) := by decide +kernel
theorem dX6_bar_167 : decode cX6_bar 167 = .ok (.bipush (-4), 2) := by decide +kernel
theorem dX6_bar_169 : decode cX6_bar 169 = .ok (.ireturn, 1) := by decide +kernel
theorem dX6_bar_170 : decode cX6_bar 170 = .ok (.aload_n 0, 1) := by decide +kernel
theorem dX6_bar_171 : decode cX6_bar 171 = .ok (.getfield 19, 3) := by decide +kernel
theorem dX6_bar_174 : decode cX6_bar 174 = .ok (.aload_n 0, 1) := by decide +kernel
theorem dX6_bar_175 : decode cX6_bar 175 = .ok (.getfield 141, 3) := by decide +kernel
theorem dX6_bar_178 : decode cX6_bar 178 = .ok (.iload_n 1, 1) := by decide +kernel
theorem dX6_bar_179 : decode cX6_bar 179 = .ok (.iastore, 1) := by decide +kernel
theorem dX6_bar_180 : decode cX6_bar 180 = .ok (.aload_n 0, 1) := by decide +kernel
theorem dX6_bar_181 : decode cX6_bar 181 = .ok (.getfield 22, 3) := by decide +kernel
theorem dX6_bar_184 : decode cX6_bar 184 = .ok (.aload_n 0, 1) := by decide +kernel
theorem dX6_bar_185 : decode cX6_bar 185 = .ok (.getfield 141, 3) := by decide +kernel
theorem dX6_bar_188 : decode cX6_bar 188 = .ok (.iload_n 2, 1) := by decide +kernel
theorem dX6_bar_189 : decode cX6_bar 189 = .ok (.iastore, 1) := by decide +kernel
theorem dX6_bar_190 : decode cX6_bar 190 = .ok (.aload_n 0, 1) := by decide +kernel
theorem dX6_bar_191 : decode cX6_bar 191 = .ok (.getfield 25, 3) := by decide +kernel
theorem dX6_bar_194 : decode cX6_bar 194 = .ok (.aload_n 0, 1) := by decide +kernel
theorem dX6_bar_195 : decode cX6_bar 195 = .ok (.getfield 141, 3) := by decide +kernel
theorem dX6_bar_198 : decode cX6_bar 198 = .ok (.iload_n 3, 1) := by decide +kernel
theorem dX6_bar_199 : decode cX6_bar 199 = .ok (.iastore, 1) := by decide +kernel
theorem dX6_bar_200 : decode cX6_bar 200 = .ok (.aload_n 0, 1) := by decide +kernel
theorem dX6_bar_201 : decode cX6_bar 201 = .ok (.iconst 1, 1) := by decide +kernel
theorem dX6_bar_202 : decode cX6_bar 202 = .ok (.putfield 31, 3) := by decide +kernel
theorem dX6_bar_205 : decode cX6_bar 205 = .ok (.aload_n 0, 1) := by decide +kernel
theorem dX6_bar_206 : decode cX6_bar 206 = .ok (.invokevirtual 144, 3) := by decide +kernel
theorem dX6_bar_209 : decode cX6_bar 209 = .ok (.aload_n 0, 1) := by decide +kernel
theorem dX6_bar_210 : decode cX6_bar 210 = .ok (.dup, 1) := by decide +kernel
theorem dX6_bar_211 : decode cX6_bar 211 = .ok (.getfield 141, 3) := by decide +kernel
theorem dX6_bar_214 : decode cX6_bar 214 = .ok (.dup_x1, 1) := by decide +kernel
theorem dX6_bar_215 : decode cX6_bar 215 = .ok (.iconst 1, 1) := by decide +kernel
theorem dX6_bar_216 : decode cX6_bar 216 = .ok (.iadd, 1) := by decide +kernel
theorem dX6_bar_217 : decode cX6_bar 217 = .ok (.putfield 141, 3) := by decide +kernel
theorem dX6_bar_220 : decode cX6_bar 220 = .ok (.ireturn, 1) := by decide +kernel
abbrev rm_X6_bar : Room := { frames := 2, cells := 0, slots := 0, locals := 59 }
noncomputable def f_X6_bar_b152 (N : Nat) (kb118 : Int32 → ZS → Option (Int32 × ZS)) (x1 : Int32) (x2 : Int32) (x3 : Int32) (x8 : Int32) (σ : ZS) : Option (Int32 × ZS) := bd (x8 + (1 : Int32)) fun v35 => kb118 v35 σ
noncomputable def f_X6_bar_h118 (N : Nat) (x1 : Int32) (x2 : Int32) (x3 : Int32) : Nat → Int32 → ZS → Option (Int32 × ZS)
  | 0, _, _ => none
  | n + 1, x8, σ => (if (gI σ 1067 4) ≤ x8 then (if (gI σ 1067 4) = (6 : Int32) then some ((-4 : Int32), σ) else ck (inb (gI σ 1067 4) 6) (bd (sI σ 1071 ((gI σ 1067 4).toNatClampNeg) x1) fun σ22 => ck (inb (gI σ22 1067 4) 6) (bd (sI σ22 1072 ((gI σ22 1067 4).toNatClampNeg) x2) fun σ24 => ck (inb (gI σ24 1067 4) 6) (bd (sI σ24 1073 ((gI σ24 1067 4).toNatClampNeg) x3) fun σ26 => bd (sI σ26 1067 9 (1 : Int32)) fun σ27 => obd (f_X6_forget N σ27) fun _ σ29 => bd (gI σ29 1067 4) fun v30 => bd (v30 + (1 : Int32)) fun v31 => bd (sI σ29 1067 4 v31) fun σ32 => some (v30, σ32))))) else ck (inb x8 6) ((if (gI σ 1071 (x8.toNatClampNeg)) = x1 then ck (inb x8 6) ((if (gI σ 1072 (x8.toNatClampNeg)) = x2 then some ((-5 : Int32), σ) else f_X6_bar_b152 N (fun x8_ σ_ => f_X6_bar_h118 N x1 x2 x3 n x8_ σ_) x1 x2 x3 x8 σ)) else f_X6_bar_b152 N (fun x8_ σ_ => f_X6_bar_h118 N x1 x2 x3 n x8_ σ_) x1 x2 x3 x8 σ)))
noncomputable def f_X6_bar_b115 (N : Nat) (x1 : Int32) (x2 : Int32) (x3 : Int32) (σ : ZS) : Option (Int32 × ZS) := f_X6_bar_h118 N x1 x2 x3 N (0 : Int32) σ
noncomputable def f_X6_bar_b90 (N : Nat) (x1 : Int32) (x2 : Int32) (x3 : Int32) (x6 : Int32) (s0 : Int32) (σ : ZS) : Option (Int32 × ZS) := obd (f_X6_in N x3 (1 : Int32) (12 : Int32) σ) fun v15 σ16 => (if v15 = 0 then some ((-2 : Int32), σ16) else (if x6 = 0 then (if s0 = 0 then some ((-2 : Int32), σ16) else f_X6_bar_b115 N x1 x2 x3 σ16) else f_X6_bar_b115 N x1 x2 x3 σ16))
noncomputable def f_X6_bar_b89 (N : Nat) (x1 : Int32) (x2 : Int32) (x3 : Int32) (x6 : Int32) (σ : ZS) : Option (Int32 × ZS) := f_X6_bar_b90 N x1 x2 x3 x6 (0 : Int32) σ
noncomputable def f_X6_bar_b68 (N : Nat) (x1 : Int32) (x2 : Int32) (x3 : Int32) (x4 : Int32) (x5 : Int32) (s0 : Int32) (σ : ZS) : Option (Int32 × ZS) := (if x4 = 0 then obd (f_X6_in N x5 (1 : Int32) (4 : Int32) σ) fun v39 σ40 => (if v39 = 0 then f_X6_bar_b89 N x1 x2 x3 s0 σ40 else f_X6_bar_b90 N x1 x2 x3 s0 (1 : Int32) σ40) else f_X6_bar_b89 N x1 x2 x3 s0 σ)
noncomputable def f_X6_bar_b67 (N : Nat) (x1 : Int32) (x2 : Int32) (x3 : Int32) (x4 : Int32) (x5 : Int32) (σ : ZS) : Option (Int32 × ZS) := f_X6_bar_b68 N x1 x2 x3 x4 x5 (0 : Int32) σ
noncomputable def f_X6_bar (N : Nat) (x1 : Int32) (x2 : Int32) (x3 : Int32) (σ : ZS) : Option (Int32 × ZS) := obd (f_X6_isNode N x1 σ) fun v1 σ2 => (if v1 = 0 then some ((-1 : Int32), σ2) else obd (f_X6_isNode N x2 σ2) fun v4 σ5 => (if v4 = 0 then some ((-1 : Int32), σ5) else ck (inb x2 7) (ck (inb x1 7) (bd ((gI σ5 1068 (x2.toNatClampNeg)) - (gI σ5 1068 (x1.toNatClampNeg))) fun v9 => ck (inb x2 7) (ck (inb x1 7) (bd ((gI σ5 1069 (x2.toNatClampNeg)) - (gI σ5 1069 (x1.toNatClampNeg))) fun v12 => (if v12 = 0 then obd (f_X6_in N v9 (1 : Int32) (4 : Int32) σ5) fun v42 σ43 => (if v42 = 0 then f_X6_bar_b67 N x1 x2 x3 v9 v12 σ43 else f_X6_bar_b68 N x1 x2 x3 v9 v12 (1 : Int32) σ43) else f_X6_bar_b67 N x1 x2 x3 v9 v12 σ5)))))))
set_option maxHeartbeats 4000000 in
set_option maxRecDepth 100000 in
theorem k_X6_bar_b152 {l : Launch} {Y : ZY} {G : ZG} {r : Int32} {σ' : ZS} (h : zOk (l, rm_X6_bar, 9, 0, 0) Y G cX6_bar RX6 (some .int)) (hq : zRet (l, rm_X6_bar, 9, 0, 0) Y G (some (.int r)) σ') (N : Nat) {kb118 : Int32 → ZS → Option (Int32 × ZS)} (x1 : Int32) (x2 : Int32) (x3 : Int32) (x8 : Int32) (hb118 : ∀ (x8_ : Int32) (σ_ : ZS), kb118 x8_ σ_ = some (r, σ') → Z (l, rm_X6_bar, 9, 0, 0) Y G σ_ [(0, .ref (G.1 1067)), (1, .int x1), (2, .int x2), (3, .int x3), (8, .int x8_)] [] 118) (σ : ZS) (hf : f_X6_bar_b152 N kb118 x1 x2 x3 x8 σ = some (r, σ')) : Z (l, rm_X6_bar, 9, 0, 0) Y G σ [(0, .ref (G.1 1067)), (1, .int x1), (2, .int x2), (3, .int x3), (8, .int x8)] [] 152 := by
  rw [f_X6_bar_b152] at hf
  obtain ⟨v35, ev35, hf⟩ := bd_ex hf
  refine z_iinc h (v := v35) (lv' := [(8, .int v35), (0, .ref (G.1 1067)), (1, .int x1), (2, .int x2), (3, .int x3)]) dX6_bar_152 4 rfl (by rw [ev35]; rfl) rfl rfl ?_
  refine z_goto h (tgt := 118) dX6_bar_155 (by decide) ?_
  exact z_sub [1, 2, 3, 4, 0] rfl (hb118 _ _ hf)
set_option maxHeartbeats 4000000 in
set_option maxRecDepth 100000 in
theorem k_X6_bar_h118 {l : Launch} {Y : ZY} {G : ZG} {r : Int32} {σ' : ZS} (h : zOk (l, rm_X6_bar, 9, 0, 0) Y G cX6_bar RX6 (some .int)) (hq : zRet (l, rm_X6_bar, 9, 0, 0) Y G (some (.int r)) σ') (N : Nat) (x1 : Int32) (x2 : Int32) (x3 : Int32) : ∀ (n : Nat) (x8 : Int32) (σ : ZS), f_X6_bar_h118 N x1 x2 x3 n x8 σ = some (r, σ') → Z (l, rm_X6_bar, 9, 0, 0) Y G σ [(0, .ref (G.1 1067)), (1, .int x1), (2, .int x2), (3, .int x3), (8, .int x8)] [] 118 := by
  intro n
  induction n with
  | zero =>
    intro x8 σ hf
    rw [f_X6_bar_h118] at hf
    cases hf
  | succ n ih =>
    intro x8 σ hf
    rw [f_X6_bar_h118] at hf
    refine z_iload h dX6_bar_118 4 rfl ?_
    refine z_aload_n h dX6_bar_120 rfl 0 rfl ?_
    refine z_gfI h zC6 (c := 1067) tg_1067 ln_1067 4 rfl ft_6_4 wd_200 dX6_bar_121 ?_
    refine z_icmp_ge h (tgt := 158) dX6_bar_124 (by decide) (fun g19 => ?_) (fun g19 => ?_)
    · have hf := it_pos g19 hf
      refine z_aload_n h dX6_bar_158 rfl 0 rfl ?_
      refine z_gfI h zC6 (c := 1067) tg_1067 ln_1067 4 rfl ft_6_4 wd_200 dX6_bar_159 ?_
      refine z_bipush h (v := (6 : Int32)) dX6_bar_162 bp_6 ?_
      refine z_icmp_ne h (tgt := 170) dX6_bar_164 (by decide) (fun g20 => ?_) (fun g20 => ?_)
      · have hf := it_neg g20 hf
        refine z_aload_n h dX6_bar_170 rfl 0 rfl ?_
        refine z_gfR h zC6 (d := 1071) (c := 1067) tg_1067 ln_1067 5 rfl ft_6_5 rf_1067_5 wd_91 dX6_bar_171 ?_
        refine z_aload_n h dX6_bar_174 rfl 0 rfl ?_
        refine z_gfI h zC6 (c := 1067) tg_1067 ln_1067 4 rfl ft_6_4 wd_200 dX6_bar_175 ?_
        refine z_iload_n h dX6_bar_178 rfl 1 rfl ?_
        obtain ⟨g21, hf⟩ := ck_out hf
        refine z_iast h (c := 1071) tg_1071 ln_1071 g21 dX6_bar_179 ?_
        refine z_gen (fun σ22 eσ22 => ?_)
        have hf := bd_to eσ22 hf
        refine z_aload_n h dX6_bar_180 rfl 0 rfl ?_
        refine z_gfR h zC6 (d := 1072) (c := 1067) tg_1067 ln_1067 6 rfl ft_6_6 rf_1067_6 wd_92 dX6_bar_181 ?_
        refine z_aload_n h dX6_bar_184 rfl 0 rfl ?_
        refine z_gfI h zC6 (c := 1067) tg_1067 ln_1067 4 rfl ft_6_4 wd_200 dX6_bar_185 ?_
        refine z_iload_n h dX6_bar_188 rfl 2 rfl ?_
        obtain ⟨g23, hf⟩ := ck_out hf
        refine z_iast h (c := 1072) tg_1072 ln_1072 g23 dX6_bar_189 ?_
        refine z_gen (fun σ24 eσ24 => ?_)
        have hf := bd_to eσ24 hf
        refine z_aload_n h dX6_bar_190 rfl 0 rfl ?_
        refine z_gfR h zC6 (d := 1073) (c := 1067) tg_1067 ln_1067 7 rfl ft_6_7 rf_1067_7 wd_93 dX6_bar_191 ?_
        refine z_aload_n h dX6_bar_194 rfl 0 rfl ?_
        refine z_gfI h zC6 (c := 1067) tg_1067 ln_1067 4 rfl ft_6_4 wd_200 dX6_bar_195 ?_
        refine z_iload_n h dX6_bar_198 rfl 3 rfl ?_
        obtain ⟨g25, hf⟩ := ck_out hf
        refine z_iast h (c := 1073) tg_1073 ln_1073 g25 dX6_bar_199 ?_
        refine z_gen (fun σ26 eσ26 => ?_)
        have hf := bd_to eσ26 hf
        refine z_aload_n h dX6_bar_200 rfl 0 rfl ?_
        refine z_iconst h (v := (1 : Int32)) dX6_bar_201 ic_1 ?_
        refine z_pfI h zC6 (c := 1067) tg_1067 ln_1067 9 rfl ft_6_9 wd_95 rfl (ty := .boolean) (by decide +kernel) rfl rfl dX6_bar_202 ?_
        refine z_gen (fun σ27 eσ27 => ?_)
        have hf := bd_to eσ27 hf
        refine z_aload_n h dX6_bar_205 rfl 0 rfl ?_
        obtain ⟨v28, σ29, e29, hf⟩ := obd_out hf
        refine z_cV0 h (n := 0) (c_X6_forget l G e29) zC6 tg_1067 ln_1067 rfl rfl wd_159 wd_160 wd_161 wd_5 wd_162 (by decide +kernel) ⟨rfl, rfl⟩ rfl rfl rfl dX6_bar_206 ⟨Nat.zero_le _, Nat.zero_le _⟩ ?_
        refine z_aload_n h dX6_bar_209 rfl 0 rfl ?_
        refine z_dup h dX6_bar_210 rfl ?_
        refine z_gfI h zC6 (c := 1067) tg_1067 ln_1067 4 rfl ft_6_4 wd_200 dX6_bar_211 ?_
        refine z_topI (fun v30 ev30 => ?_)
        have hf := bd_to ev30 hf
        refine z_dup_x1 h dX6_bar_214 rfl rfl ?_
        refine z_iconst h (v := (1 : Int32)) dX6_bar_215 ic_1 ?_
        refine z_iadd h dX6_bar_216 ?_
        refine z_topI (fun v31 ev31 => ?_)
        have hf := bd_to ev31 hf
        refine z_pfI h zC6 (c := 1067) tg_1067 ln_1067 4 rfl ft_6_4 wd_200 rfl (ty := .int) (by decide +kernel) rfl rfl dX6_bar_217 ?_
        refine z_gen (fun σ32 eσ32 => ?_)
        have hf := bd_to eσ32 hf
        exact z_iret h (rt_I hf hq) dX6_bar_220
      · have hf := it_pos g20 hf
        refine z_bipush h (v := (-4 : Int32)) dX6_bar_167 bp_m4 ?_
        exact z_iret h (rt_I hf hq) dX6_bar_169
    · have hf := it_neg g19 hf
      refine z_aload_n h dX6_bar_127 rfl 0 rfl ?_
      refine z_gfR h zC6 (d := 1071) (c := 1067) tg_1067 ln_1067 5 rfl ft_6_5 rf_1067_5 wd_91 dX6_bar_128 ?_
      refine z_iload h dX6_bar_131 4 rfl ?_
      obtain ⟨g33, hf⟩ := ck_out hf
      refine z_iald h (c := 1071) tg_1071 ln_1071 g33 dX6_bar_133 ?_
      refine z_iload_n h dX6_bar_134 rfl 1 rfl ?_
      refine z_icmp_ne h (tgt := 152) dX6_bar_135 (by decide) (fun g34 => ?_) (fun g34 => ?_)
      · have hf := it_neg g34 hf
        exact z_sub [0, 1, 2, 3, 4] rfl (k_X6_bar_b152 h hq N x1 x2 x3 x8 (fun x8_ σ_ hf_ => ih x8_ σ_ hf_) _ hf)
      · have hf := it_pos g34 hf
        refine z_aload_n h dX6_bar_138 rfl 0 rfl ?_
        refine z_gfR h zC6 (d := 1072) (c := 1067) tg_1067 ln_1067 6 rfl ft_6_6 rf_1067_6 wd_92 dX6_bar_139 ?_
        refine z_iload h dX6_bar_142 4 rfl ?_
        obtain ⟨g36, hf⟩ := ck_out hf
        refine z_iald h (c := 1072) tg_1072 ln_1072 g36 dX6_bar_144 ?_
        refine z_iload_n h dX6_bar_145 rfl 2 rfl ?_
        refine z_icmp_ne h (tgt := 152) dX6_bar_146 (by decide) (fun g37 => ?_) (fun g37 => ?_)
        · have hf := it_neg g37 hf
          exact z_sub [0, 1, 2, 3, 4] rfl (k_X6_bar_b152 h hq N x1 x2 x3 x8 (fun x8_ σ_ hf_ => ih x8_ σ_ hf_) _ hf)
        · have hf := it_pos g37 hf
          refine z_bipush h (v := (-5 : Int32)) dX6_bar_149 bp_m5 ?_
          exact z_iret h (rt_I hf hq) dX6_bar_151
set_option maxHeartbeats 4000000 in
set_option maxRecDepth 100000 in
theorem k_X6_bar_b115 {l : Launch} {Y : ZY} {G : ZG} {r : Int32} {σ' : ZS} (h : zOk (l, rm_X6_bar, 9, 0, 0) Y G cX6_bar RX6 (some .int)) (hq : zRet (l, rm_X6_bar, 9, 0, 0) Y G (some (.int r)) σ') (N : Nat) (x1 : Int32) (x2 : Int32) (x3 : Int32) (σ : ZS) (hf : f_X6_bar_b115 N x1 x2 x3 σ = some (r, σ')) : Z (l, rm_X6_bar, 9, 0, 0) Y G σ [(0, .ref (G.1 1067)), (1, .int x1), (2, .int x2), (3, .int x3)] [] 115 := by
  rw [f_X6_bar_b115] at hf
  refine z_iconst h (v := (0 : Int32)) dX6_bar_115 ic_0 ?_
  refine z_istore h dX6_bar_116 (lv' := [(8, .int (0 : Int32)), (0, .ref (G.1 1067)), (1, .int x1), (2, .int x2), (3, .int x3)]) rfl rfl ?_
  exact z_sub [1, 2, 3, 4, 0] rfl (k_X6_bar_h118 h hq N x1 x2 x3 _ _ _ hf)
set_option maxHeartbeats 4000000 in
set_option maxRecDepth 100000 in
theorem k_X6_bar_b90 {l : Launch} {Y : ZY} {G : ZG} {r : Int32} {σ' : ZS} (h : zOk (l, rm_X6_bar, 9, 0, 0) Y G cX6_bar RX6 (some .int)) (hq : zRet (l, rm_X6_bar, 9, 0, 0) Y G (some (.int r)) σ') (N : Nat) (x1 : Int32) (x2 : Int32) (x3 : Int32) (x6 : Int32) (s0 : Int32) (σ : ZS) (hf : f_X6_bar_b90 N x1 x2 x3 x6 s0 σ = some (r, σ')) : Z (l, rm_X6_bar, 9, 0, 0) Y G σ [(0, .ref (G.1 1067)), (1, .int x1), (2, .int x2), (3, .int x3), (6, .int x6)] [.int s0] 90 := by
  rw [f_X6_bar_b90] at hf
  refine z_istore h dX6_bar_90 (lv' := [(7, .int s0), (0, .ref (G.1 1067)), (1, .int x1), (2, .int x2), (3, .int x3), (6, .int x6)]) rfl rfl ?_
  refine z_iload_n h dX6_bar_92 rfl 4 rfl ?_
  refine z_iconst h (v := (1 : Int32)) dX6_bar_93 ic_1 ?_
  refine z_bipush h (v := (12 : Int32)) dX6_bar_94 bp_12 ?_
  obtain ⟨v15, σ16, e16, hf⟩ := obd_out hf
  refine z_cSv h (n := 3) (c_X6_in l G e16) rfl wd_156 wd_157 wd_5 wd_158 (by decide +kernel) ⟨rfl, rfl⟩ rfl rfl rfl dX6_bar_96 ⟨Nat.zero_le _, Nat.zero_le _⟩ ?_
  refine z_if_eq h (tgt := 112) dX6_bar_99 (by decide) (fun g17 => ?_) (fun g17 => ?_)
  · have hf := it_pos g17 hf
    refine z_bipush h (v := (-2 : Int32)) dX6_bar_112 bp_m2 ?_
    exact z_iret h (rt_I hf hq) dX6_bar_114
  · have hf := it_neg g17 hf
    refine z_iload h dX6_bar_102 5 rfl ?_
    refine z_if_ne h (tgt := 115) dX6_bar_104 (by decide) (fun g18 => ?_) (fun g18 => ?_)
    · have hf := it_neg g18 hf
      exact z_sub [1, 2, 3, 4] rfl (k_X6_bar_b115 h hq N x1 x2 x3 _ hf)
    · have hf := it_pos g18 hf
      refine z_iload h dX6_bar_107 0 rfl ?_
      refine z_if_ne h (tgt := 115) dX6_bar_109 (by decide) (fun g38 => ?_) (fun g38 => ?_)
      · have hf := it_neg g38 hf
        exact z_sub [1, 2, 3, 4] rfl (k_X6_bar_b115 h hq N x1 x2 x3 _ hf)
      · have hf := it_pos g38 hf
        refine z_bipush h (v := (-2 : Int32)) dX6_bar_112 bp_m2 ?_
        exact z_iret h (rt_I hf hq) dX6_bar_114
set_option maxHeartbeats 4000000 in
set_option maxRecDepth 100000 in
theorem k_X6_bar_b89 {l : Launch} {Y : ZY} {G : ZG} {r : Int32} {σ' : ZS} (h : zOk (l, rm_X6_bar, 9, 0, 0) Y G cX6_bar RX6 (some .int)) (hq : zRet (l, rm_X6_bar, 9, 0, 0) Y G (some (.int r)) σ') (N : Nat) (x1 : Int32) (x2 : Int32) (x3 : Int32) (x6 : Int32) (σ : ZS) (hf : f_X6_bar_b89 N x1 x2 x3 x6 σ = some (r, σ')) : Z (l, rm_X6_bar, 9, 0, 0) Y G σ [(0, .ref (G.1 1067)), (1, .int x1), (2, .int x2), (3, .int x3), (6, .int x6)] [] 89 := by
  rw [f_X6_bar_b89] at hf
  refine z_iconst h (v := (0 : Int32)) dX6_bar_89 ic_0 ?_
  exact z_sub [0, 1, 2, 3, 4] rfl (k_X6_bar_b90 h hq N x1 x2 x3 x6 (0 : Int32) _ hf)
set_option maxHeartbeats 4000000 in
set_option maxRecDepth 100000 in
theorem k_X6_bar_b68 {l : Launch} {Y : ZY} {G : ZG} {r : Int32} {σ' : ZS} (h : zOk (l, rm_X6_bar, 9, 0, 0) Y G cX6_bar RX6 (some .int)) (hq : zRet (l, rm_X6_bar, 9, 0, 0) Y G (some (.int r)) σ') (N : Nat) (x1 : Int32) (x2 : Int32) (x3 : Int32) (x4 : Int32) (x5 : Int32) (s0 : Int32) (σ : ZS) (hf : f_X6_bar_b68 N x1 x2 x3 x4 x5 s0 σ = some (r, σ')) : Z (l, rm_X6_bar, 9, 0, 0) Y G σ [(0, .ref (G.1 1067)), (1, .int x1), (2, .int x2), (3, .int x3), (4, .int x4), (5, .int x5)] [.int s0] 68 := by
  rw [f_X6_bar_b68] at hf
  refine z_istore h dX6_bar_68 (lv' := [(6, .int s0), (0, .ref (G.1 1067)), (1, .int x1), (2, .int x2), (3, .int x3), (4, .int x4), (5, .int x5)]) rfl rfl ?_
  refine z_iload h dX6_bar_70 5 rfl ?_
  refine z_if_ne h (tgt := 89) dX6_bar_72 (by decide) (fun g14 => ?_) (fun g14 => ?_)
  · have hf := it_neg g14 hf
    exact z_sub [1, 2, 3, 4, 0] rfl (k_X6_bar_b89 h hq N x1 x2 x3 s0 _ hf)
  · have hf := it_pos g14 hf
    refine z_iload h dX6_bar_75 6 rfl ?_
    refine z_iconst h (v := (1 : Int32)) dX6_bar_77 ic_1 ?_
    refine z_iconst h (v := (4 : Int32)) dX6_bar_78 ic_4 ?_
    obtain ⟨v39, σ40, e40, hf⟩ := obd_out hf
    refine z_cSv h (n := 3) (c_X6_in l G e40) rfl wd_156 wd_157 wd_5 wd_158 (by decide +kernel) ⟨rfl, rfl⟩ rfl rfl rfl dX6_bar_79 ⟨Nat.zero_le _, Nat.zero_le _⟩ ?_
    refine z_if_eq h (tgt := 89) dX6_bar_82 (by decide) (fun g41 => ?_) (fun g41 => ?_)
    · have hf := it_pos g41 hf
      exact z_sub [1, 2, 3, 4, 0] rfl (k_X6_bar_b89 h hq N x1 x2 x3 s0 _ hf)
    · have hf := it_neg g41 hf
      refine z_iconst h (v := (1 : Int32)) dX6_bar_85 ic_1 ?_
      refine z_goto h (tgt := 90) dX6_bar_86 (by decide) ?_
      exact z_sub [1, 2, 3, 4, 0] rfl (k_X6_bar_b90 h hq N x1 x2 x3 s0 (1 : Int32) _ hf)
set_option maxHeartbeats 4000000 in
set_option maxRecDepth 100000 in
theorem k_X6_bar_b67 {l : Launch} {Y : ZY} {G : ZG} {r : Int32} {σ' : ZS} (h : zOk (l, rm_X6_bar, 9, 0, 0) Y G cX6_bar RX6 (some .int)) (hq : zRet (l, rm_X6_bar, 9, 0, 0) Y G (some (.int r)) σ') (N : Nat) (x1 : Int32) (x2 : Int32) (x3 : Int32) (x4 : Int32) (x5 : Int32) (σ : ZS) (hf : f_X6_bar_b67 N x1 x2 x3 x4 x5 σ = some (r, σ')) : Z (l, rm_X6_bar, 9, 0, 0) Y G σ [(0, .ref (G.1 1067)), (1, .int x1), (2, .int x2), (3, .int x3), (4, .int x4), (5, .int x5)] [] 67 := by
  rw [f_X6_bar_b67] at hf
  refine z_iconst h (v := (0 : Int32)) dX6_bar_67 ic_0 ?_
  exact z_sub [0, 1, 2, 3, 4, 5] rfl (k_X6_bar_b68 h hq N x1 x2 x3 x4 x5 (0 : Int32) _ hf)
set_option maxHeartbeats 4000000 in
set_option maxRecDepth 100000 in
theorem c_X6_bar (l : Launch) (G : ZG) {N : Nat} {x1 : Int32} {x2 : Int32} {x3 : Int32} {σ σ' : ZS} {r : Int32} (hf : f_X6_bar N x1 x2 x3 σ = some (r, σ')) : zMet l G yX6_bar cX6_bar 9 (some .int) rm_X6_bar [.ref (G.1 1067), .int x1, .int x2, .int x3] σ (some (.int r)) σ' := by
  refine z_met (by decide +kernel) rfl (fun Y h hq => ?_)
  have h : zOk (l, rm_X6_bar, 9, 0, 0) Y G cX6_bar RX6 (some .int) := h
  rw [f_X6_bar] at hf
  refine z_sub (lv' := [(0, .ref (G.1 1067)), (1, .int x1), (2, .int x2), (3, .int x3)]) [0, 1, 2, 3] rfl ?_
  refine z_aload_n h dX6_bar_0 rfl 0 rfl ?_
  refine z_iload_n h dX6_bar_1 rfl 1 rfl ?_
  obtain ⟨v1, σ2, e2, hf⟩ := obd_out hf
  refine z_cVv h (n := 1) (c_X6_isNode l G e2) zC6 tg_1067 ln_1067 rfl rfl wd_175 wd_176 wd_177 wd_5 wd_178 (by decide +kernel) ⟨rfl, rfl⟩ rfl rfl rfl dX6_bar_2 ⟨Nat.zero_le _, Nat.zero_le _⟩ ?_
  refine z_if_eq h (tgt := 16) dX6_bar_5 (by decide) (fun g3 => ?_) (fun g3 => ?_)
  · have hf := it_pos g3 hf
    refine z_iconst h (v := (-1 : Int32)) dX6_bar_16 ic_m1 ?_
    exact z_iret h (rt_I hf hq) dX6_bar_17
  · have hf := it_neg g3 hf
    refine z_aload_n h dX6_bar_8 rfl 0 rfl ?_
    refine z_iload_n h dX6_bar_9 rfl 2 rfl ?_
    obtain ⟨v4, σ5, e5, hf⟩ := obd_out hf
    refine z_cVv h (n := 1) (c_X6_isNode l G e5) zC6 tg_1067 ln_1067 rfl rfl wd_175 wd_176 wd_177 wd_5 wd_178 (by decide +kernel) ⟨rfl, rfl⟩ rfl rfl rfl dX6_bar_10 ⟨Nat.zero_le _, Nat.zero_le _⟩ ?_
    refine z_if_ne h (tgt := 18) dX6_bar_13 (by decide) (fun g6 => ?_) (fun g6 => ?_)
    · have hf := it_neg g6 hf
      refine z_aload_n h dX6_bar_18 rfl 0 rfl ?_
      refine z_gfR h zC6 (d := 1068) (c := 1067) tg_1067 ln_1067 1 rfl ft_6_1 rf_1067_1 wd_88 dX6_bar_19 ?_
      refine z_iload_n h dX6_bar_22 rfl 2 rfl ?_
      obtain ⟨g7, hf⟩ := ck_out hf
      refine z_iald h (c := 1068) tg_1068 ln_1068 g7 dX6_bar_23 ?_
      refine z_aload_n h dX6_bar_24 rfl 0 rfl ?_
      refine z_gfR h zC6 (d := 1068) (c := 1067) tg_1067 ln_1067 1 rfl ft_6_1 rf_1067_1 wd_88 dX6_bar_25 ?_
      refine z_iload_n h dX6_bar_28 rfl 1 rfl ?_
      obtain ⟨g8, hf⟩ := ck_out hf
      refine z_iald h (c := 1068) tg_1068 ln_1068 g8 dX6_bar_29 ?_
      refine z_isub h dX6_bar_30 ?_
      refine z_topI (fun v9 ev9 => ?_)
      have hf := bd_to ev9 hf
      refine z_istore h dX6_bar_31 (lv' := [(4, .int v9), (0, .ref (G.1 1067)), (1, .int x1), (2, .int x2), (3, .int x3)]) rfl rfl ?_
      refine z_aload_n h dX6_bar_33 rfl 1 rfl ?_
      refine z_gfR h zC6 (d := 1069) (c := 1067) tg_1067 ln_1067 2 rfl ft_6_2 rf_1067_2 wd_89 dX6_bar_34 ?_
      refine z_iload_n h dX6_bar_37 rfl 3 rfl ?_
      obtain ⟨g10, hf⟩ := ck_out hf
      refine z_iald h (c := 1069) tg_1069 ln_1069 g10 dX6_bar_38 ?_
      refine z_aload_n h dX6_bar_39 rfl 1 rfl ?_
      refine z_gfR h zC6 (d := 1069) (c := 1067) tg_1067 ln_1067 2 rfl ft_6_2 rf_1067_2 wd_89 dX6_bar_40 ?_
      refine z_iload_n h dX6_bar_43 rfl 2 rfl ?_
      obtain ⟨g11, hf⟩ := ck_out hf
      refine z_iald h (c := 1069) tg_1069 ln_1069 g11 dX6_bar_44 ?_
      refine z_isub h dX6_bar_45 ?_
      refine z_topI (fun v12 ev12 => ?_)
      have hf := bd_to ev12 hf
      refine z_istore h dX6_bar_46 (lv' := [(5, .int v12), (4, .int v9), (0, .ref (G.1 1067)), (1, .int x1), (2, .int x2), (3, .int x3)]) rfl rfl ?_
      refine z_iload h dX6_bar_48 0 rfl ?_
      refine z_if_ne h (tgt := 67) dX6_bar_50 (by decide) (fun g13 => ?_) (fun g13 => ?_)
      · have hf := it_neg g13 hf
        exact z_sub [2, 3, 4, 5, 1, 0] rfl (k_X6_bar_b67 h hq N x1 x2 x3 v9 v12 _ hf)
      · have hf := it_pos g13 hf
        refine z_iload h dX6_bar_53 1 rfl ?_
        refine z_iconst h (v := (1 : Int32)) dX6_bar_55 ic_1 ?_
        refine z_iconst h (v := (4 : Int32)) dX6_bar_56 ic_4 ?_
        obtain ⟨v42, σ43, e43, hf⟩ := obd_out hf
        refine z_cSv h (n := 3) (c_X6_in l G e43) rfl wd_156 wd_157 wd_5 wd_158 (by decide +kernel) ⟨rfl, rfl⟩ rfl rfl rfl dX6_bar_57 ⟨Nat.zero_le _, Nat.zero_le _⟩ ?_
        refine z_if_eq h (tgt := 67) dX6_bar_60 (by decide) (fun g44 => ?_) (fun g44 => ?_)
        · have hf := it_pos g44 hf
          exact z_sub [2, 3, 4, 5, 1, 0] rfl (k_X6_bar_b67 h hq N x1 x2 x3 v9 v12 _ hf)
        · have hf := it_neg g44 hf
          refine z_iconst h (v := (1 : Int32)) dX6_bar_63 ic_1 ?_
          refine z_goto h (tgt := 68) dX6_bar_64 (by decide) ?_
          exact z_sub [2, 3, 4, 5, 1, 0] rfl (k_X6_bar_b68 h hq N x1 x2 x3 v9 v12 (1 : Int32) _ hf)
    · have hf := it_pos g6 hf
      refine z_iconst h (v := (-1 : Int32)) dX6_bar_16 ic_m1 ?_
      exact z_iret h (rt_I hf hq) dX6_bar_17
theorem dX6_lift_0 : decode cX6_lift 0 = .ok (.aload_n 0, 1) := by decide +kernel
theorem dX6_lift_1 : decode cX6_lift 1 = .ok (.iload_n 1, 1) := by decide +kernel
theorem dX6_lift_2 : decode cX6_lift 2 = .ok (.invokevirtual 151, 3) := by decide +kernel
theorem dX6_lift_5 : decode cX6_lift 5 = .ok (.ifCond .ne 5, 3) := by decide +kernel
theorem dX6_lift_8 : decode cX6_lift 8 = .ok (.iconst (-1), 1) := by decide +kernel
theorem dX6_lift_9 : decode cX6_lift 9 = .ok (.ireturn, 1) := by decide +kernel
theorem dX6_lift_10 : decode cX6_lift 10 = .ok (.aload_n 0, 1) := by decide +kernel
theorem dX6_lift_11 : decode cX6_lift 11 = .ok (.dup, 1) := by decide +kernel
theorem dX6_lift_12 : decode cX6_lift 12 = .ok (.getfield 141, 3) := by decide +kernel
theorem dX6_lift_15 : decode cX6_lift 15 = .ok (.iconst 1, 1) := by decide +kernel
theorem dX6_lift_16 : decode cX6_lift 16 = .ok (.isub, 1) := by decide +kernel
theorem dX6_lift_17 : decode cX6_lift 17 = .ok (.putfield 141, 3) := by decide +kernel
theorem dX6_lift_20 : decode cX6_lift 20 = .ok (.iload_n 1, 1) := by decide +kernel
theorem dX6_lift_21 : decode cX6_lift 21 = .ok (.istore_n 2, 1) := by decide +kernel
theorem dX6_lift_22 : decode cX6_lift 22 = .ok (.iload_n 2, 1) := by decide +kernel
theorem dX6_lift_23 : decode cX6_lift 23 = .ok (.aload_n 0, 1) := by decide +kernel
theorem dX6_lift_24 : decode cX6_lift 24 = .ok (.getfield 141, 3) := by decide +kernel
theorem dX6_lift_27 : decode cX6_lift 27 = .ok (.if_icmp .ge 51, 3) := by decide +kernel
theorem dX6_lift_30 : decode cX6_lift 30 = .ok (.aload_n 0, 1) := by decide +kernel
theorem dX6_lift_31 : decode cX6_lift 31 = .ok (.getfield 19, 3) := by decide +kernel
theorem dX6_lift_34 : decode cX6_lift 34 = .ok (.iload_n 2, 1) := by decide +kernel
theorem dX6_lift_35 : decode cX6_lift 35 = .ok (.aload_n 0, 1) := by decide +kernel
theorem dX6_lift_36 : decode cX6_lift 36 = .ok (.getfield 19, 3) := by decide +kernel
theorem dX6_lift_39 : decode cX6_lift 39 = .ok (.iload_n 2, 1) := by decide +kernel
theorem dX6_lift_40 : decode cX6_lift 40 = .ok (.iconst 1, 1) := by decide +kernel
theorem dX6_lift_41 : decode cX6_lift 41 = .ok (.iadd, 1) := by decide +kernel
theorem dX6_lift_42 : decode cX6_lift 42 = .ok (.iaload, 1) := by decide +kernel
theorem dX6_lift_43 : decode cX6_lift 43 = .ok (.iastore, 1) := by decide +kernel
theorem dX6_lift_44 : decode cX6_lift 44 = .ok (.aload_n 0, 1) := by decide +kernel
theorem dX6_lift_45 : decode cX6_lift 45 = .ok (.getfield 22, 3) := by decide +kernel
theorem dX6_lift_48 : decode cX6_lift 48 = .ok (.iload_n 2, 1) := by decide +kernel
theorem dX6_lift_49 : decode cX6_lift 49 = .ok (.aload_n 0, 1) := by decide +kernel
theorem dX6_lift_50 : decode cX6_lift 50 = .ok (.getfield 22, 3) := by decide +kernel
theorem dX6_lift_53 : decode cX6_lift 53 = .ok (.iload_n 2, 1) := by decide +kernel
theorem dX6_lift_54 : decode cX6_lift 54 = .ok (.iconst 1, 1) := by decide +kernel
theorem dX6_lift_55 : decode cX6_lift 55 = .ok (.iadd, 1) := by decide +kernel
theorem dX6_lift_56 : decode cX6_lift 56 = .ok (.iaload, 1) := by decide +kernel
theorem dX6_lift_57 : decode cX6_lift 57 = .ok (.iastore, 1) := by decide +kernel
theorem dX6_lift_58 : decode cX6_lift 58 = .ok (.aload_n 0, 1) := by decide +kernel
theorem dX6_lift_59 : decode cX6_lift 59 = .ok (.getfield 25, 3) := by decide +kernel
theorem dX6_lift_62 : decode cX6_lift 62 = .ok (.iload_n 2, 1) := by decide +kernel
theorem dX6_lift_63 : decode cX6_lift 63 = .ok (.aload_n 0, 1) := by decide +kernel
theorem dX6_lift_64 : decode cX6_lift 64 = .ok (.getfield 25, 3) := by decide +kernel
theorem dX6_lift_67 : decode cX6_lift 67 = .ok (.iload_n 2, 1) := by decide +kernel
theorem dX6_lift_68 : decode cX6_lift 68 = .ok (.iconst 1, 1) := by decide +kernel
theorem dX6_lift_69 : decode cX6_lift 69 = .ok (.iadd, 1) := by decide +kernel
theorem dX6_lift_70 : decode cX6_lift 70 = .ok (.iaload, 1) := by decide +kernel
theorem dX6_lift_71 : decode cX6_lift 71 = .ok (.iastore, 1) := by decide +kernel
theorem dX6_lift_72 : decode cX6_lift 72 = .ok (.iinc 2 1, 3) := by decide +kernel
theorem dX6_lift_75 : decode cX6_lift 75 = .ok (.goto (-53), 3) := by decide +kernel
theorem dX6_lift_78 : decode cX6_lift 78 = .ok (.aload_n 0, 1) := by decide +kernel
theorem dX6_lift_79 : decode cX6_lift 79 = .ok (.iconst 1, 1) := by decide +kernel
theorem dX6_lift_80 : decode cX6_lift 80 = .ok (.putfield 31, 3) := by decide +kernel
theorem dX6_lift_83 : decode cX6_lift 83 = .ok (.aload_n 0, 1) := by decide +kernel
theorem dX6_lift_84 : decode cX6_lift 84 = .ok (.invokevirtual 144, 3) := by decide +kernel
theorem dX6_lift_87 : decode cX6_lift 87 = .ok (.aload_n 0, 1) := by decide +kernel
theorem dX6_lift_88 : decode cX6_lift 88 = .ok (.getfield 141, 3) := by decide +kernel
theorem dX6_lift_91 : decode cX6_lift 91 = .ok (.ireturn, 1) := by decide +kernel
abbrev rm_X6_lift : Room := { frames := 2, cells := 0, slots := 0, locals := 59 }
noncomputable def f_X6_lift_h22 (N : Nat) : Nat → Int32 → ZS → Option (Int32 × ZS)
  | 0, _, _ => none
  | n + 1, x2, σ => (if (gI σ 1067 4) ≤ x2 then bd (sI σ 1067 9 (1 : Int32)) fun σ7 => obd (f_X6_forget N σ7) fun _ σ9 => some (gI σ9 1067 4, σ9) else ck (inb (x2 + (1 : Int32)) 6) (bd (gI σ 1071 ((x2 + (1 : Int32)).toNatClampNeg)) fun v11 => ck (inb x2 6) (bd (sI σ 1071 (x2.toNatClampNeg) v11) fun σ13 => ck (inb (x2 + (1 : Int32)) 6) (bd (gI σ13 1072 ((x2 + (1 : Int32)).toNatClampNeg)) fun v15 => ck (inb x2 6) (bd (sI σ13 1072 (x2.toNatClampNeg) v15) fun σ17 => ck (inb (x2 + (1 : Int32)) 6) (bd (gI σ17 1073 ((x2 + (1 : Int32)).toNatClampNeg)) fun v19 => ck (inb x2 6) (bd (sI σ17 1073 (x2.toNatClampNeg) v19) fun σ21 => bd (x2 + (1 : Int32)) fun v22 => f_X6_lift_h22 N n v22 σ21)))))))
noncomputable def f_X6_lift (N : Nat) (x1 : Int32) (σ : ZS) : Option (Int32 × ZS) := obd (f_X6_isBar N x1 σ) fun v1 σ2 => (if v1 = 0 then some ((-1 : Int32), σ2) else bd ((gI σ2 1067 4) - (1 : Int32)) fun v4 => bd (sI σ2 1067 4 v4) fun σ5 => f_X6_lift_h22 N N x1 σ5)
set_option maxHeartbeats 4000000 in
set_option maxRecDepth 100000 in
theorem k_X6_lift_h22 {l : Launch} {Y : ZY} {G : ZG} {r : Int32} {σ' : ZS} (h : zOk (l, rm_X6_lift, 3, 0, 0) Y G cX6_lift RX6 (some .int)) (hq : zRet (l, rm_X6_lift, 3, 0, 0) Y G (some (.int r)) σ') (N : Nat) : ∀ (n : Nat) (x2 : Int32) (σ : ZS), f_X6_lift_h22 N n x2 σ = some (r, σ') → Z (l, rm_X6_lift, 3, 0, 0) Y G σ [(0, .ref (G.1 1067)), (2, .int x2)] [] 22 := by
  intro n
  induction n with
  | zero =>
    intro x2 σ hf
    rw [f_X6_lift_h22] at hf
    cases hf
  | succ n ih =>
    intro x2 σ hf
    rw [f_X6_lift_h22] at hf
    refine z_iload_n h dX6_lift_22 rfl 1 rfl ?_
    refine z_aload_n h dX6_lift_23 rfl 0 rfl ?_
    refine z_gfI h zC6 (c := 1067) tg_1067 ln_1067 4 rfl ft_6_4 wd_200 dX6_lift_24 ?_
    refine z_icmp_ge h (tgt := 78) dX6_lift_27 (by decide) (fun g6 => ?_) (fun g6 => ?_)
    · have hf := it_pos g6 hf
      refine z_aload_n h dX6_lift_78 rfl 0 rfl ?_
      refine z_iconst h (v := (1 : Int32)) dX6_lift_79 ic_1 ?_
      refine z_pfI h zC6 (c := 1067) tg_1067 ln_1067 9 rfl ft_6_9 wd_95 rfl (ty := .boolean) (by decide +kernel) rfl rfl dX6_lift_80 ?_
      refine z_gen (fun σ7 eσ7 => ?_)
      have hf := bd_to eσ7 hf
      refine z_aload_n h dX6_lift_83 rfl 0 rfl ?_
      obtain ⟨v8, σ9, e9, hf⟩ := obd_out hf
      refine z_cV0 h (n := 0) (c_X6_forget l G e9) zC6 tg_1067 ln_1067 rfl rfl wd_159 wd_160 wd_161 wd_5 wd_162 (by decide +kernel) ⟨rfl, rfl⟩ rfl rfl rfl dX6_lift_84 ⟨Nat.zero_le _, Nat.zero_le _⟩ ?_
      refine z_aload_n h dX6_lift_87 rfl 0 rfl ?_
      refine z_gfI h zC6 (c := 1067) tg_1067 ln_1067 4 rfl ft_6_4 wd_200 dX6_lift_88 ?_
      exact z_iret h (rt_I hf hq) dX6_lift_91
    · have hf := it_neg g6 hf
      refine z_aload_n h dX6_lift_30 rfl 0 rfl ?_
      refine z_gfR h zC6 (d := 1071) (c := 1067) tg_1067 ln_1067 5 rfl ft_6_5 rf_1067_5 wd_91 dX6_lift_31 ?_
      refine z_iload_n h dX6_lift_34 rfl 1 rfl ?_
      refine z_aload_n h dX6_lift_35 rfl 0 rfl ?_
      refine z_gfR h zC6 (d := 1071) (c := 1067) tg_1067 ln_1067 5 rfl ft_6_5 rf_1067_5 wd_91 dX6_lift_36 ?_
      refine z_iload_n h dX6_lift_39 rfl 1 rfl ?_
      refine z_iconst h (v := (1 : Int32)) dX6_lift_40 ic_1 ?_
      refine z_iadd h dX6_lift_41 ?_
      obtain ⟨g10, hf⟩ := ck_out hf
      refine z_iald h (c := 1071) tg_1071 ln_1071 g10 dX6_lift_42 ?_
      refine z_topI (fun v11 ev11 => ?_)
      have hf := bd_to ev11 hf
      obtain ⟨g12, hf⟩ := ck_out hf
      refine z_iast h (c := 1071) tg_1071 ln_1071 g12 dX6_lift_43 ?_
      refine z_gen (fun σ13 eσ13 => ?_)
      have hf := bd_to eσ13 hf
      refine z_aload_n h dX6_lift_44 rfl 0 rfl ?_
      refine z_gfR h zC6 (d := 1072) (c := 1067) tg_1067 ln_1067 6 rfl ft_6_6 rf_1067_6 wd_92 dX6_lift_45 ?_
      refine z_iload_n h dX6_lift_48 rfl 1 rfl ?_
      refine z_aload_n h dX6_lift_49 rfl 0 rfl ?_
      refine z_gfR h zC6 (d := 1072) (c := 1067) tg_1067 ln_1067 6 rfl ft_6_6 rf_1067_6 wd_92 dX6_lift_50 ?_
      refine z_iload_n h dX6_lift_53 rfl 1 rfl ?_
      refine z_iconst h (v := (1 : Int32)) dX6_lift_54 ic_1 ?_
      refine z_iadd h dX6_lift_55 ?_
      obtain ⟨g14, hf⟩ := ck_out hf
      refine z_iald h (c := 1072) tg_1072 ln_1072 g14 dX6_lift_56 ?_
      refine z_topI (fun v15 ev15 => ?_)
      have hf := bd_to ev15 hf
      obtain ⟨g16, hf⟩ := ck_out hf
      refine z_iast h (c := 1072) tg_1072 ln_1072 g16 dX6_lift_57 ?_
      refine z_gen (fun σ17 eσ17 => ?_)
      have hf := bd_to eσ17 hf
      refine z_aload_n h dX6_lift_58 rfl 0 rfl ?_
      refine z_gfR h zC6 (d := 1073) (c := 1067) tg_1067 ln_1067 7 rfl ft_6_7 rf_1067_7 wd_93 dX6_lift_59 ?_
      refine z_iload_n h dX6_lift_62 rfl 1 rfl ?_
      refine z_aload_n h dX6_lift_63 rfl 0 rfl ?_
      refine z_gfR h zC6 (d := 1073) (c := 1067) tg_1067 ln_1067 7 rfl ft_6_7 rf_1067_7 wd_93 dX6_lift_64 ?_
      refine z_iload_n h dX6_lift_67 rfl 1 rfl ?_
      refine z_iconst h (v := (1 : Int32)) dX6_lift_68 ic_1 ?_
      refine z_iadd h dX6_lift_69 ?_
      obtain ⟨g18, hf⟩ := ck_out hf
      refine z_iald h (c := 1073) tg_1073 ln_1073 g18 dX6_lift_70 ?_
      refine z_topI (fun v19 ev19 => ?_)
      have hf := bd_to ev19 hf
      obtain ⟨g20, hf⟩ := ck_out hf
      refine z_iast h (c := 1073) tg_1073 ln_1073 g20 dX6_lift_71 ?_
      refine z_gen (fun σ21 eσ21 => ?_)
      have hf := bd_to eσ21 hf
      obtain ⟨v22, ev22, hf⟩ := bd_ex hf
      refine z_iinc h (v := v22) (lv' := [(2, .int v22), (0, .ref (G.1 1067))]) dX6_lift_72 1 rfl (by rw [ev22]; rfl) rfl rfl ?_
      refine z_goto h (tgt := 22) dX6_lift_75 (by decide) ?_
      exact z_sub [1, 0] rfl (ih _ _ hf)
set_option maxHeartbeats 4000000 in
set_option maxRecDepth 100000 in
theorem c_X6_lift (l : Launch) (G : ZG) {N : Nat} {x1 : Int32} {σ σ' : ZS} {r : Int32} (hf : f_X6_lift N x1 σ = some (r, σ')) : zMet l G yX6_lift cX6_lift 3 (some .int) rm_X6_lift [.ref (G.1 1067), .int x1] σ (some (.int r)) σ' := by
  refine z_met (by decide +kernel) rfl (fun Y h hq => ?_)
  have h : zOk (l, rm_X6_lift, 3, 0, 0) Y G cX6_lift RX6 (some .int) := h
  rw [f_X6_lift] at hf
  refine z_sub (lv' := [(0, .ref (G.1 1067)), (1, .int x1)]) [0, 1] rfl ?_
  refine z_aload_n h dX6_lift_0 rfl 0 rfl ?_
  refine z_iload_n h dX6_lift_1 rfl 1 rfl ?_
  obtain ⟨v1, σ2, e2, hf⟩ := obd_out hf
  refine z_cVv h (n := 1) (c_X6_isBar l G e2) zC6 tg_1067 ln_1067 rfl rfl wd_217 wd_218 wd_219 wd_5 wd_220 (by decide +kernel) ⟨rfl, rfl⟩ rfl rfl rfl dX6_lift_2 ⟨Nat.zero_le _, Nat.zero_le _⟩ ?_
  refine z_if_ne h (tgt := 10) dX6_lift_5 (by decide) (fun g3 => ?_) (fun g3 => ?_)
  · have hf := it_neg g3 hf
    refine z_aload_n h dX6_lift_10 rfl 0 rfl ?_
    refine z_dup h dX6_lift_11 rfl ?_
    refine z_gfI h zC6 (c := 1067) tg_1067 ln_1067 4 rfl ft_6_4 wd_200 dX6_lift_12 ?_
    refine z_iconst h (v := (1 : Int32)) dX6_lift_15 ic_1 ?_
    refine z_isub h dX6_lift_16 ?_
    refine z_topI (fun v4 ev4 => ?_)
    have hf := bd_to ev4 hf
    refine z_pfI h zC6 (c := 1067) tg_1067 ln_1067 4 rfl ft_6_4 wd_200 rfl (ty := .int) (by decide +kernel) rfl rfl dX6_lift_17 ?_
    refine z_gen (fun σ5 eσ5 => ?_)
    have hf := bd_to eσ5 hf
    refine z_iload_n h dX6_lift_20 rfl 1 rfl ?_
    refine z_istore_n h dX6_lift_21 rfl (lv' := [(2, .int x1), (0, .ref (G.1 1067)), (1, .int x1)]) rfl rfl ?_
    exact z_sub [1, 0] rfl (k_X6_lift_h22 h hq N _ _ _ hf)
  · have hf := it_pos g3 hf
    refine z_iconst h (v := (-1 : Int32)) dX6_lift_8 ic_m1 ?_
    exact z_iret h (rt_I hf hq) dX6_lift_9
theorem dX6_strengthen_0 : decode cX6_strengthen 0 = .ok (.aload_n 0, 1) := by decide +kernel
theorem dX6_strengthen_1 : decode cX6_strengthen 1 = .ok (.iload_n 1, 1) := by decide +kernel
theorem dX6_strengthen_2 : decode cX6_strengthen 2 = .ok (.invokevirtual 151, 3) := by decide +kernel
theorem dX6_strengthen_5 : decode cX6_strengthen 5 = .ok (.ifCond .ne 5, 3) := by decide +kernel
theorem dX6_strengthen_8 : decode cX6_strengthen 8 = .ok (.iconst (-1), 1) := by decide +kernel
theorem dX6_strengthen_9 : decode cX6_strengthen 9 = .ok (.ireturn, 1) := by decide +kernel
theorem dX6_strengthen_10 : decode cX6_strengthen 10 = .ok (.iload_n 2, 1) := by decide +kernel
theorem dX6_strengthen_11 : decode cX6_strengthen 11 = .ok (.iconst 1, 1) := by decide +kernel
theorem dX6_strengthen_12 : decode cX6_strengthen 12 = .ok (.bipush 12, 2) := by decide +kernel
theorem dX6_strengthen_14 : decode cX6_strengthen 14 = .ok (.invokestatic 137, 3) := by decide +kernel
theorem dX6_strengthen_17 : decode cX6_strengthen 17 = .ok (.ifCond .ne 6, 3) := by decide +kernel
theorem dX6_strengthen_20 : decode cX6_strengthen 20 = .ok (.bipush (-2), 2) := by decide +kernel
theorem dX6_strengthen_22 : decode cX6_strengthen 22 = .ok (.ireturn, 1) := by decide +kernel
theorem dX6_strengthen_23 : decode cX6_strengthen 23 = .ok (.aload_n 0, 1) := by decide +kernel
theorem dX6_strengthen_24 : decode cX6_strengthen 24 = .ok (.getfield 25, 3) := by decide +kernel
theorem dX6_strengthen_27 : decode cX6_strengthen 27 = .ok (.iload_n 1, 1) := by decide +kernel
theorem dX6_strengthen_28 : decode cX6_strengthen 28 = .ok (.iaload, 1) := by decide +kernel
theorem dX6_strengthen_29 : decode cX6_strengthen 29 = .ok (.istore_n 3, 1) := by decide +kernel
theorem dX6_strengthen_30 : decode cX6_strengthen 30 = .ok (.aload_n 0, 1) := by decide +kernel
theorem dX6_strengthen_31 : decode cX6_strengthen 31 = .ok (.getfield 25, 3) := by decide +kernel
theorem dX6_strengthen_34 : decode cX6_strengthen 34 = .ok (.iload_n 1, 1) := by decide +kernel
theorem dX6_strengthen_35 : decode cX6_strengthen 35 = .ok (.iload_n 2, 1) := by decide +kernel
theorem dX6_strengthen_36 : decode cX6_strengthen 36 = .ok (.iastore, 1) := by decide +kernel
theorem dX6_strengthen_37 : decode cX6_strengthen 37 = .ok (.aload_n 0, 1) := by decide +kernel
theorem dX6_strengthen_38 : decode cX6_strengthen 38 = .ok (.invokevirtual 144, 3) := by decide +kernel
theorem dX6_strengthen_41 : decode cX6_strengthen 41 = .ok (.iload_n 3, 1) := by decide +kernel
theorem dX6_strengthen_42 : decode cX6_strengthen 42 = .ok (.ireturn, 1) := by decide +kernel
abbrev rm_X6_strengthen : Room := { frames := 2, cells := 0, slots := 0, locals := 59 }
noncomputable def f_X6_strengthen (N : Nat) (x1 : Int32) (x2 : Int32) (σ : ZS) : Option (Int32 × ZS) := obd (f_X6_isBar N x1 σ) fun v1 σ2 => (if v1 = 0 then some ((-1 : Int32), σ2) else obd (f_X6_in N x2 (1 : Int32) (12 : Int32) σ2) fun v4 σ5 => (if v4 = 0 then some ((-2 : Int32), σ5) else ck (inb x1 6) (bd (gI σ5 1073 (x1.toNatClampNeg)) fun v8 => ck (inb x1 6) (bd (sI σ5 1073 (x1.toNatClampNeg) x2) fun σ10 => obd (f_X6_forget N σ10) fun _ σ12 => some (v8, σ12)))))
set_option maxHeartbeats 4000000 in
set_option maxRecDepth 100000 in
theorem c_X6_strengthen (l : Launch) (G : ZG) {N : Nat} {x1 : Int32} {x2 : Int32} {σ σ' : ZS} {r : Int32} (hf : f_X6_strengthen N x1 x2 σ = some (r, σ')) : zMet l G yX6_strengthen cX6_strengthen 4 (some .int) rm_X6_strengthen [.ref (G.1 1067), .int x1, .int x2] σ (some (.int r)) σ' := by
  refine z_met (by decide +kernel) rfl (fun Y h hq => ?_)
  have h : zOk (l, rm_X6_strengthen, 4, 0, 0) Y G cX6_strengthen RX6 (some .int) := h
  rw [f_X6_strengthen] at hf
  refine z_sub (lv' := [(0, .ref (G.1 1067)), (1, .int x1), (2, .int x2)]) [0, 1, 2] rfl ?_
  refine z_aload_n h dX6_strengthen_0 rfl 0 rfl ?_
  refine z_iload_n h dX6_strengthen_1 rfl 1 rfl ?_
  obtain ⟨v1, σ2, e2, hf⟩ := obd_out hf
  refine z_cVv h (n := 1) (c_X6_isBar l G e2) zC6 tg_1067 ln_1067 rfl rfl wd_217 wd_218 wd_219 wd_5 wd_220 (by decide +kernel) ⟨rfl, rfl⟩ rfl rfl rfl dX6_strengthen_2 ⟨Nat.zero_le _, Nat.zero_le _⟩ ?_
  refine z_if_ne h (tgt := 10) dX6_strengthen_5 (by decide) (fun g3 => ?_) (fun g3 => ?_)
  · have hf := it_neg g3 hf
    refine z_iload_n h dX6_strengthen_10 rfl 2 rfl ?_
    refine z_iconst h (v := (1 : Int32)) dX6_strengthen_11 ic_1 ?_
    refine z_bipush h (v := (12 : Int32)) dX6_strengthen_12 bp_12 ?_
    obtain ⟨v4, σ5, e5, hf⟩ := obd_out hf
    refine z_cSv h (n := 3) (c_X6_in l G e5) rfl wd_156 wd_157 wd_5 wd_158 (by decide +kernel) ⟨rfl, rfl⟩ rfl rfl rfl dX6_strengthen_14 ⟨Nat.zero_le _, Nat.zero_le _⟩ ?_
    refine z_if_ne h (tgt := 23) dX6_strengthen_17 (by decide) (fun g6 => ?_) (fun g6 => ?_)
    · have hf := it_neg g6 hf
      refine z_aload_n h dX6_strengthen_23 rfl 0 rfl ?_
      refine z_gfR h zC6 (d := 1073) (c := 1067) tg_1067 ln_1067 7 rfl ft_6_7 rf_1067_7 wd_93 dX6_strengthen_24 ?_
      refine z_iload_n h dX6_strengthen_27 rfl 1 rfl ?_
      obtain ⟨g7, hf⟩ := ck_out hf
      refine z_iald h (c := 1073) tg_1073 ln_1073 g7 dX6_strengthen_28 ?_
      refine z_topI (fun v8 ev8 => ?_)
      have hf := bd_to ev8 hf
      refine z_istore_n h dX6_strengthen_29 rfl (lv' := [(3, .int v8), (0, .ref (G.1 1067)), (1, .int x1), (2, .int x2)]) rfl rfl ?_
      refine z_aload_n h dX6_strengthen_30 rfl 1 rfl ?_
      refine z_gfR h zC6 (d := 1073) (c := 1067) tg_1067 ln_1067 7 rfl ft_6_7 rf_1067_7 wd_93 dX6_strengthen_31 ?_
      refine z_iload_n h dX6_strengthen_34 rfl 2 rfl ?_
      refine z_iload_n h dX6_strengthen_35 rfl 3 rfl ?_
      obtain ⟨g9, hf⟩ := ck_out hf
      refine z_iast h (c := 1073) tg_1073 ln_1073 g9 dX6_strengthen_36 ?_
      refine z_gen (fun σ10 eσ10 => ?_)
      have hf := bd_to eσ10 hf
      refine z_aload_n h dX6_strengthen_37 rfl 1 rfl ?_
      obtain ⟨v11, σ12, e12, hf⟩ := obd_out hf
      refine z_cV0 h (n := 0) (c_X6_forget l G e12) zC6 tg_1067 ln_1067 rfl rfl wd_159 wd_160 wd_161 wd_5 wd_162 (by decide +kernel) ⟨rfl, rfl⟩ rfl rfl rfl dX6_strengthen_38 ⟨Nat.zero_le _, Nat.zero_le _⟩ ?_
      refine z_iload_n h dX6_strengthen_41 rfl 0 rfl ?_
      exact z_iret h (rt_I hf hq) dX6_strengthen_42
    · have hf := it_pos g6 hf
      refine z_bipush h (v := (-2 : Int32)) dX6_strengthen_20 bp_m2 ?_
      exact z_iret h (rt_I hf hq) dX6_strengthen_22
  · have hf := it_pos g3 hf
    refine z_iconst h (v := (-1 : Int32)) dX6_strengthen_8 ic_m1 ?_
    exact z_iret h (rt_I hf hq) dX6_strengthen_9
theorem dX6_load_0 : decode cX6_load 0 = .ok (.aload_n 0, 1) := by decide +kernel
theorem dX6_load_1 : decode cX6_load 1 = .ok (.iload_n 2, 1) := by decide +kernel
theorem dX6_load_2 : decode cX6_load 2 = .ok (.invokevirtual 147, 3) := by decide +kernel
theorem dX6_load_5 : decode cX6_load 5 = .ok (.ifCond .ne 5, 3) := by decide +kernel
theorem dX6_load_8 : decode cX6_load 8 = .ok (.iconst (-1), 1) := by decide +kernel
theorem dX6_load_9 : decode cX6_load 9 = .ok (.ireturn, 1) := by decide +kernel
theorem dX6_load_10 : decode cX6_load 10 = .ok (.iload_n 1, 1) := by decide +kernel
theorem dX6_load_11 : decode cX6_load 11 = .ok (.iconst 0, 1) := by decide +kernel
theorem dX6_load_12 : decode cX6_load 12 = .ok (.iconst 2, 1) := by decide +kernel
theorem dX6_load_13 : decode cX6_load 13 = .ok (.invokestatic 137, 3) := by decide +kernel
theorem dX6_load_16 : decode cX6_load 16 = .ok (.ifCond .eq 24, 3) := by decide +kernel
theorem dX6_load_19 : decode cX6_load 19 = .ok (.iload_n 3, 1) := by decide +kernel
theorem dX6_load_20 : decode cX6_load 20 = .ok (.bipush (-5), 2) := by decide +kernel
theorem dX6_load_22 : decode cX6_load 22 = .ok (.iconst 5, 1) := by decide +kernel
theorem dX6_load_23 : decode cX6_load 23 = .ok (.invokestatic 137, 3) := by decide +kernel
theorem dX6_load_26 : decode cX6_load 26 = .ok (.ifCond .eq 14, 3) := by decide +kernel
theorem dX6_load_29 : decode cX6_load 29 = .ok (.iload 4, 2) := by decide +kernel
theorem dX6_load_31 : decode cX6_load 31 = .ok (.bipush (-5), 2) := by decide +kernel
theorem dX6_load_33 : decode cX6_load 33 = .ok (.iconst 5, 1) := by decide +kernel
theorem dX6_load_34 : decode cX6_load 34 = .ok (.invokestatic 137, 3) := by decide +kernel
theorem dX6_load_37 : decode cX6_load 37 = .ok (.ifCond .ne 6, 3) := by decide +kernel
theorem dX6_load_40 : decode cX6_load 40 = .ok (.bipush (-2), 2) := by decide +kernel
theorem dX6_load_42 : decode cX6_load 42 = .ok (.ireturn, 1) := by decide +kernel
theorem dX6_load_43 : decode cX6_load 43 = .ok (.aload_n 0, 1) := by decide +kernel
theorem dX6_load_44 : decode cX6_load 44 = .ok (.getfield 28, 3) := by decide +kernel
theorem dX6_load_47 : decode cX6_load 47 = .ok (.bipush 14, 2) := by decide +kernel
theorem dX6_load_49 : decode cX6_load 49 = .ok (.iload_n 1, 1) := by decide +kernel
theorem dX6_load_50 : decode cX6_load 50 = .ok (.imul, 1) := by decide +kernel
theorem dX6_load_51 : decode cX6_load 51 = .ok (.iconst 2, 1) := by decide +kernel
theorem dX6_load_52 : decode cX6_load 52 = .ok (.iload_n 2, 1) := by decide +kernel
theorem dX6_load_53 : decode cX6_load 53 = .ok (.imul, 1) := by decide +kernel
theorem dX6_load_54 : decode cX6_load 54 = .ok (.iadd, 1) := by decide +kernel
theorem dX6_load_55 : decode cX6_load 55 = .ok (.iload_n 3, 1) := by decide +kernel
theorem dX6_load_56 : decode cX6_load 56 = .ok (.iastore, 1) := by decide +kernel
theorem dX6_load_57 : decode cX6_load 57 = .ok (.aload_n 0, 1) := by decide +kernel
theorem dX6_load_58 : decode cX6_load 58 = .ok (.getfield 28, 3) := by decide +kernel
theorem dX6_load_61 : decode cX6_load 61 = .ok (.bipush 14, 2) := by decide +kernel
theorem dX6_load_63 : decode cX6_load 63 = .ok (.iload_n 1, 1) := by decide +kernel
theorem dX6_load_64 : decode cX6_load 64 = .ok (.imul, 1) := by decide +kernel
theorem dX6_load_65 : decode cX6_load 65 = .ok (.iconst 2, 1) := by decide +kernel
theorem dX6_load_66 : decode cX6_load 66 = .ok (.iload_n 2, 1) := by decide +kernel
theorem dX6_load_67 : decode cX6_load 67 = .ok (.imul, 1) := by decide +kernel
theorem dX6_load_68 : decode cX6_load 68 = .ok (.iadd, 1) := by decide +kernel
theorem dX6_load_69 : decode cX6_load 69 = .ok (.iconst 1, 1) := by decide +kernel
theorem dX6_load_70 : decode cX6_load 70 = .ok (.iadd, 1) := by decide +kernel
theorem dX6_load_71 : decode cX6_load 71 = .ok (.iload 4, 2) := by decide +kernel
theorem dX6_load_73 : decode cX6_load 73 = .ok (.iastore, 1) := by decide +kernel
theorem dX6_load_74 : decode cX6_load 74 = .ok (.aload_n 0, 1) := by decide +kernel
theorem dX6_load_75 : decode cX6_load 75 = .ok (.invokevirtual 144, 3) := by decide +kernel
theorem dX6_load_78 : decode cX6_load 78 = .ok (.iconst 0, 1) := by decide +kernel
theorem dX6_load_79 : decode cX6_load 79 = .ok (.istore 5, 2) := by decide +kernel
theorem dX6_load_81 : decode cX6_load 81 = .ok (.iconst 0, 1) := by decide +kernel
theorem dX6_load_82 : decode cX6_load 82 = .ok (.istore 6, 2) := by decide +kernel
theorem dX6_load_84 : decode cX6_load 84 = .ok (.iload 6, 2) := by decide +kernel
theorem dX6_load_86 : decode cX6_load 86 = .ok (.aload_n 0, 1) := by decide +kernel
theorem dX6_load_87 : decode cX6_load 87 = .ok (.getfield 134, 3) := by decide +kernel
theorem dX6_load_90 : decode cX6_load 90 = .ok (.if_icmp .ge 55, 3) := by decide +kernel
theorem dX6_load_93 : decode cX6_load 93 = .ok (.iload 5, 2) := by decide +kernel
theorem dX6_load_95 : decode cX6_load 95 = .ok (.aload_n 0, 1) := by decide +kernel
theorem dX6_load_96 : decode cX6_load 96 = .ok (.getfield 28, 3) := by decide +kernel
theorem dX6_load_99 : decode cX6_load 99 = .ok (.bipush 14, 2) := by decide +kernel
theorem dX6_load_101 : decode cX6_load 101 = .ok (.iload_n 1, 1) := by decide +kernel
theorem dX6_load_102 : decode cX6_load 102 = .ok (.imul, 1) := by decide +kernel
theorem dX6_load_103 : decode cX6_load 103 = .ok (.iconst 2, 1) := by decide +kernel
theorem dX6_load_104 : decode cX6_load 104 = .ok (.iload 6, 2) := by decide +kernel
theorem dX6_load_106 : decode cX6_load 106 = .ok (.imul, 1) := by decide +kernel
theorem dX6_load_107 : decode cX6_load 107 = .ok (.iadd, 1) := by decide +kernel
theorem dX6_load_108 : decode cX6_load 108 = .ok (.iaload, 1) := by decide +kernel
theorem dX6_load_109 : decode cX6_load 109 = .ok (.ifCond .ne 22, 3) := by decide +kernel
theorem dX6_load_112 : decode cX6_load 112 = .ok (.aload_n 0, 1) := by decide +kernel
theorem dX6_load_113 : decode cX6_load 113 = .ok (.getfield 28, 3) := by decide +kernel
theorem dX6_load_116 : decode cX6_load 116 = .ok (.bipush 14, 2) := by decide +kernel
theorem dX6_load_118 : decode cX6_load 118 = .ok (.iload_n 1, 1) := by decide +kernel
theorem dX6_load_119 : decode cX6_load 119 = .ok (.imul, 1) := by decide +kernel
theorem dX6_load_120 : decode cX6_load 120 = .ok (.iconst 2, 1) := by decide +kernel
theorem dX6_load_121 : decode cX6_load 121 = .ok (.iload 6, 2) := by decide +kernel
theorem dX6_load_123 : decode cX6_load 123 = .ok (.imul, 1) := by decide +kernel
theorem dX6_load_124 : decode cX6_load 124 = .ok (.iadd, 1) := by decide +kernel
theorem dX6_load_125 : decode cX6_load 125 = .ok (.iconst 1, 1) := by decide +kernel
theorem dX6_load_126 : decode cX6_load 126 = .ok (.iadd, 1) := by decide +kernel
theorem dX6_load_127 : decode cX6_load 127 = .ok (.iaload, 1) := by decide +kernel
theorem dX6_load_128 : decode cX6_load 128 = .ok (.ifCond .eq 7, 3) := by decide +kernel
theorem dX6_load_131 : decode cX6_load 131 = .ok (.iconst 1, 1) := by decide +kernel
theorem dX6_load_132 : decode cX6_load 132 = .ok (.goto 4, 3) := by decide +kernel
theorem dX6_load_135 : decode cX6_load 135 = .ok (.iconst 0, 1) := by decide +kernel
theorem dX6_load_136 : decode cX6_load 136 = .ok (.iadd, 1) := by decide +kernel
theorem dX6_load_137 : decode cX6_load 137 = .ok (.istore 5, 2) := by decide +kernel
theorem dX6_load_139 : decode cX6_load 139 = .ok (.iinc 6 1, 3) := by decide +kernel
theorem dX6_load_142 : decode cX6_load 142 = .ok (.goto (-58), 3) := by decide +kernel
theorem dX6_load_145 : decode cX6_load 145 = .ok (.iload 5, 2) := by decide +kernel
theorem dX6_load_147 : decode cX6_load 147 = .ok (.ireturn, 1) := by decide +kernel
abbrev rm_X6_load : Room := { frames := 2, cells := 0, slots := 0, locals := 59 }
noncomputable def f_X6_load_b136 (N : Nat) (kb84 : Int32 → Int32 → ZS → Option (Int32 × ZS)) (x1 : Int32) (x6 : Int32) (s0 : Int32) (s1 : Int32) (σ : ZS) : Option (Int32 × ZS) := bd (s0 + s1) fun v22 => bd (x6 + (1 : Int32)) fun v23 => kb84 v22 v23 σ
noncomputable def f_X6_load_b131 (N : Nat) (kb84 : Int32 → Int32 → ZS → Option (Int32 × ZS)) (x1 : Int32) (x6 : Int32) (s0 : Int32) (σ : ZS) : Option (Int32 × ZS) := f_X6_load_b136 N kb84 x1 x6 s0 (1 : Int32) σ
noncomputable def f_X6_load_h84 (N : Nat) (x1 : Int32) : Nat → Int32 → Int32 → ZS → Option (Int32 × ZS)
  | 0, _, _, _ => none
  | n + 1, x5, x6, σ => (if (gI σ 1067 0) ≤ x6 then some (x5, σ) else ck (inb (((14 : Int32) * x1) + ((2 : Int32) * x6)) 42) ((if (gI σ 1074 ((((14 : Int32) * x1) + ((2 : Int32) * x6)).toNatClampNeg)) = 0 then ck (inb ((((14 : Int32) * x1) + ((2 : Int32) * x6)) + (1 : Int32)) 42) ((if (gI σ 1074 (((((14 : Int32) * x1) + ((2 : Int32) * x6)) + (1 : Int32)).toNatClampNeg)) = 0 then f_X6_load_b136 N (fun x5_ x6_ σ_ => f_X6_load_h84 N x1 n x5_ x6_ σ_) x1 x6 x5 (0 : Int32) σ else f_X6_load_b131 N (fun x5_ x6_ σ_ => f_X6_load_h84 N x1 n x5_ x6_ σ_) x1 x6 x5 σ)) else f_X6_load_b131 N (fun x5_ x6_ σ_ => f_X6_load_h84 N x1 n x5_ x6_ σ_) x1 x6 x5 σ)))
noncomputable def f_X6_load (N : Nat) (x1 : Int32) (x2 : Int32) (x3 : Int32) (x4 : Int32) (σ : ZS) : Option (Int32 × ZS) := obd (f_X6_isNode N x2 σ) fun v1 σ2 => (if v1 = 0 then some ((-1 : Int32), σ2) else obd (f_X6_in N x1 (0 : Int32) (2 : Int32) σ2) fun v4 σ5 => (if v4 = 0 then some ((-2 : Int32), σ5) else obd (f_X6_in N x3 (-5 : Int32) (5 : Int32) σ5) fun v7 σ8 => (if v7 = 0 then some ((-2 : Int32), σ8) else obd (f_X6_in N x4 (-5 : Int32) (5 : Int32) σ8) fun v10 σ11 => (if v10 = 0 then some ((-2 : Int32), σ11) else ck (inb (((14 : Int32) * x1) + ((2 : Int32) * x2)) 42) (bd (sI σ11 1074 ((((14 : Int32) * x1) + ((2 : Int32) * x2)).toNatClampNeg) x3) fun σ14 => ck (inb ((((14 : Int32) * x1) + ((2 : Int32) * x2)) + (1 : Int32)) 42) (bd (sI σ14 1074 (((((14 : Int32) * x1) + ((2 : Int32) * x2)) + (1 : Int32)).toNatClampNeg) x4) fun σ16 => obd (f_X6_forget N σ16) fun _ σ18 => f_X6_load_h84 N x1 N (0 : Int32) (0 : Int32) σ18))))))
set_option maxHeartbeats 4000000 in
set_option maxRecDepth 100000 in
theorem k_X6_load_b136 {l : Launch} {Y : ZY} {G : ZG} {r : Int32} {σ' : ZS} (h : zOk (l, rm_X6_load, 7, 0, 0) Y G cX6_load RX6 (some .int)) (hq : zRet (l, rm_X6_load, 7, 0, 0) Y G (some (.int r)) σ') (N : Nat) {kb84 : Int32 → Int32 → ZS → Option (Int32 × ZS)} (x1 : Int32) (x6 : Int32) (s0 : Int32) (s1 : Int32) (hb84 : ∀ (x5_ : Int32) (x6_ : Int32) (σ_ : ZS), kb84 x5_ x6_ σ_ = some (r, σ') → Z (l, rm_X6_load, 7, 0, 0) Y G σ_ [(0, .ref (G.1 1067)), (1, .int x1), (5, .int x5_), (6, .int x6_)] [] 84) (σ : ZS) (hf : f_X6_load_b136 N kb84 x1 x6 s0 s1 σ = some (r, σ')) : Z (l, rm_X6_load, 7, 0, 0) Y G σ [(0, .ref (G.1 1067)), (1, .int x1), (6, .int x6)] [.int s1, .int s0] 136 := by
  rw [f_X6_load_b136] at hf
  refine z_iadd h dX6_load_136 ?_
  refine z_topI (fun v22 ev22 => ?_)
  have hf := bd_to ev22 hf
  refine z_istore h dX6_load_137 (lv' := [(5, .int v22), (0, .ref (G.1 1067)), (1, .int x1), (6, .int x6)]) rfl rfl ?_
  obtain ⟨v23, ev23, hf⟩ := bd_ex hf
  refine z_iinc h (v := v23) (lv' := [(6, .int v23), (5, .int v22), (0, .ref (G.1 1067)), (1, .int x1)]) dX6_load_139 3 rfl (by rw [ev23]; rfl) rfl rfl ?_
  refine z_goto h (tgt := 84) dX6_load_142 (by decide) ?_
  exact z_sub [2, 3, 1, 0] rfl (hb84 _ _ _ hf)
set_option maxHeartbeats 4000000 in
set_option maxRecDepth 100000 in
theorem k_X6_load_b131 {l : Launch} {Y : ZY} {G : ZG} {r : Int32} {σ' : ZS} (h : zOk (l, rm_X6_load, 7, 0, 0) Y G cX6_load RX6 (some .int)) (hq : zRet (l, rm_X6_load, 7, 0, 0) Y G (some (.int r)) σ') (N : Nat) {kb84 : Int32 → Int32 → ZS → Option (Int32 × ZS)} (x1 : Int32) (x6 : Int32) (s0 : Int32) (hb84 : ∀ (x5_ : Int32) (x6_ : Int32) (σ_ : ZS), kb84 x5_ x6_ σ_ = some (r, σ') → Z (l, rm_X6_load, 7, 0, 0) Y G σ_ [(0, .ref (G.1 1067)), (1, .int x1), (5, .int x5_), (6, .int x6_)] [] 84) (σ : ZS) (hf : f_X6_load_b131 N kb84 x1 x6 s0 σ = some (r, σ')) : Z (l, rm_X6_load, 7, 0, 0) Y G σ [(0, .ref (G.1 1067)), (1, .int x1), (6, .int x6)] [.int s0] 131 := by
  rw [f_X6_load_b131] at hf
  refine z_iconst h (v := (1 : Int32)) dX6_load_131 ic_1 ?_
  refine z_goto h (tgt := 136) dX6_load_132 (by decide) ?_
  exact z_sub [0, 1, 2] rfl (k_X6_load_b136 h hq N x1 x6 s0 (1 : Int32) hb84 _ hf)
set_option maxHeartbeats 4000000 in
set_option maxRecDepth 100000 in
theorem k_X6_load_h84 {l : Launch} {Y : ZY} {G : ZG} {r : Int32} {σ' : ZS} (h : zOk (l, rm_X6_load, 7, 0, 0) Y G cX6_load RX6 (some .int)) (hq : zRet (l, rm_X6_load, 7, 0, 0) Y G (some (.int r)) σ') (N : Nat) (x1 : Int32) : ∀ (n : Nat) (x5 : Int32) (x6 : Int32) (σ : ZS), f_X6_load_h84 N x1 n x5 x6 σ = some (r, σ') → Z (l, rm_X6_load, 7, 0, 0) Y G σ [(0, .ref (G.1 1067)), (1, .int x1), (5, .int x5), (6, .int x6)] [] 84 := by
  intro n
  induction n with
  | zero =>
    intro x5 x6 σ hf
    rw [f_X6_load_h84] at hf
    cases hf
  | succ n ih =>
    intro x5 x6 σ hf
    rw [f_X6_load_h84] at hf
    refine z_iload h dX6_load_84 3 rfl ?_
    refine z_aload_n h dX6_load_86 rfl 0 rfl ?_
    refine z_gfI h zC6 (c := 1067) tg_1067 ln_1067 0 rfl ft_6_0 wd_155 dX6_load_87 ?_
    refine z_icmp_ge h (tgt := 145) dX6_load_90 (by decide) (fun g19 => ?_) (fun g19 => ?_)
    · have hf := it_pos g19 hf
      refine z_iload h dX6_load_145 2 rfl ?_
      exact z_iret h (rt_I hf hq) dX6_load_147
    · have hf := it_neg g19 hf
      refine z_iload h dX6_load_93 2 rfl ?_
      refine z_aload_n h dX6_load_95 rfl 0 rfl ?_
      refine z_gfR h zC6 (d := 1074) (c := 1067) tg_1067 ln_1067 8 rfl ft_6_8 rf_1067_8 wd_94 dX6_load_96 ?_
      refine z_bipush h (v := (14 : Int32)) dX6_load_99 bp_14 ?_
      refine z_iload_n h dX6_load_101 rfl 1 rfl ?_
      refine z_imul h dX6_load_102 ?_
      refine z_iconst h (v := (2 : Int32)) dX6_load_103 ic_2 ?_
      refine z_iload h dX6_load_104 3 rfl ?_
      refine z_imul h dX6_load_106 ?_
      refine z_iadd h dX6_load_107 ?_
      obtain ⟨g20, hf⟩ := ck_out hf
      refine z_iald h (c := 1074) tg_1074 ln_1074 g20 dX6_load_108 ?_
      refine z_if_ne h (tgt := 131) dX6_load_109 (by decide) (fun g21 => ?_) (fun g21 => ?_)
      · have hf := it_neg g21 hf
        exact z_sub [0, 1, 3] rfl (k_X6_load_b131 h hq N x1 x6 x5 (fun x5_ x6_ σ_ hf_ => ih x5_ x6_ σ_ hf_) _ hf)
      · have hf := it_pos g21 hf
        refine z_aload_n h dX6_load_112 rfl 0 rfl ?_
        refine z_gfR h zC6 (d := 1074) (c := 1067) tg_1067 ln_1067 8 rfl ft_6_8 rf_1067_8 wd_94 dX6_load_113 ?_
        refine z_bipush h (v := (14 : Int32)) dX6_load_116 bp_14 ?_
        refine z_iload_n h dX6_load_118 rfl 1 rfl ?_
        refine z_imul h dX6_load_119 ?_
        refine z_iconst h (v := (2 : Int32)) dX6_load_120 ic_2 ?_
        refine z_iload h dX6_load_121 3 rfl ?_
        refine z_imul h dX6_load_123 ?_
        refine z_iadd h dX6_load_124 ?_
        refine z_iconst h (v := (1 : Int32)) dX6_load_125 ic_1 ?_
        refine z_iadd h dX6_load_126 ?_
        obtain ⟨g24, hf⟩ := ck_out hf
        refine z_iald h (c := 1074) tg_1074 ln_1074 g24 dX6_load_127 ?_
        refine z_if_eq h (tgt := 135) dX6_load_128 (by decide) (fun g25 => ?_) (fun g25 => ?_)
        · have hf := it_pos g25 hf
          refine z_iconst h (v := (0 : Int32)) dX6_load_135 ic_0 ?_
          exact z_sub [0, 1, 3] rfl (k_X6_load_b136 h hq N x1 x6 x5 (0 : Int32) (fun x5_ x6_ σ_ hf_ => ih x5_ x6_ σ_ hf_) _ hf)
        · have hf := it_neg g25 hf
          exact z_sub [0, 1, 3] rfl (k_X6_load_b131 h hq N x1 x6 x5 (fun x5_ x6_ σ_ hf_ => ih x5_ x6_ σ_ hf_) _ hf)
set_option maxHeartbeats 4000000 in
set_option maxRecDepth 100000 in
theorem c_X6_load (l : Launch) (G : ZG) {N : Nat} {x1 : Int32} {x2 : Int32} {x3 : Int32} {x4 : Int32} {σ σ' : ZS} {r : Int32} (hf : f_X6_load N x1 x2 x3 x4 σ = some (r, σ')) : zMet l G yX6_load cX6_load 7 (some .int) rm_X6_load [.ref (G.1 1067), .int x1, .int x2, .int x3, .int x4] σ (some (.int r)) σ' := by
  refine z_met (by decide +kernel) rfl (fun Y h hq => ?_)
  have h : zOk (l, rm_X6_load, 7, 0, 0) Y G cX6_load RX6 (some .int) := h
  rw [f_X6_load] at hf
  refine z_sub (lv' := [(0, .ref (G.1 1067)), (1, .int x1), (2, .int x2), (3, .int x3), (4, .int x4)]) [0, 1, 2, 3, 4] rfl ?_
  refine z_aload_n h dX6_load_0 rfl 0 rfl ?_
  refine z_iload_n h dX6_load_1 rfl 2 rfl ?_
  obtain ⟨v1, σ2, e2, hf⟩ := obd_out hf
  refine z_cVv h (n := 1) (c_X6_isNode l G e2) zC6 tg_1067 ln_1067 rfl rfl wd_175 wd_176 wd_177 wd_5 wd_178 (by decide +kernel) ⟨rfl, rfl⟩ rfl rfl rfl dX6_load_2 ⟨Nat.zero_le _, Nat.zero_le _⟩ ?_
  refine z_if_ne h (tgt := 10) dX6_load_5 (by decide) (fun g3 => ?_) (fun g3 => ?_)
  · have hf := it_neg g3 hf
    refine z_iload_n h dX6_load_10 rfl 1 rfl ?_
    refine z_iconst h (v := (0 : Int32)) dX6_load_11 ic_0 ?_
    refine z_iconst h (v := (2 : Int32)) dX6_load_12 ic_2 ?_
    obtain ⟨v4, σ5, e5, hf⟩ := obd_out hf
    refine z_cSv h (n := 3) (c_X6_in l G e5) rfl wd_156 wd_157 wd_5 wd_158 (by decide +kernel) ⟨rfl, rfl⟩ rfl rfl rfl dX6_load_13 ⟨Nat.zero_le _, Nat.zero_le _⟩ ?_
    refine z_if_eq h (tgt := 40) dX6_load_16 (by decide) (fun g6 => ?_) (fun g6 => ?_)
    · have hf := it_pos g6 hf
      refine z_bipush h (v := (-2 : Int32)) dX6_load_40 bp_m2 ?_
      exact z_iret h (rt_I hf hq) dX6_load_42
    · have hf := it_neg g6 hf
      refine z_iload_n h dX6_load_19 rfl 3 rfl ?_
      refine z_bipush h (v := (-5 : Int32)) dX6_load_20 bp_m5 ?_
      refine z_iconst h (v := (5 : Int32)) dX6_load_22 ic_5 ?_
      obtain ⟨v7, σ8, e8, hf⟩ := obd_out hf
      refine z_cSv h (n := 3) (c_X6_in l G e8) rfl wd_156 wd_157 wd_5 wd_158 (by decide +kernel) ⟨rfl, rfl⟩ rfl rfl rfl dX6_load_23 ⟨Nat.zero_le _, Nat.zero_le _⟩ ?_
      refine z_if_eq h (tgt := 40) dX6_load_26 (by decide) (fun g9 => ?_) (fun g9 => ?_)
      · have hf := it_pos g9 hf
        refine z_bipush h (v := (-2 : Int32)) dX6_load_40 bp_m2 ?_
        exact z_iret h (rt_I hf hq) dX6_load_42
      · have hf := it_neg g9 hf
        refine z_iload h dX6_load_29 4 rfl ?_
        refine z_bipush h (v := (-5 : Int32)) dX6_load_31 bp_m5 ?_
        refine z_iconst h (v := (5 : Int32)) dX6_load_33 ic_5 ?_
        obtain ⟨v10, σ11, e11, hf⟩ := obd_out hf
        refine z_cSv h (n := 3) (c_X6_in l G e11) rfl wd_156 wd_157 wd_5 wd_158 (by decide +kernel) ⟨rfl, rfl⟩ rfl rfl rfl dX6_load_34 ⟨Nat.zero_le _, Nat.zero_le _⟩ ?_
        refine z_if_ne h (tgt := 43) dX6_load_37 (by decide) (fun g12 => ?_) (fun g12 => ?_)
        · have hf := it_neg g12 hf
          refine z_aload_n h dX6_load_43 rfl 0 rfl ?_
          refine z_gfR h zC6 (d := 1074) (c := 1067) tg_1067 ln_1067 8 rfl ft_6_8 rf_1067_8 wd_94 dX6_load_44 ?_
          refine z_bipush h (v := (14 : Int32)) dX6_load_47 bp_14 ?_
          refine z_iload_n h dX6_load_49 rfl 1 rfl ?_
          refine z_imul h dX6_load_50 ?_
          refine z_iconst h (v := (2 : Int32)) dX6_load_51 ic_2 ?_
          refine z_iload_n h dX6_load_52 rfl 2 rfl ?_
          refine z_imul h dX6_load_53 ?_
          refine z_iadd h dX6_load_54 ?_
          refine z_iload_n h dX6_load_55 rfl 3 rfl ?_
          obtain ⟨g13, hf⟩ := ck_out hf
          refine z_iast h (c := 1074) tg_1074 ln_1074 g13 dX6_load_56 ?_
          refine z_gen (fun σ14 eσ14 => ?_)
          have hf := bd_to eσ14 hf
          refine z_aload_n h dX6_load_57 rfl 0 rfl ?_
          refine z_gfR h zC6 (d := 1074) (c := 1067) tg_1067 ln_1067 8 rfl ft_6_8 rf_1067_8 wd_94 dX6_load_58 ?_
          refine z_bipush h (v := (14 : Int32)) dX6_load_61 bp_14 ?_
          refine z_iload_n h dX6_load_63 rfl 1 rfl ?_
          refine z_imul h dX6_load_64 ?_
          refine z_iconst h (v := (2 : Int32)) dX6_load_65 ic_2 ?_
          refine z_iload_n h dX6_load_66 rfl 2 rfl ?_
          refine z_imul h dX6_load_67 ?_
          refine z_iadd h dX6_load_68 ?_
          refine z_iconst h (v := (1 : Int32)) dX6_load_69 ic_1 ?_
          refine z_iadd h dX6_load_70 ?_
          refine z_iload h dX6_load_71 4 rfl ?_
          obtain ⟨g15, hf⟩ := ck_out hf
          refine z_iast h (c := 1074) tg_1074 ln_1074 g15 dX6_load_73 ?_
          refine z_gen (fun σ16 eσ16 => ?_)
          have hf := bd_to eσ16 hf
          refine z_aload_n h dX6_load_74 rfl 0 rfl ?_
          obtain ⟨v17, σ18, e18, hf⟩ := obd_out hf
          refine z_cV0 h (n := 0) (c_X6_forget l G e18) zC6 tg_1067 ln_1067 rfl rfl wd_159 wd_160 wd_161 wd_5 wd_162 (by decide +kernel) ⟨rfl, rfl⟩ rfl rfl rfl dX6_load_75 ⟨Nat.zero_le _, Nat.zero_le _⟩ ?_
          refine z_iconst h (v := (0 : Int32)) dX6_load_78 ic_0 ?_
          refine z_istore h dX6_load_79 (lv' := [(5, .int (0 : Int32)), (0, .ref (G.1 1067)), (1, .int x1), (2, .int x2), (3, .int x3), (4, .int x4)]) rfl rfl ?_
          refine z_iconst h (v := (0 : Int32)) dX6_load_81 ic_0 ?_
          refine z_istore h dX6_load_82 (lv' := [(6, .int (0 : Int32)), (5, .int (0 : Int32)), (0, .ref (G.1 1067)), (1, .int x1), (2, .int x2), (3, .int x3), (4, .int x4)]) rfl rfl ?_
          exact z_sub [2, 3, 1, 0] rfl (k_X6_load_h84 h hq N x1 _ _ _ _ hf)
        · have hf := it_pos g12 hf
          refine z_bipush h (v := (-2 : Int32)) dX6_load_40 bp_m2 ?_
          exact z_iret h (rt_I hf hq) dX6_load_42
  · have hf := it_pos g3 hf
    refine z_iconst h (v := (-1 : Int32)) dX6_load_8 ic_m1 ?_
    exact z_iret h (rt_I hf hq) dX6_load_9
theorem dX6_ofNode_0 : decode cX6_ofNode 0 = .ok (.aload_n 0, 1) := by decide +kernel
theorem dX6_ofNode_1 : decode cX6_ofNode 1 = .ok (.iload_n 1, 1) := by decide +kernel
theorem dX6_ofNode_2 : decode cX6_ofNode 2 = .ok (.invokevirtual 147, 3) := by decide +kernel
theorem dX6_ofNode_5 : decode cX6_ofNode 5 = .ok (.ifCond .ne 5, 3) := by decide +kernel
theorem dX6_ofNode_8 : decode cX6_ofNode 8 = .ok (.iconst (-1), 1) := by decide +kernel
theorem dX6_ofNode_9 : decode cX6_ofNode 9 = .ok (.ireturn, 1) := by decide +kernel
theorem dX6_ofNode_10 : decode cX6_ofNode 10 = .ok (.iload_n 2, 1) := by decide +kernel
theorem dX6_ofNode_11 : decode cX6_ofNode 11 = .ok (.iconst 0, 1) := by decide +kernel
theorem dX6_ofNode_12 : decode cX6_ofNode 12 = .ok (.bipush 8, 2) := by decide +kernel
theorem dX6_ofNode_14 : decode cX6_ofNode 14 = .ok (.invokestatic 137, 3) := by decide +kernel
theorem dX6_ofNode_17 : decode cX6_ofNode 17 = .ok (.ifCond .ne 6, 3) := by decide +kernel
theorem dX6_ofNode_20 : decode cX6_ofNode 20 = .ok (.bipush (-2), 2) := by decide +kernel
theorem dX6_ofNode_22 : decode cX6_ofNode 22 = .ok (.ireturn, 1) := by decide +kernel
theorem dX6_ofNode_23 : decode cX6_ofNode 23 = .ok (.iload_n 2, 1) := by decide +kernel
theorem dX6_ofNode_24 : decode cX6_ofNode 24 = .ok (.ifCond .ne 12, 3) := by decide +kernel
theorem dX6_ofNode_27 : decode cX6_ofNode 27 = .ok (.aload_n 0, 1) := by decide +kernel
theorem dX6_ofNode_28 : decode cX6_ofNode 28 = .ok (.getfield 7, 3) := by decide +kernel
theorem dX6_ofNode_31 : decode cX6_ofNode 31 = .ok (.iload_n 1, 1) := by decide +kernel
theorem dX6_ofNode_32 : decode cX6_ofNode 32 = .ok (.iaload, 1) := by decide +kernel
theorem dX6_ofNode_33 : decode cX6_ofNode 33 = .ok (.goto 54, 3) := by decide +kernel
theorem dX6_ofNode_36 : decode cX6_ofNode 36 = .ok (.iload_n 2, 1) := by decide +kernel
theorem dX6_ofNode_37 : decode cX6_ofNode 37 = .ok (.iconst 1, 1) := by decide +kernel
theorem dX6_ofNode_38 : decode cX6_ofNode 38 = .ok (.if_icmp .ne 12, 3) := by decide +kernel
theorem dX6_ofNode_41 : decode cX6_ofNode 41 = .ok (.aload_n 0, 1) := by decide +kernel
theorem dX6_ofNode_42 : decode cX6_ofNode 42 = .ok (.getfield 13, 3) := by decide +kernel
theorem dX6_ofNode_45 : decode cX6_ofNode 45 = .ok (.iload_n 1, 1) := by decide +kernel
theorem dX6_ofNode_46 : decode cX6_ofNode 46 = .ok (.iaload, 1) := by decide +kernel
theorem dX6_ofNode_47 : decode cX6_ofNode 47 = .ok (.goto 40, 3) := by decide +kernel
theorem dX6_ofNode_50 : decode cX6_ofNode 50 = .ok (.iload_n 2, 1) := by decide +kernel
theorem dX6_ofNode_51 : decode cX6_ofNode 51 = .ok (.iconst 2, 1) := by decide +kernel
theorem dX6_ofNode_52 : decode cX6_ofNode 52 = .ok (.if_icmp .ne 12, 3) := by decide +kernel
theorem dX6_ofNode_55 : decode cX6_ofNode 55 = .ok (.aload_n 0, 1) := by decide +kernel
theorem dX6_ofNode_56 : decode cX6_ofNode 56 = .ok (.getfield 16, 3) := by decide +kernel
theorem dX6_ofNode_59 : decode cX6_ofNode 59 = .ok (.iload_n 1, 1) := by decide +kernel
theorem dX6_ofNode_60 : decode cX6_ofNode 60 = .ok (.iaload, 1) := by decide +kernel
theorem dX6_ofNode_61 : decode cX6_ofNode 61 = .ok (.goto 26, 3) := by decide +kernel
theorem dX6_ofNode_64 : decode cX6_ofNode 64 = .ok (.aload_n 0, 1) := by decide +kernel
theorem dX6_ofNode_65 : decode cX6_ofNode 65 = .ok (.getfield 28, 3) := by decide +kernel
theorem dX6_ofNode_68 : decode cX6_ofNode 68 = .ok (.bipush 14, 2) := by decide +kernel
theorem dX6_ofNode_70 : decode cX6_ofNode 70 = .ok (.iload_n 2, 1) := by decide +kernel
theorem dX6_ofNode_71 : decode cX6_ofNode 71 = .ok (.iconst 3, 1) := by decide +kernel
theorem dX6_ofNode_72 : decode cX6_ofNode 72 = .ok (.isub, 1) := by decide +kernel
theorem dX6_ofNode_73 : decode cX6_ofNode 73 = .ok (.iconst 2, 1) := by decide +kernel
theorem dX6_ofNode_74 : decode cX6_ofNode 74 = .ok (.idiv, 1) := by decide +kernel
theorem dX6_ofNode_75 : decode cX6_ofNode 75 = .ok (.imul, 1) := by decide +kernel
theorem dX6_ofNode_76 : decode cX6_ofNode 76 = .ok (.iconst 2, 1) := by decide +kernel
theorem dX6_ofNode_77 : decode cX6_ofNode 77 = .ok (.iload_n 1, 1) := by decide +kernel
theorem dX6_ofNode_78 : decode cX6_ofNode 78 = .ok (.imul, 1) := by decide +kernel
theorem dX6_ofNode_79 : decode cX6_ofNode 79 = .ok (.iadd, 1) := by decide +kernel
theorem dX6_ofNode_80 : decode cX6_ofNode 80 = .ok (.iload_n 2, 1) := by decide +kernel
theorem dX6_ofNode_81 : decode cX6_ofNode 81 = .ok (.iconst 3, 1) := by decide +kernel
theorem dX6_ofNode_82 : decode cX6_ofNode 82 = .ok (.isub, 1) := by decide +kernel
theorem dX6_ofNode_83 : decode cX6_ofNode 83 = .ok (.iconst 2, 1) := by decide +kernel
theorem dX6_ofNode_84 : decode cX6_ofNode 84 = .ok (.irem, 1) := by decide +kernel
theorem dX6_ofNode_85 : decode cX6_ofNode 85 = .ok (.iadd, 1) := by decide +kernel
theorem dX6_ofNode_86 : decode cX6_ofNode 86 = .ok (.iaload, 1) := by decide +kernel
theorem dX6_ofNode_87 : decode cX6_ofNode 87 = .ok (.ireturn, 1) := by decide +kernel
abbrev rm_X6_ofNode : Room := { frames := 2, cells := 0, slots := 0, locals := 59 }
noncomputable def f_X6_ofNode (N : Nat) (x1 : Int32) (x2 : Int32) (σ : ZS) : Option (Int32 × ZS) := obd (f_X6_isNode N x1 σ) fun v1 σ2 => (if v1 = 0 then some ((-1 : Int32), σ2) else obd (f_X6_in N x2 (0 : Int32) (8 : Int32) σ2) fun v4 σ5 => (if v4 = 0 then some ((-2 : Int32), σ5) else (if x2 = 0 then ck (inb x1 7) (some (gI σ5 1068 (x1.toNatClampNeg), σ5)) else (if x2 = (1 : Int32) then ck (inb x1 7) (some (gI σ5 1069 (x1.toNatClampNeg), σ5)) else (if x2 = (2 : Int32) then ck (inb x1 7) (some (gI σ5 1070 (x1.toNatClampNeg), σ5)) else ck (inb ((((14 : Int32) * ((x2 - (3 : Int32)) / (2 : Int32))) + ((2 : Int32) * x1)) + (irm (x2 - (3 : Int32)) (2 : Int32))) 42) (some (gI σ5 1074 (((((14 : Int32) * ((x2 - (3 : Int32)) / (2 : Int32))) + ((2 : Int32) * x1)) + (irm (x2 - (3 : Int32)) (2 : Int32))).toNatClampNeg), σ5)))))))
set_option maxHeartbeats 4000000 in
set_option maxRecDepth 100000 in
theorem c_X6_ofNode (l : Launch) (G : ZG) {N : Nat} {x1 : Int32} {x2 : Int32} {σ σ' : ZS} {r : Int32} (hf : f_X6_ofNode N x1 x2 σ = some (r, σ')) : zMet l G yX6_ofNode cX6_ofNode 3 (some .int) rm_X6_ofNode [.ref (G.1 1067), .int x1, .int x2] σ (some (.int r)) σ' := by
  refine z_met (by decide +kernel) rfl (fun Y h hq => ?_)
  have h : zOk (l, rm_X6_ofNode, 3, 0, 0) Y G cX6_ofNode RX6 (some .int) := h
  rw [f_X6_ofNode] at hf
  refine z_sub (lv' := [(0, .ref (G.1 1067)), (1, .int x1), (2, .int x2)]) [0, 1, 2] rfl ?_
  refine z_aload_n h dX6_ofNode_0 rfl 0 rfl ?_
  refine z_iload_n h dX6_ofNode_1 rfl 1 rfl ?_
  obtain ⟨v1, σ2, e2, hf⟩ := obd_out hf
  refine z_cVv h (n := 1) (c_X6_isNode l G e2) zC6 tg_1067 ln_1067 rfl rfl wd_175 wd_176 wd_177 wd_5 wd_178 (by decide +kernel) ⟨rfl, rfl⟩ rfl rfl rfl dX6_ofNode_2 ⟨Nat.zero_le _, Nat.zero_le _⟩ ?_
  refine z_if_ne h (tgt := 10) dX6_ofNode_5 (by decide) (fun g3 => ?_) (fun g3 => ?_)
  · have hf := it_neg g3 hf
    refine z_iload_n h dX6_ofNode_10 rfl 2 rfl ?_
    refine z_iconst h (v := (0 : Int32)) dX6_ofNode_11 ic_0 ?_
    refine z_bipush h (v := (8 : Int32)) dX6_ofNode_12 bp_8 ?_
    obtain ⟨v4, σ5, e5, hf⟩ := obd_out hf
    refine z_cSv h (n := 3) (c_X6_in l G e5) rfl wd_156 wd_157 wd_5 wd_158 (by decide +kernel) ⟨rfl, rfl⟩ rfl rfl rfl dX6_ofNode_14 ⟨Nat.zero_le _, Nat.zero_le _⟩ ?_
    refine z_if_ne h (tgt := 23) dX6_ofNode_17 (by decide) (fun g6 => ?_) (fun g6 => ?_)
    · have hf := it_neg g6 hf
      refine z_iload_n h dX6_ofNode_23 rfl 2 rfl ?_
      refine z_if_ne h (tgt := 36) dX6_ofNode_24 (by decide) (fun g7 => ?_) (fun g7 => ?_)
      · have hf := it_neg g7 hf
        refine z_iload_n h dX6_ofNode_36 rfl 2 rfl ?_
        refine z_iconst h (v := (1 : Int32)) dX6_ofNode_37 ic_1 ?_
        refine z_icmp_ne h (tgt := 50) dX6_ofNode_38 (by decide) (fun g8 => ?_) (fun g8 => ?_)
        · have hf := it_neg g8 hf
          refine z_iload_n h dX6_ofNode_50 rfl 2 rfl ?_
          refine z_iconst h (v := (2 : Int32)) dX6_ofNode_51 ic_2 ?_
          refine z_icmp_ne h (tgt := 64) dX6_ofNode_52 (by decide) (fun g9 => ?_) (fun g9 => ?_)
          · have hf := it_neg g9 hf
            refine z_aload_n h dX6_ofNode_64 rfl 0 rfl ?_
            refine z_gfR h zC6 (d := 1074) (c := 1067) tg_1067 ln_1067 8 rfl ft_6_8 rf_1067_8 wd_94 dX6_ofNode_65 ?_
            refine z_bipush h (v := (14 : Int32)) dX6_ofNode_68 bp_14 ?_
            refine z_iload_n h dX6_ofNode_70 rfl 2 rfl ?_
            refine z_iconst h (v := (3 : Int32)) dX6_ofNode_71 ic_3 ?_
            refine z_isub h dX6_ofNode_72 ?_
            refine z_iconst h (v := (2 : Int32)) dX6_ofNode_73 ic_2 ?_
            refine z_idiv h dX6_ofNode_74 (by decide) ?_
            refine z_imul h dX6_ofNode_75 ?_
            refine z_iconst h (v := (2 : Int32)) dX6_ofNode_76 ic_2 ?_
            refine z_iload_n h dX6_ofNode_77 rfl 1 rfl ?_
            refine z_imul h dX6_ofNode_78 ?_
            refine z_iadd h dX6_ofNode_79 ?_
            refine z_iload_n h dX6_ofNode_80 rfl 2 rfl ?_
            refine z_iconst h (v := (3 : Int32)) dX6_ofNode_81 ic_3 ?_
            refine z_isub h dX6_ofNode_82 ?_
            refine z_iconst h (v := (2 : Int32)) dX6_ofNode_83 ic_2 ?_
            refine z_irem h dX6_ofNode_84 (by decide) ?_
            refine z_iadd h dX6_ofNode_85 ?_
            obtain ⟨g10, hf⟩ := ck_out hf
            refine z_iald h (c := 1074) tg_1074 ln_1074 g10 dX6_ofNode_86 ?_
            exact z_iret h (rt_I hf hq) dX6_ofNode_87
          · have hf := it_pos g9 hf
            refine z_aload_n h dX6_ofNode_55 rfl 0 rfl ?_
            refine z_gfR h zC6 (d := 1070) (c := 1067) tg_1067 ln_1067 3 rfl ft_6_3 rf_1067_3 wd_90 dX6_ofNode_56 ?_
            refine z_iload_n h dX6_ofNode_59 rfl 1 rfl ?_
            obtain ⟨g11, hf⟩ := ck_out hf
            refine z_iald h (c := 1070) tg_1070 ln_1070 g11 dX6_ofNode_60 ?_
            refine z_goto h (tgt := 87) dX6_ofNode_61 (by decide) ?_
            exact z_iret h (rt_I hf hq) dX6_ofNode_87
        · have hf := it_pos g8 hf
          refine z_aload_n h dX6_ofNode_41 rfl 0 rfl ?_
          refine z_gfR h zC6 (d := 1069) (c := 1067) tg_1067 ln_1067 2 rfl ft_6_2 rf_1067_2 wd_89 dX6_ofNode_42 ?_
          refine z_iload_n h dX6_ofNode_45 rfl 1 rfl ?_
          obtain ⟨g12, hf⟩ := ck_out hf
          refine z_iald h (c := 1069) tg_1069 ln_1069 g12 dX6_ofNode_46 ?_
          refine z_goto h (tgt := 87) dX6_ofNode_47 (by decide) ?_
          exact z_iret h (rt_I hf hq) dX6_ofNode_87
      · have hf := it_pos g7 hf
        refine z_aload_n h dX6_ofNode_27 rfl 0 rfl ?_
        refine z_gfR h zC6 (d := 1068) (c := 1067) tg_1067 ln_1067 1 rfl ft_6_1 rf_1067_1 wd_88 dX6_ofNode_28 ?_
        refine z_iload_n h dX6_ofNode_31 rfl 1 rfl ?_
        obtain ⟨g13, hf⟩ := ck_out hf
        refine z_iald h (c := 1068) tg_1068 ln_1068 g13 dX6_ofNode_32 ?_
        refine z_goto h (tgt := 87) dX6_ofNode_33 (by decide) ?_
        exact z_iret h (rt_I hf hq) dX6_ofNode_87
    · have hf := it_pos g6 hf
      refine z_bipush h (v := (-2 : Int32)) dX6_ofNode_20 bp_m2 ?_
      exact z_iret h (rt_I hf hq) dX6_ofNode_22
  · have hf := it_pos g3 hf
    refine z_iconst h (v := (-1 : Int32)) dX6_ofNode_8 ic_m1 ?_
    exact z_iret h (rt_I hf hq) dX6_ofNode_9
theorem dX6_lies_0 : decode cX6_lies 0 = .ok (.aload_n 0, 1) := by decide +kernel
theorem dX6_lies_1 : decode cX6_lies 1 = .ok (.getfield 13, 3) := by decide +kernel
theorem dX6_lies_4 : decode cX6_lies 4 = .ok (.aload_n 0, 1) := by decide +kernel
theorem dX6_lies_5 : decode cX6_lies 5 = .ok (.getfield 19, 3) := by decide +kernel
theorem dX6_lies_8 : decode cX6_lies 8 = .ok (.iload_n 1, 1) := by decide +kernel
theorem dX6_lies_9 : decode cX6_lies 9 = .ok (.iaload, 1) := by decide +kernel
theorem dX6_lies_10 : decode cX6_lies 10 = .ok (.iaload, 1) := by decide +kernel
theorem dX6_lies_11 : decode cX6_lies 11 = .ok (.aload_n 0, 1) := by decide +kernel
theorem dX6_lies_12 : decode cX6_lies 12 = .ok (.getfield 13, 3) := by decide +kernel
theorem dX6_lies_15 : decode cX6_lies 15 = .ok (.aload_n 0, 1) := by decide +kernel
theorem dX6_lies_16 : decode cX6_lies 16 = .ok (.getfield 22, 3) := by decide +kernel
theorem dX6_lies_19 : decode cX6_lies 19 = .ok (.iload_n 1, 1) := by decide +kernel
theorem dX6_lies_20 : decode cX6_lies 20 = .ok (.iaload, 1) := by decide +kernel
theorem dX6_lies_21 : decode cX6_lies 21 = .ok (.iaload, 1) := by decide +kernel
theorem dX6_lies_22 : decode cX6_lies 22 = .ok (.if_icmp .ne 7, 3) := by decide +kernel
theorem dX6_lies_25 : decode cX6_lies 25 = .ok (.iconst 1, 1) := by decide +kernel
theorem dX6_lies_26 : decode cX6_lies 26 = .ok (.goto 4, 3) := by decide +kernel
theorem dX6_lies_29 : decode cX6_lies 29 = .ok (.iconst 0, 1) := by decide +kernel
theorem dX6_lies_30 : decode cX6_lies 30 = .ok (.ireturn, 1) := by decide +kernel
abbrev rm_X6_lies : Room := { frames := 0, cells := 0, slots := 0, locals := 0 }
noncomputable def f_X6_lies (N : Nat) (x1 : Int32) (σ : ZS) : Option (Int32 × ZS) := ck (inb x1 6) (ck (inb (gI σ 1071 (x1.toNatClampNeg)) 7) (ck (inb x1 6) (ck (inb (gI σ 1072 (x1.toNatClampNeg)) 7) ((if (gI σ 1069 ((gI σ 1071 (x1.toNatClampNeg)).toNatClampNeg)) = (gI σ 1069 ((gI σ 1072 (x1.toNatClampNeg)).toNatClampNeg)) then some ((1 : Int32), σ) else some ((0 : Int32), σ))))))
set_option maxHeartbeats 4000000 in
set_option maxRecDepth 100000 in
theorem c_X6_lies (l : Launch) (G : ZG) {N : Nat} {x1 : Int32} {σ σ' : ZS} {r : Int32} (hf : f_X6_lies N x1 σ = some (r, σ')) : zMet l G yX6_lies cX6_lies 2 (some .boolean) rm_X6_lies [.ref (G.1 1067), .int x1] σ (some (.int r)) σ' := by
  refine z_met (by decide +kernel) rfl (fun Y h hq => ?_)
  have h : zOk (l, rm_X6_lies, 2, 0, 0) Y G cX6_lies RX6 (some .boolean) := h
  rw [f_X6_lies] at hf
  refine z_sub (lv' := [(0, .ref (G.1 1067)), (1, .int x1)]) [0, 1] rfl ?_
  refine z_aload_n h dX6_lies_0 rfl 0 rfl ?_
  refine z_gfR h zC6 (d := 1069) (c := 1067) tg_1067 ln_1067 2 rfl ft_6_2 rf_1067_2 wd_89 dX6_lies_1 ?_
  refine z_aload_n h dX6_lies_4 rfl 0 rfl ?_
  refine z_gfR h zC6 (d := 1071) (c := 1067) tg_1067 ln_1067 5 rfl ft_6_5 rf_1067_5 wd_91 dX6_lies_5 ?_
  refine z_iload_n h dX6_lies_8 rfl 1 rfl ?_
  obtain ⟨g1, hf⟩ := ck_out hf
  refine z_iald h (c := 1071) tg_1071 ln_1071 g1 dX6_lies_9 ?_
  obtain ⟨g2, hf⟩ := ck_out hf
  refine z_iald h (c := 1069) tg_1069 ln_1069 g2 dX6_lies_10 ?_
  refine z_aload_n h dX6_lies_11 rfl 0 rfl ?_
  refine z_gfR h zC6 (d := 1069) (c := 1067) tg_1067 ln_1067 2 rfl ft_6_2 rf_1067_2 wd_89 dX6_lies_12 ?_
  refine z_aload_n h dX6_lies_15 rfl 0 rfl ?_
  refine z_gfR h zC6 (d := 1072) (c := 1067) tg_1067 ln_1067 6 rfl ft_6_6 rf_1067_6 wd_92 dX6_lies_16 ?_
  refine z_iload_n h dX6_lies_19 rfl 1 rfl ?_
  obtain ⟨g3, hf⟩ := ck_out hf
  refine z_iald h (c := 1072) tg_1072 ln_1072 g3 dX6_lies_20 ?_
  obtain ⟨g4, hf⟩ := ck_out hf
  refine z_iald h (c := 1069) tg_1069 ln_1069 g4 dX6_lies_21 ?_
  refine z_icmp_ne h (tgt := 29) dX6_lies_22 (by decide) (fun g5 => ?_) (fun g5 => ?_)
  · have hf := it_neg g5 hf
    refine z_iconst h (v := (0 : Int32)) dX6_lies_29 ic_0 ?_
    exact z_zret h rfl (rt_I hf hq) dX6_lies_30
  · have hf := it_pos g5 hf
    refine z_iconst h (v := (1 : Int32)) dX6_lies_25 ic_1 ?_
    refine z_goto h (tgt := 30) dX6_lies_26 (by decide) ?_
    exact z_zret h rfl (rt_I hf hq) dX6_lies_30
theorem dX6_length_0 : decode cX6_length 0 = .ok (.aload_n 0, 1) := by decide +kernel
theorem dX6_length_1 : decode cX6_length 1 = .ok (.getfield 7, 3) := by decide +kernel
theorem dX6_length_4 : decode cX6_length 4 = .ok (.aload_n 0, 1) := by decide +kernel
theorem dX6_length_5 : decode cX6_length 5 = .ok (.getfield 22, 3) := by decide +kernel
theorem dX6_length_8 : decode cX6_length 8 = .ok (.iload_n 1, 1) := by decide +kernel
theorem dX6_length_9 : decode cX6_length 9 = .ok (.iaload, 1) := by decide +kernel
theorem dX6_length_10 : decode cX6_length 10 = .ok (.iaload, 1) := by decide +kernel
theorem dX6_length_11 : decode cX6_length 11 = .ok (.aload_n 0, 1) := by decide +kernel
theorem dX6_length_12 : decode cX6_length 12 = .ok (.getfield 7, 3) := by decide +kernel
theorem dX6_length_15 : decode cX6_length 15 = .ok (.aload_n 0, 1) := by decide +kernel
theorem dX6_length_16 : decode cX6_length 16 = .ok (.getfield 19, 3) := by decide +kernel
theorem dX6_length_19 : decode cX6_length 19 = .ok (.iload_n 1, 1) := by decide +kernel
theorem dX6_length_20 : decode cX6_length 20 = .ok (.iaload, 1) := by decide +kernel
theorem dX6_length_21 : decode cX6_length 21 = .ok (.iaload, 1) := by decide +kernel
theorem dX6_length_22 : decode cX6_length 22 = .ok (.isub, 1) := by decide +kernel
theorem dX6_length_23 : decode cX6_length 23 = .ok (.aload_n 0, 1) := by decide +kernel
theorem dX6_length_24 : decode cX6_length 24 = .ok (.getfield 13, 3) := by decide +kernel
theorem dX6_length_27 : decode cX6_length 27 = .ok (.aload_n 0, 1) := by decide +kernel
theorem dX6_length_28 : decode cX6_length 28 = .ok (.getfield 22, 3) := by decide +kernel
theorem dX6_length_31 : decode cX6_length 31 = .ok (.iload_n 1, 1) := by decide +kernel
theorem dX6_length_32 : decode cX6_length 32 = .ok (.iaload, 1) := by decide +kernel
theorem dX6_length_33 : decode cX6_length 33 = .ok (.iaload, 1) := by decide +kernel
theorem dX6_length_34 : decode cX6_length 34 = .ok (.iadd, 1) := by decide +kernel
theorem dX6_length_35 : decode cX6_length 35 = .ok (.aload_n 0, 1) := by decide +kernel
theorem dX6_length_36 : decode cX6_length 36 = .ok (.getfield 13, 3) := by decide +kernel
theorem dX6_length_39 : decode cX6_length 39 = .ok (.aload_n 0, 1) := by decide +kernel
theorem dX6_length_40 : decode cX6_length 40 = .ok (.getfield 19, 3) := by decide +kernel
theorem dX6_length_43 : decode cX6_length 43 = .ok (.iload_n 1, 1) := by decide +kernel
theorem dX6_length_44 : decode cX6_length 44 = .ok (.iaload, 1) := by decide +kernel
theorem dX6_length_45 : decode cX6_length 45 = .ok (.iaload, 1) := by decide +kernel
theorem dX6_length_46 : decode cX6_length 46 = .ok (.isub, 1) := by decide +kernel
theorem dX6_length_47 : decode cX6_length 47 = .ok (.ireturn, 1) := by decide +kernel
abbrev rm_X6_length : Room := { frames := 0, cells := 0, slots := 0, locals := 0 }
noncomputable def f_X6_length (N : Nat) (x1 : Int32) (σ : ZS) : Option (Int32 × ZS) := ck (inb x1 6) (ck (inb (gI σ 1072 (x1.toNatClampNeg)) 7) (ck (inb x1 6) (ck (inb (gI σ 1071 (x1.toNatClampNeg)) 7) (ck (inb x1 6) (ck (inb (gI σ 1072 (x1.toNatClampNeg)) 7) (ck (inb x1 6) (ck (inb (gI σ 1071 (x1.toNatClampNeg)) 7) (some ((((gI σ 1068 ((gI σ 1072 (x1.toNatClampNeg)).toNatClampNeg)) - (gI σ 1068 ((gI σ 1071 (x1.toNatClampNeg)).toNatClampNeg))) + (gI σ 1069 ((gI σ 1072 (x1.toNatClampNeg)).toNatClampNeg))) - (gI σ 1069 ((gI σ 1071 (x1.toNatClampNeg)).toNatClampNeg)), σ)))))))))
set_option maxHeartbeats 4000000 in
set_option maxRecDepth 100000 in
theorem c_X6_length (l : Launch) (G : ZG) {N : Nat} {x1 : Int32} {σ σ' : ZS} {r : Int32} (hf : f_X6_length N x1 σ = some (r, σ')) : zMet l G yX6_length cX6_length 2 (some .int) rm_X6_length [.ref (G.1 1067), .int x1] σ (some (.int r)) σ' := by
  refine z_met (by decide +kernel) rfl (fun Y h hq => ?_)
  have h : zOk (l, rm_X6_length, 2, 0, 0) Y G cX6_length RX6 (some .int) := h
  rw [f_X6_length] at hf
  refine z_sub (lv' := [(0, .ref (G.1 1067)), (1, .int x1)]) [0, 1] rfl ?_
  refine z_aload_n h dX6_length_0 rfl 0 rfl ?_
  refine z_gfR h zC6 (d := 1068) (c := 1067) tg_1067 ln_1067 1 rfl ft_6_1 rf_1067_1 wd_88 dX6_length_1 ?_
  refine z_aload_n h dX6_length_4 rfl 0 rfl ?_
  refine z_gfR h zC6 (d := 1072) (c := 1067) tg_1067 ln_1067 6 rfl ft_6_6 rf_1067_6 wd_92 dX6_length_5 ?_
  refine z_iload_n h dX6_length_8 rfl 1 rfl ?_
  obtain ⟨g1, hf⟩ := ck_out hf
  refine z_iald h (c := 1072) tg_1072 ln_1072 g1 dX6_length_9 ?_
  obtain ⟨g2, hf⟩ := ck_out hf
  refine z_iald h (c := 1068) tg_1068 ln_1068 g2 dX6_length_10 ?_
  refine z_aload_n h dX6_length_11 rfl 0 rfl ?_
  refine z_gfR h zC6 (d := 1068) (c := 1067) tg_1067 ln_1067 1 rfl ft_6_1 rf_1067_1 wd_88 dX6_length_12 ?_
  refine z_aload_n h dX6_length_15 rfl 0 rfl ?_
  refine z_gfR h zC6 (d := 1071) (c := 1067) tg_1067 ln_1067 5 rfl ft_6_5 rf_1067_5 wd_91 dX6_length_16 ?_
  refine z_iload_n h dX6_length_19 rfl 1 rfl ?_
  obtain ⟨g3, hf⟩ := ck_out hf
  refine z_iald h (c := 1071) tg_1071 ln_1071 g3 dX6_length_20 ?_
  obtain ⟨g4, hf⟩ := ck_out hf
  refine z_iald h (c := 1068) tg_1068 ln_1068 g4 dX6_length_21 ?_
  refine z_isub h dX6_length_22 ?_
  refine z_aload_n h dX6_length_23 rfl 0 rfl ?_
  refine z_gfR h zC6 (d := 1069) (c := 1067) tg_1067 ln_1067 2 rfl ft_6_2 rf_1067_2 wd_89 dX6_length_24 ?_
  refine z_aload_n h dX6_length_27 rfl 0 rfl ?_
  refine z_gfR h zC6 (d := 1072) (c := 1067) tg_1067 ln_1067 6 rfl ft_6_6 rf_1067_6 wd_92 dX6_length_28 ?_
  refine z_iload_n h dX6_length_31 rfl 1 rfl ?_
  obtain ⟨g5, hf⟩ := ck_out hf
  refine z_iald h (c := 1072) tg_1072 ln_1072 g5 dX6_length_32 ?_
  obtain ⟨g6, hf⟩ := ck_out hf
  refine z_iald h (c := 1069) tg_1069 ln_1069 g6 dX6_length_33 ?_
  refine z_iadd h dX6_length_34 ?_
  refine z_aload_n h dX6_length_35 rfl 0 rfl ?_
  refine z_gfR h zC6 (d := 1069) (c := 1067) tg_1067 ln_1067 2 rfl ft_6_2 rf_1067_2 wd_89 dX6_length_36 ?_
  refine z_aload_n h dX6_length_39 rfl 0 rfl ?_
  refine z_gfR h zC6 (d := 1071) (c := 1067) tg_1067 ln_1067 5 rfl ft_6_5 rf_1067_5 wd_91 dX6_length_40 ?_
  refine z_iload_n h dX6_length_43 rfl 1 rfl ?_
  obtain ⟨g7, hf⟩ := ck_out hf
  refine z_iald h (c := 1071) tg_1071 ln_1071 g7 dX6_length_44 ?_
  obtain ⟨g8, hf⟩ := ck_out hf
  refine z_iald h (c := 1069) tg_1069 ln_1069 g8 dX6_length_45 ?_
  refine z_isub h dX6_length_46 ?_
  exact z_iret h (rt_I hf hq) dX6_length_47
theorem dX6_ofBar_0 : decode cX6_ofBar 0 = .ok (.aload_n 0, 1) := by decide +kernel
theorem dX6_ofBar_1 : decode cX6_ofBar 1 = .ok (.iload_n 1, 1) := by decide +kernel
theorem dX6_ofBar_2 : decode cX6_ofBar 2 = .ok (.invokevirtual 151, 3) := by decide +kernel
theorem dX6_ofBar_5 : decode cX6_ofBar 5 = .ok (.ifCond .ne 5, 3) := by decide +kernel
theorem dX6_ofBar_8 : decode cX6_ofBar 8 = .ok (.iconst (-1), 1) := by decide +kernel
theorem dX6_ofBar_9 : decode cX6_ofBar 9 = .ok (.ireturn, 1) := by decide +kernel
theorem dX6_ofBar_10 : decode cX6_ofBar 10 = .ok (.iload_n 2, 1) := by decide +kernel
theorem dX6_ofBar_11 : decode cX6_ofBar 11 = .ok (.iconst 0, 1) := by decide +kernel
theorem dX6_ofBar_12 : decode cX6_ofBar 12 = .ok (.iconst 4, 1) := by decide +kernel
theorem dX6_ofBar_13 : decode cX6_ofBar 13 = .ok (.invokestatic 137, 3) := by decide +kernel
theorem dX6_ofBar_16 : decode cX6_ofBar 16 = .ok (.ifCond .ne 6, 3) := by decide +kernel
theorem dX6_ofBar_19 : decode cX6_ofBar 19 = .ok (.bipush (-2), 2) := by decide +kernel
theorem dX6_ofBar_21 : decode cX6_ofBar 21 = .ok (.ireturn, 1) := by decide +kernel
theorem dX6_ofBar_22 : decode cX6_ofBar 22 = .ok (.iload_n 2, 1) := by decide +kernel
theorem dX6_ofBar_23 : decode cX6_ofBar 23 = .ok (.ifCond .ne 12, 3) := by decide +kernel
theorem dX6_ofBar_26 : decode cX6_ofBar 26 = .ok (.aload_n 0, 1) := by decide +kernel
theorem dX6_ofBar_27 : decode cX6_ofBar 27 = .ok (.getfield 19, 3) := by decide +kernel
theorem dX6_ofBar_30 : decode cX6_ofBar 30 = .ok (.iload_n 1, 1) := by decide +kernel
theorem dX6_ofBar_31 : decode cX6_ofBar 31 = .ok (.iaload, 1) := by decide +kernel
theorem dX6_ofBar_32 : decode cX6_ofBar 32 = .ok (.goto 57, 3) := by decide +kernel
theorem dX6_ofBar_35 : decode cX6_ofBar 35 = .ok (.iload_n 2, 1) := by decide +kernel
theorem dX6_ofBar_36 : decode cX6_ofBar 36 = .ok (.iconst 1, 1) := by decide +kernel
theorem dX6_ofBar_37 : decode cX6_ofBar 37 = .ok (.if_icmp .ne 12, 3) := by decide +kernel
theorem dX6_ofBar_40 : decode cX6_ofBar 40 = .ok (.aload_n 0, 1) := by decide +kernel
theorem dX6_ofBar_41 : decode cX6_ofBar 41 = .ok (.getfield 22, 3) := by decide +kernel
theorem dX6_ofBar_44 : decode cX6_ofBar 44 = .ok (.iload_n 1, 1) := by decide +kernel
theorem dX6_ofBar_45 : decode cX6_ofBar 45 = .ok (.iaload, 1) := by decide +kernel
theorem dX6_ofBar_46 : decode cX6_ofBar 46 = .ok (.goto 43, 3) := by decide +kernel
theorem dX6_ofBar_49 : decode cX6_ofBar 49 = .ok (.iload_n 2, 1) := by decide +kernel
theorem dX6_ofBar_50 : decode cX6_ofBar 50 = .ok (.iconst 2, 1) := by decide +kernel
theorem dX6_ofBar_51 : decode cX6_ofBar 51 = .ok (.if_icmp .ne 11, 3) := by decide +kernel
theorem dX6_ofBar_54 : decode cX6_ofBar 54 = .ok (.aload_n 0, 1) := by decide +kernel
theorem dX6_ofBar_55 : decode cX6_ofBar 55 = .ok (.iload_n 1, 1) := by decide +kernel
theorem dX6_ofBar_56 : decode cX6_ofBar 56 = .ok (.invokevirtual 154, 3) := by decide +kernel
theorem dX6_ofBar_59 : decode cX6_ofBar 59 = .ok (.goto 30, 3) := by decide +kernel
theorem dX6_ofBar_62 : decode cX6_ofBar 62 = .ok (.iload_n 2, 1) := by decide +kernel
theorem dX6_ofBar_63 : decode cX6_ofBar 63 = .ok (.iconst 3, 1) := by decide +kernel
theorem dX6_ofBar_64 : decode cX6_ofBar 64 = .ok (.if_icmp .ne 19, 3) := by decide +kernel
theorem dX6_ofBar_67 : decode cX6_ofBar 67 = .ok (.aload_n 0, 1) := by decide +kernel
theorem dX6_ofBar_68 : decode cX6_ofBar 68 = .ok (.iload_n 1, 1) := by decide +kernel
theorem dX6_ofBar_69 : decode cX6_ofBar 69 = .ok (.invokevirtual 158, 3) := by decide +kernel
theorem dX6_ofBar_72 : decode cX6_ofBar 72 = .ok (.ifCond .eq 7, 3) := by decide +kernel
theorem dX6_ofBar_75 : decode cX6_ofBar 75 = .ok (.iconst 0, 1) := by decide +kernel
theorem dX6_ofBar_76 : decode cX6_ofBar 76 = .ok (.goto 13, 3) := by decide +kernel
theorem dX6_ofBar_79 : decode cX6_ofBar 79 = .ok (.iconst 1, 1) := by decide +kernel
theorem dX6_ofBar_80 : decode cX6_ofBar 80 = .ok (.goto 9, 3) := by decide +kernel
theorem dX6_ofBar_83 : decode cX6_ofBar 83 = .ok (.aload_n 0, 1) := by decide +kernel
theorem dX6_ofBar_84 : decode cX6_ofBar 84 = .ok (.getfield 25, 3) := by decide +kernel
theorem dX6_ofBar_87 : decode cX6_ofBar 87 = .ok (.iload_n 1, 1) := by decide +kernel
theorem dX6_ofBar_88 : decode cX6_ofBar 88 = .ok (.iaload, 1) := by decide +kernel
theorem dX6_ofBar_89 : decode cX6_ofBar 89 = .ok (.ireturn, 1) := by decide +kernel
abbrev rm_X6_ofBar : Room := { frames := 2, cells := 0, slots := 0, locals := 59 }
noncomputable def f_X6_ofBar (N : Nat) (x1 : Int32) (x2 : Int32) (σ : ZS) : Option (Int32 × ZS) := obd (f_X6_isBar N x1 σ) fun v1 σ2 => (if v1 = 0 then some ((-1 : Int32), σ2) else obd (f_X6_in N x2 (0 : Int32) (4 : Int32) σ2) fun v4 σ5 => (if v4 = 0 then some ((-2 : Int32), σ5) else (if x2 = 0 then ck (inb x1 6) (some (gI σ5 1071 (x1.toNatClampNeg), σ5)) else (if x2 = (1 : Int32) then ck (inb x1 6) (some (gI σ5 1072 (x1.toNatClampNeg), σ5)) else (if x2 = (2 : Int32) then obd (f_X6_length N x1 σ5) fun v15 σ16 => some (v15, σ16) else (if x2 = (3 : Int32) then obd (f_X6_lies N x1 σ5) fun v12 σ13 => (if v12 = 0 then some ((1 : Int32), σ13) else some ((0 : Int32), σ13)) else ck (inb x1 6) (some (gI σ5 1073 (x1.toNatClampNeg), σ5))))))))
set_option maxHeartbeats 4000000 in
set_option maxRecDepth 100000 in
theorem c_X6_ofBar (l : Launch) (G : ZG) {N : Nat} {x1 : Int32} {x2 : Int32} {σ σ' : ZS} {r : Int32} (hf : f_X6_ofBar N x1 x2 σ = some (r, σ')) : zMet l G yX6_ofBar cX6_ofBar 3 (some .int) rm_X6_ofBar [.ref (G.1 1067), .int x1, .int x2] σ (some (.int r)) σ' := by
  refine z_met (by decide +kernel) rfl (fun Y h hq => ?_)
  have h : zOk (l, rm_X6_ofBar, 3, 0, 0) Y G cX6_ofBar RX6 (some .int) := h
  rw [f_X6_ofBar] at hf
  refine z_sub (lv' := [(0, .ref (G.1 1067)), (1, .int x1), (2, .int x2)]) [0, 1, 2] rfl ?_
  refine z_aload_n h dX6_ofBar_0 rfl 0 rfl ?_
  refine z_iload_n h dX6_ofBar_1 rfl 1 rfl ?_
  obtain ⟨v1, σ2, e2, hf⟩ := obd_out hf
  refine z_cVv h (n := 1) (c_X6_isBar l G e2) zC6 tg_1067 ln_1067 rfl rfl wd_217 wd_218 wd_219 wd_5 wd_220 (by decide +kernel) ⟨rfl, rfl⟩ rfl rfl rfl dX6_ofBar_2 ⟨Nat.zero_le _, Nat.zero_le _⟩ ?_
  refine z_if_ne h (tgt := 10) dX6_ofBar_5 (by decide) (fun g3 => ?_) (fun g3 => ?_)
  · have hf := it_neg g3 hf
    refine z_iload_n h dX6_ofBar_10 rfl 2 rfl ?_
    refine z_iconst h (v := (0 : Int32)) dX6_ofBar_11 ic_0 ?_
    refine z_iconst h (v := (4 : Int32)) dX6_ofBar_12 ic_4 ?_
    obtain ⟨v4, σ5, e5, hf⟩ := obd_out hf
    refine z_cSv h (n := 3) (c_X6_in l G e5) rfl wd_156 wd_157 wd_5 wd_158 (by decide +kernel) ⟨rfl, rfl⟩ rfl rfl rfl dX6_ofBar_13 ⟨Nat.zero_le _, Nat.zero_le _⟩ ?_
    refine z_if_ne h (tgt := 22) dX6_ofBar_16 (by decide) (fun g6 => ?_) (fun g6 => ?_)
    · have hf := it_neg g6 hf
      refine z_iload_n h dX6_ofBar_22 rfl 2 rfl ?_
      refine z_if_ne h (tgt := 35) dX6_ofBar_23 (by decide) (fun g7 => ?_) (fun g7 => ?_)
      · have hf := it_neg g7 hf
        refine z_iload_n h dX6_ofBar_35 rfl 2 rfl ?_
        refine z_iconst h (v := (1 : Int32)) dX6_ofBar_36 ic_1 ?_
        refine z_icmp_ne h (tgt := 49) dX6_ofBar_37 (by decide) (fun g8 => ?_) (fun g8 => ?_)
        · have hf := it_neg g8 hf
          refine z_iload_n h dX6_ofBar_49 rfl 2 rfl ?_
          refine z_iconst h (v := (2 : Int32)) dX6_ofBar_50 ic_2 ?_
          refine z_icmp_ne h (tgt := 62) dX6_ofBar_51 (by decide) (fun g9 => ?_) (fun g9 => ?_)
          · have hf := it_neg g9 hf
            refine z_iload_n h dX6_ofBar_62 rfl 2 rfl ?_
            refine z_iconst h (v := (3 : Int32)) dX6_ofBar_63 ic_3 ?_
            refine z_icmp_ne h (tgt := 83) dX6_ofBar_64 (by decide) (fun g10 => ?_) (fun g10 => ?_)
            · have hf := it_neg g10 hf
              refine z_aload_n h dX6_ofBar_83 rfl 0 rfl ?_
              refine z_gfR h zC6 (d := 1073) (c := 1067) tg_1067 ln_1067 7 rfl ft_6_7 rf_1067_7 wd_93 dX6_ofBar_84 ?_
              refine z_iload_n h dX6_ofBar_87 rfl 1 rfl ?_
              obtain ⟨g11, hf⟩ := ck_out hf
              refine z_iald h (c := 1073) tg_1073 ln_1073 g11 dX6_ofBar_88 ?_
              exact z_iret h (rt_I hf hq) dX6_ofBar_89
            · have hf := it_pos g10 hf
              refine z_aload_n h dX6_ofBar_67 rfl 0 rfl ?_
              refine z_iload_n h dX6_ofBar_68 rfl 1 rfl ?_
              obtain ⟨v12, σ13, e13, hf⟩ := obd_out hf
              refine z_cVv h (n := 1) (c_X6_lies l G e13) zC6 tg_1067 ln_1067 rfl rfl wd_269 wd_270 wd_271 wd_5 wd_272 (by decide +kernel) ⟨rfl, rfl⟩ rfl rfl rfl dX6_ofBar_69 ⟨Nat.zero_le _, Nat.zero_le _⟩ ?_
              refine z_if_eq h (tgt := 79) dX6_ofBar_72 (by decide) (fun g14 => ?_) (fun g14 => ?_)
              · have hf := it_pos g14 hf
                refine z_iconst h (v := (1 : Int32)) dX6_ofBar_79 ic_1 ?_
                refine z_goto h (tgt := 89) dX6_ofBar_80 (by decide) ?_
                exact z_iret h (rt_I hf hq) dX6_ofBar_89
              · have hf := it_neg g14 hf
                refine z_iconst h (v := (0 : Int32)) dX6_ofBar_75 ic_0 ?_
                refine z_goto h (tgt := 89) dX6_ofBar_76 (by decide) ?_
                exact z_iret h (rt_I hf hq) dX6_ofBar_89
          · have hf := it_pos g9 hf
            refine z_aload_n h dX6_ofBar_54 rfl 0 rfl ?_
            refine z_iload_n h dX6_ofBar_55 rfl 1 rfl ?_
            obtain ⟨v15, σ16, e16, hf⟩ := obd_out hf
            refine z_cVv h (n := 1) (c_X6_length l G e16) zC6 tg_1067 ln_1067 rfl rfl wd_265 wd_266 wd_267 wd_5 wd_268 (by decide +kernel) ⟨rfl, rfl⟩ rfl rfl rfl dX6_ofBar_56 ⟨Nat.zero_le _, Nat.zero_le _⟩ ?_
            refine z_goto h (tgt := 89) dX6_ofBar_59 (by decide) ?_
            exact z_iret h (rt_I hf hq) dX6_ofBar_89
        · have hf := it_pos g8 hf
          refine z_aload_n h dX6_ofBar_40 rfl 0 rfl ?_
          refine z_gfR h zC6 (d := 1072) (c := 1067) tg_1067 ln_1067 6 rfl ft_6_6 rf_1067_6 wd_92 dX6_ofBar_41 ?_
          refine z_iload_n h dX6_ofBar_44 rfl 1 rfl ?_
          obtain ⟨g17, hf⟩ := ck_out hf
          refine z_iald h (c := 1072) tg_1072 ln_1072 g17 dX6_ofBar_45 ?_
          refine z_goto h (tgt := 89) dX6_ofBar_46 (by decide) ?_
          exact z_iret h (rt_I hf hq) dX6_ofBar_89
      · have hf := it_pos g7 hf
        refine z_aload_n h dX6_ofBar_26 rfl 0 rfl ?_
        refine z_gfR h zC6 (d := 1071) (c := 1067) tg_1067 ln_1067 5 rfl ft_6_5 rf_1067_5 wd_91 dX6_ofBar_27 ?_
        refine z_iload_n h dX6_ofBar_30 rfl 1 rfl ?_
        obtain ⟨g18, hf⟩ := ck_out hf
        refine z_iald h (c := 1071) tg_1071 ln_1071 g18 dX6_ofBar_31 ?_
        refine z_goto h (tgt := 89) dX6_ofBar_32 (by decide) ?_
        exact z_iret h (rt_I hf hq) dX6_ofBar_89
    · have hf := it_pos g6 hf
      refine z_bipush h (v := (-2 : Int32)) dX6_ofBar_19 bp_m2 ?_
      exact z_iret h (rt_I hf hq) dX6_ofBar_21
  · have hf := it_pos g3 hf
    refine z_iconst h (v := (-1 : Int32)) dX6_ofBar_8 ic_m1 ?_
    exact z_iret h (rt_I hf hq) dX6_ofBar_9
theorem dX6_join_0 : decode cX6_join 0 = .ok (.iconst 0, 1) := by decide +kernel
theorem dX6_join_1 : decode cX6_join 1 = .ok (.istore_n 2, 1) := by decide +kernel
theorem dX6_join_2 : decode cX6_join 2 = .ok (.iload_n 2, 1) := by decide +kernel
theorem dX6_join_3 : decode cX6_join 3 = .ok (.aload_n 0, 1) := by decide +kernel
theorem dX6_join_4 : decode cX6_join 4 = .ok (.getfield 134, 3) := by decide +kernel
theorem dX6_join_7 : decode cX6_join 7 = .ok (.if_icmp .ge 21, 3) := by decide +kernel
theorem dX6_join_10 : decode cX6_join 10 = .ok (.aload_n 0, 1) := by decide +kernel
theorem dX6_join_11 : decode cX6_join 11 = .ok (.getfield 35, 3) := by decide +kernel
theorem dX6_join_14 : decode cX6_join 14 = .ok (.bipush 7, 2) := by decide +kernel
theorem dX6_join_16 : decode cX6_join 16 = .ok (.iload_n 1, 1) := by decide +kernel
theorem dX6_join_17 : decode cX6_join 17 = .ok (.imul, 1) := by decide +kernel
theorem dX6_join_18 : decode cX6_join 18 = .ok (.iload_n 2, 1) := by decide +kernel
theorem dX6_join_19 : decode cX6_join 19 = .ok (.iadd, 1) := by decide +kernel
theorem dX6_join_20 : decode cX6_join 20 = .ok (.iload_n 2, 1) := by decide +kernel
theorem dX6_join_21 : decode cX6_join 21 = .ok (.iastore, 1) := by decide +kernel
theorem dX6_join_22 : decode cX6_join 22 = .ok (.iinc 2 1, 3) := by decide +kernel
theorem dX6_join_25 : decode cX6_join 25 = .ok (.goto (-23), 3) := by decide +kernel
theorem dX6_join_28 : decode cX6_join 28 = .ok (.iconst 0, 1) := by decide +kernel
theorem dX6_join_29 : decode cX6_join 29 = .ok (.istore_n 2, 1) := by decide +kernel
theorem dX6_join_30 : decode cX6_join 30 = .ok (.iload_n 2, 1) := by decide +kernel
theorem dX6_join_31 : decode cX6_join 31 = .ok (.aload_n 0, 1) := by decide +kernel
theorem dX6_join_32 : decode cX6_join 32 = .ok (.getfield 141, 3) := by decide +kernel
theorem dX6_join_35 : decode cX6_join 35 = .ok (.if_icmp .ge 130, 3) := by decide +kernel
theorem dX6_join_38 : decode cX6_join 38 = .ok (.iconst 0, 1) := by decide +kernel
theorem dX6_join_39 : decode cX6_join 39 = .ok (.istore_n 3, 1) := by decide +kernel
theorem dX6_join_40 : decode cX6_join 40 = .ok (.iload_n 3, 1) := by decide +kernel
theorem dX6_join_41 : decode cX6_join 41 = .ok (.aload_n 0, 1) := by decide +kernel
theorem dX6_join_42 : decode cX6_join 42 = .ok (.getfield 141, 3) := by decide +kernel
theorem dX6_join_45 : decode cX6_join 45 = .ok (.if_icmp .ge 114, 3) := by decide +kernel
theorem dX6_join_48 : decode cX6_join 48 = .ok (.aload_n 0, 1) := by decide +kernel
theorem dX6_join_49 : decode cX6_join 49 = .ok (.iload_n 3, 1) := by decide +kernel
theorem dX6_join_50 : decode cX6_join 50 = .ok (.invokevirtual 158, 3) := by decide +kernel
theorem dX6_join_53 : decode cX6_join 53 = .ok (.iload_n 1, 1) := by decide +kernel
theorem dX6_join_54 : decode cX6_join 54 = .ok (.ifCond .ne 7, 3) := by decide +kernel
theorem dX6_join_57 : decode cX6_join 57 = .ok (.iconst 1, 1) := by decide +kernel
theorem dX6_join_58 : decode cX6_join 58 = .ok (.goto 4, 3) := by decide +kernel
theorem dX6_join_61 : decode cX6_join 61 = .ok (.iconst 0, 1) := by decide +kernel
theorem dX6_join_62 : decode cX6_join 62 = .ok (.if_icmp .ne 91, 3) := by decide +kernel
theorem dX6_join_65 : decode cX6_join 65 = .ok (.aload_n 0, 1) := by decide +kernel
theorem dX6_join_66 : decode cX6_join 66 = .ok (.getfield 35, 3) := by decide +kernel
theorem dX6_join_69 : decode cX6_join 69 = .ok (.bipush 7, 2) := by decide +kernel
theorem dX6_join_71 : decode cX6_join 71 = .ok (.iload_n 1, 1) := by decide +kernel
theorem dX6_join_72 : decode cX6_join 72 = .ok (.imul, 1) := by decide +kernel
theorem dX6_join_73 : decode cX6_join 73 = .ok (.aload_n 0, 1) := by decide +kernel
theorem dX6_join_74 : decode cX6_join 74 = .ok (.getfield 19, 3) := by decide +kernel
theorem dX6_join_77 : decode cX6_join 77 = .ok (.iload_n 3, 1) := by decide +kernel
theorem dX6_join_78 : decode cX6_join 78 = .ok (.iaload, 1) := by decide +kernel
theorem dX6_join_79 : decode cX6_join 79 = .ok (.iadd, 1) := by decide +kernel
theorem dX6_join_80 : decode cX6_join 80 = .ok (.iaload, 1) := by decide +kernel
theorem dX6_join_81 : decode cX6_join 81 = .ok (.istore 4, 2) := by decide +kernel
theorem dX6_join_83 : decode cX6_join 83 = .ok (.aload_n 0, 1) := by decide +kernel
theorem dX6_join_84 : decode cX6_join 84 = .ok (.getfield 35, 3) := by decide +kernel
theorem dX6_join_87 : decode cX6_join 87 = .ok (.bipush 7, 2) := by decide +kernel
theorem dX6_join_89 : decode cX6_join 89 = .ok (.iload_n 1, 1) := by decide +kernel
theorem dX6_join_90 : decode cX6_join 90 = .ok (.imul, 1) := by decide +kernel
theorem dX6_join_91 : decode cX6_join 91 = .ok (.aload_n 0, 1) := by decide +kernel
theorem dX6_join_92 : decode cX6_join 92 = .ok (.getfield 22, 3) := by decide +kernel
theorem dX6_join_95 : decode cX6_join 95 = .ok (.iload_n 3, 1) := by decide +kernel
theorem dX6_join_96 : decode cX6_join 96 = .ok (.iaload, 1) := by decide +kernel
theorem dX6_join_97 : decode cX6_join 97 = .ok (.iadd, 1) := by decide +kernel
theorem dX6_join_98 : decode cX6_join 98 = .ok (.iaload, 1) := by decide +kernel
theorem dX6_join_99 : decode cX6_join 99 = .ok (.istore 5, 2) := by decide +kernel
theorem dX6_join_101 : decode cX6_join 101 = .ok (.iload 4, 2) := by decide +kernel
theorem dX6_join_103 : decode cX6_join 103 = .ok (.iload 5, 2) := by decide +kernel
theorem dX6_join_105 : decode cX6_join 105 = .ok (.if_icmp .ge 8, 3) := by decide +kernel
theorem dX6_join_108 : decode cX6_join 108 = .ok (.iload 4, 2) := by decide +kernel
theorem dX6_join_110 : decode cX6_join 110 = .ok (.goto 5, 3) := by decide +kernel
theorem dX6_join_113 : decode cX6_join 113 = .ok (.iload 5, 2) := by decide +kernel
theorem dX6_join_115 : decode cX6_join 115 = .ok (.istore 6, 2) := by decide +kernel
theorem dX6_join_117 : decode cX6_join 117 = .ok (.aload_n 0, 1) := by decide +kernel
theorem dX6_join_118 : decode cX6_join 118 = .ok (.getfield 35, 3) := by decide +kernel
theorem dX6_join_121 : decode cX6_join 121 = .ok (.bipush 7, 2) := by decide +kernel
theorem dX6_join_123 : decode cX6_join 123 = .ok (.iload_n 1, 1) := by decide +kernel
theorem dX6_join_124 : decode cX6_join 124 = .ok (.imul, 1) := by decide +kernel
theorem dX6_join_125 : decode cX6_join 125 = .ok (.aload_n 0, 1) := by decide +kernel
theorem dX6_join_126 : decode cX6_join 126 = .ok (.getfield 19, 3) := by decide +kernel
theorem dX6_join_129 : decode cX6_join 129 = .ok (.iload_n 3, 1) := by decide +kernel
theorem dX6_join_130 : decode cX6_join 130 = .ok (.iaload, 1) := by decide +kernel
theorem dX6_join_131 : decode cX6_join 131 = .ok (.iadd, 1) := by decide +kernel
theorem dX6_join_132 : decode cX6_join 132 = .ok (.iload 6, 2) := by decide +kernel
theorem dX6_join_134 : decode cX6_join 134 = .ok (.iastore, 1) := by decide +kernel
theorem dX6_join_135 : decode cX6_join 135 = .ok (.aload_n 0, 1) := by decide +kernel
theorem dX6_join_136 : decode cX6_join 136 = .ok (.getfield 35, 3) := by decide +kernel
theorem dX6_join_139 : decode cX6_join 139 = .ok (.bipush 7, 2) := by decide +kernel
theorem dX6_join_141 : decode cX6_join 141 = .ok (.iload_n 1, 1) := by decide +kernel
theorem dX6_join_142 : decode cX6_join 142 = .ok (.imul, 1) := by decide +kernel
theorem dX6_join_143 : decode cX6_join 143 = .ok (.aload_n 0, 1) := by decide +kernel
theorem dX6_join_144 : decode cX6_join 144 = .ok (.getfield 22, 3) := by decide +kernel
theorem dX6_join_147 : decode cX6_join 147 = .ok (.iload_n 3, 1) := by decide +kernel
theorem dX6_join_148 : decode cX6_join 148 = .ok (.iaload, 1) := by decide +kernel
theorem dX6_join_149 : decode cX6_join 149 = .ok (.iadd, 1) := by decide +kernel
theorem dX6_join_150 : decode cX6_join 150 = .ok (.iload 6, 2) := by decide +kernel
theorem dX6_join_152 : decode cX6_join 152 = .ok (.iastore, 1) := by decide +kernel
theorem dX6_join_153 : decode cX6_join 153 = .ok (.iinc 3 1, 3) := by decide +kernel
theorem dX6_join_156 : decode cX6_join 156 = .ok (.goto (-116), 3) := by decide +kernel
theorem dX6_join_159 : decode cX6_join 159 = .ok (.iinc 2 1, 3) := by decide +kernel
theorem dX6_join_162 : decode cX6_join 162 = .ok (.goto (-132), 3) := by decide +kernel
theorem dX6_join_165 : decode cX6_join 165 = .ok (.return_, 1) := by decide +kernel
abbrev rm_X6_join : Room := { frames := 1, cells := 0, slots := 0, locals := 29 }
noncomputable def f_X6_join_b153 (N : Nat) (kb40 : Int32 → ZS → Option (Unit × ZS)) (x1 : Int32) (x2 : Int32) (x3 : Int32) (σ : ZS) : Option (Unit × ZS) := bd (x3 + (1 : Int32)) fun v9 => kb40 v9 σ
noncomputable def f_X6_join_b115 (N : Nat) (kb40 : Int32 → ZS → Option (Unit × ZS)) (x1 : Int32) (x2 : Int32) (x3 : Int32) (s0 : Int32) (σ : ZS) : Option (Unit × ZS) := ck (inb x3 6) (ck (inb (((7 : Int32) * x1) + (gI σ 1071 (x3.toNatClampNeg))) 14) (bd (sI σ 1075 ((((7 : Int32) * x1) + (gI σ 1071 (x3.toNatClampNeg))).toNatClampNeg) s0) fun σ19 => ck (inb x3 6) (ck (inb (((7 : Int32) * x1) + (gI σ19 1072 (x3.toNatClampNeg))) 14) (bd (sI σ19 1075 ((((7 : Int32) * x1) + (gI σ19 1072 (x3.toNatClampNeg))).toNatClampNeg) s0) fun σ22 => f_X6_join_b153 N kb40 x1 x2 x3 σ22))))
noncomputable def f_X6_join_b62 (N : Nat) (kb40 : Int32 → ZS → Option (Unit × ZS)) (x1 : Int32) (x2 : Int32) (x3 : Int32) (s0 : Int32) (s1 : Int32) (σ : ZS) : Option (Unit × ZS) := (if s0 = s1 then ck (inb x3 6) (ck (inb (((7 : Int32) * x1) + (gI σ 1071 (x3.toNatClampNeg))) 14) (bd (gI σ 1075 ((((7 : Int32) * x1) + (gI σ 1071 (x3.toNatClampNeg))).toNatClampNeg)) fun v12 => ck (inb x3 6) (ck (inb (((7 : Int32) * x1) + (gI σ 1072 (x3.toNatClampNeg))) 14) (bd (gI σ 1075 ((((7 : Int32) * x1) + (gI σ 1072 (x3.toNatClampNeg))).toNatClampNeg)) fun v15 => (if v15 ≤ v12 then f_X6_join_b115 N kb40 x1 x2 x3 v15 σ else f_X6_join_b115 N kb40 x1 x2 x3 v12 σ))))) else f_X6_join_b153 N kb40 x1 x2 x3 σ)
noncomputable def f_X6_join_h40 (N : Nat) (kb30 : Int32 → ZS → Option (Unit × ZS)) (x1 : Int32) (x2 : Int32) : Nat → Int32 → ZS → Option (Unit × ZS)
  | 0, _, _ => none
  | n + 1, x3, σ => (if (gI σ 1067 4) ≤ x3 then bd (x2 + (1 : Int32)) fun v4 => kb30 v4 σ else obd (f_X6_lies N x3 σ) fun v5 σ6 => (if x1 = 0 then f_X6_join_b62 N (fun x3_ σ_ => f_X6_join_h40 N kb30 x1 x2 n x3_ σ_) x1 x2 x3 v5 (1 : Int32) σ6 else f_X6_join_b62 N (fun x3_ σ_ => f_X6_join_h40 N kb30 x1 x2 n x3_ σ_) x1 x2 x3 v5 (0 : Int32) σ6))
noncomputable def f_X6_join_h30 (N : Nat) (x1 : Int32) : Nat → Int32 → ZS → Option (Unit × ZS)
  | 0, _, _ => none
  | n + 1, x2, σ => (if (gI σ 1067 4) ≤ x2 then some ((), σ) else f_X6_join_h40 N (fun x2_ σ_ => f_X6_join_h30 N x1 n x2_ σ_) x1 x2 N (0 : Int32) σ)
noncomputable def f_X6_join_h2 (N : Nat) (x1 : Int32) : Nat → Int32 → ZS → Option (Unit × ZS)
  | 0, _, _ => none
  | n + 1, x2, σ => (if (gI σ 1067 0) ≤ x2 then f_X6_join_h30 N x1 N (0 : Int32) σ else ck (inb (((7 : Int32) * x1) + x2) 14) (bd (sI σ 1075 ((((7 : Int32) * x1) + x2).toNatClampNeg) x2) fun σ24 => bd (x2 + (1 : Int32)) fun v25 => f_X6_join_h2 N x1 n v25 σ24))
noncomputable def f_X6_join (N : Nat) (x1 : Int32) (σ : ZS) : Option (Unit × ZS) := f_X6_join_h2 N x1 N (0 : Int32) σ
set_option maxHeartbeats 4000000 in
set_option maxRecDepth 100000 in
theorem k_X6_join_b153 {l : Launch} {Y : ZY} {G : ZG} {σ' : ZS} (h : zOk (l, rm_X6_join, 7, 0, 0) Y G cX6_join RX6 none) (hq : zRet (l, rm_X6_join, 7, 0, 0) Y G none σ') (N : Nat) {kb40 : Int32 → ZS → Option (Unit × ZS)} (x1 : Int32) (x2 : Int32) (x3 : Int32) (hb40 : ∀ (x3_ : Int32) (σ_ : ZS), kb40 x3_ σ_ = some ((), σ') → Z (l, rm_X6_join, 7, 0, 0) Y G σ_ [(0, .ref (G.1 1067)), (1, .int x1), (2, .int x2), (3, .int x3_)] [] 40) (σ : ZS) (hf : f_X6_join_b153 N kb40 x1 x2 x3 σ = some ((), σ')) : Z (l, rm_X6_join, 7, 0, 0) Y G σ [(0, .ref (G.1 1067)), (1, .int x1), (2, .int x2), (3, .int x3)] [] 153 := by
  rw [f_X6_join_b153] at hf
  obtain ⟨v9, ev9, hf⟩ := bd_ex hf
  refine z_iinc h (v := v9) (lv' := [(3, .int v9), (0, .ref (G.1 1067)), (1, .int x1), (2, .int x2)]) dX6_join_153 3 rfl (by rw [ev9]; rfl) rfl rfl ?_
  refine z_goto h (tgt := 40) dX6_join_156 (by decide) ?_
  exact z_sub [1, 2, 3, 0] rfl (hb40 _ _ hf)
set_option maxHeartbeats 4000000 in
set_option maxRecDepth 100000 in
theorem k_X6_join_b115 {l : Launch} {Y : ZY} {G : ZG} {σ' : ZS} (h : zOk (l, rm_X6_join, 7, 0, 0) Y G cX6_join RX6 none) (hq : zRet (l, rm_X6_join, 7, 0, 0) Y G none σ') (N : Nat) {kb40 : Int32 → ZS → Option (Unit × ZS)} (x1 : Int32) (x2 : Int32) (x3 : Int32) (s0 : Int32) (hb40 : ∀ (x3_ : Int32) (σ_ : ZS), kb40 x3_ σ_ = some ((), σ') → Z (l, rm_X6_join, 7, 0, 0) Y G σ_ [(0, .ref (G.1 1067)), (1, .int x1), (2, .int x2), (3, .int x3_)] [] 40) (σ : ZS) (hf : f_X6_join_b115 N kb40 x1 x2 x3 s0 σ = some ((), σ')) : Z (l, rm_X6_join, 7, 0, 0) Y G σ [(0, .ref (G.1 1067)), (1, .int x1), (2, .int x2), (3, .int x3)] [.int s0] 115 := by
  rw [f_X6_join_b115] at hf
  refine z_istore h dX6_join_115 (lv' := [(6, .int s0), (0, .ref (G.1 1067)), (1, .int x1), (2, .int x2), (3, .int x3)]) rfl rfl ?_
  refine z_aload_n h dX6_join_117 rfl 1 rfl ?_
  refine z_gfR h zC6 (d := 1075) (c := 1067) tg_1067 ln_1067 12 rfl ft_6_12 rf_1067_12 wd_96 dX6_join_118 ?_
  refine z_bipush h (v := (7 : Int32)) dX6_join_121 bp_7 ?_
  refine z_iload_n h dX6_join_123 rfl 2 rfl ?_
  refine z_imul h dX6_join_124 ?_
  refine z_aload_n h dX6_join_125 rfl 1 rfl ?_
  refine z_gfR h zC6 (d := 1071) (c := 1067) tg_1067 ln_1067 5 rfl ft_6_5 rf_1067_5 wd_91 dX6_join_126 ?_
  refine z_iload_n h dX6_join_129 rfl 4 rfl ?_
  obtain ⟨g17, hf⟩ := ck_out hf
  refine z_iald h (c := 1071) tg_1071 ln_1071 g17 dX6_join_130 ?_
  refine z_iadd h dX6_join_131 ?_
  refine z_iload h dX6_join_132 0 rfl ?_
  obtain ⟨g18, hf⟩ := ck_out hf
  refine z_iast h (c := 1075) tg_1075 ln_1075 g18 dX6_join_134 ?_
  refine z_gen (fun σ19 eσ19 => ?_)
  have hf := bd_to eσ19 hf
  refine z_aload_n h dX6_join_135 rfl 1 rfl ?_
  refine z_gfR h zC6 (d := 1075) (c := 1067) tg_1067 ln_1067 12 rfl ft_6_12 rf_1067_12 wd_96 dX6_join_136 ?_
  refine z_bipush h (v := (7 : Int32)) dX6_join_139 bp_7 ?_
  refine z_iload_n h dX6_join_141 rfl 2 rfl ?_
  refine z_imul h dX6_join_142 ?_
  refine z_aload_n h dX6_join_143 rfl 1 rfl ?_
  refine z_gfR h zC6 (d := 1072) (c := 1067) tg_1067 ln_1067 6 rfl ft_6_6 rf_1067_6 wd_92 dX6_join_144 ?_
  refine z_iload_n h dX6_join_147 rfl 4 rfl ?_
  obtain ⟨g20, hf⟩ := ck_out hf
  refine z_iald h (c := 1072) tg_1072 ln_1072 g20 dX6_join_148 ?_
  refine z_iadd h dX6_join_149 ?_
  refine z_iload h dX6_join_150 0 rfl ?_
  obtain ⟨g21, hf⟩ := ck_out hf
  refine z_iast h (c := 1075) tg_1075 ln_1075 g21 dX6_join_152 ?_
  refine z_gen (fun σ22 eσ22 => ?_)
  have hf := bd_to eσ22 hf
  exact z_sub [1, 2, 3, 4] rfl (k_X6_join_b153 h hq N x1 x2 x3 hb40 _ hf)
set_option maxHeartbeats 4000000 in
set_option maxRecDepth 100000 in
theorem k_X6_join_b62 {l : Launch} {Y : ZY} {G : ZG} {σ' : ZS} (h : zOk (l, rm_X6_join, 7, 0, 0) Y G cX6_join RX6 none) (hq : zRet (l, rm_X6_join, 7, 0, 0) Y G none σ') (N : Nat) {kb40 : Int32 → ZS → Option (Unit × ZS)} (x1 : Int32) (x2 : Int32) (x3 : Int32) (s0 : Int32) (s1 : Int32) (hb40 : ∀ (x3_ : Int32) (σ_ : ZS), kb40 x3_ σ_ = some ((), σ') → Z (l, rm_X6_join, 7, 0, 0) Y G σ_ [(0, .ref (G.1 1067)), (1, .int x1), (2, .int x2), (3, .int x3_)] [] 40) (σ : ZS) (hf : f_X6_join_b62 N kb40 x1 x2 x3 s0 s1 σ = some ((), σ')) : Z (l, rm_X6_join, 7, 0, 0) Y G σ [(0, .ref (G.1 1067)), (1, .int x1), (2, .int x2), (3, .int x3)] [.int s1, .int s0] 62 := by
  rw [f_X6_join_b62] at hf
  refine z_icmp_ne h (tgt := 153) dX6_join_62 (by decide) (fun g8 => ?_) (fun g8 => ?_)
  · have hf := it_neg g8 hf
    exact z_sub [0, 1, 2, 3] rfl (k_X6_join_b153 h hq N x1 x2 x3 hb40 _ hf)
  · have hf := it_pos g8 hf
    refine z_aload_n h dX6_join_65 rfl 0 rfl ?_
    refine z_gfR h zC6 (d := 1075) (c := 1067) tg_1067 ln_1067 12 rfl ft_6_12 rf_1067_12 wd_96 dX6_join_66 ?_
    refine z_bipush h (v := (7 : Int32)) dX6_join_69 bp_7 ?_
    refine z_iload_n h dX6_join_71 rfl 1 rfl ?_
    refine z_imul h dX6_join_72 ?_
    refine z_aload_n h dX6_join_73 rfl 0 rfl ?_
    refine z_gfR h zC6 (d := 1071) (c := 1067) tg_1067 ln_1067 5 rfl ft_6_5 rf_1067_5 wd_91 dX6_join_74 ?_
    refine z_iload_n h dX6_join_77 rfl 3 rfl ?_
    obtain ⟨g10, hf⟩ := ck_out hf
    refine z_iald h (c := 1071) tg_1071 ln_1071 g10 dX6_join_78 ?_
    refine z_iadd h dX6_join_79 ?_
    obtain ⟨g11, hf⟩ := ck_out hf
    refine z_iald h (c := 1075) tg_1075 ln_1075 g11 dX6_join_80 ?_
    refine z_topI (fun v12 ev12 => ?_)
    have hf := bd_to ev12 hf
    refine z_istore h dX6_join_81 (lv' := [(4, .int v12), (0, .ref (G.1 1067)), (1, .int x1), (2, .int x2), (3, .int x3)]) rfl rfl ?_
    refine z_aload_n h dX6_join_83 rfl 1 rfl ?_
    refine z_gfR h zC6 (d := 1075) (c := 1067) tg_1067 ln_1067 12 rfl ft_6_12 rf_1067_12 wd_96 dX6_join_84 ?_
    refine z_bipush h (v := (7 : Int32)) dX6_join_87 bp_7 ?_
    refine z_iload_n h dX6_join_89 rfl 2 rfl ?_
    refine z_imul h dX6_join_90 ?_
    refine z_aload_n h dX6_join_91 rfl 1 rfl ?_
    refine z_gfR h zC6 (d := 1072) (c := 1067) tg_1067 ln_1067 6 rfl ft_6_6 rf_1067_6 wd_92 dX6_join_92 ?_
    refine z_iload_n h dX6_join_95 rfl 4 rfl ?_
    obtain ⟨g13, hf⟩ := ck_out hf
    refine z_iald h (c := 1072) tg_1072 ln_1072 g13 dX6_join_96 ?_
    refine z_iadd h dX6_join_97 ?_
    obtain ⟨g14, hf⟩ := ck_out hf
    refine z_iald h (c := 1075) tg_1075 ln_1075 g14 dX6_join_98 ?_
    refine z_topI (fun v15 ev15 => ?_)
    have hf := bd_to ev15 hf
    refine z_istore h dX6_join_99 (lv' := [(5, .int v15), (4, .int v12), (0, .ref (G.1 1067)), (1, .int x1), (2, .int x2), (3, .int x3)]) rfl rfl ?_
    refine z_iload h dX6_join_101 1 rfl ?_
    refine z_iload h dX6_join_103 0 rfl ?_
    refine z_icmp_ge h (tgt := 113) dX6_join_105 (by decide) (fun g16 => ?_) (fun g16 => ?_)
    · have hf := it_pos g16 hf
      refine z_iload h dX6_join_113 0 rfl ?_
      exact z_sub [2, 3, 4, 5] rfl (k_X6_join_b115 h hq N x1 x2 x3 v15 hb40 _ hf)
    · have hf := it_neg g16 hf
      refine z_iload h dX6_join_108 1 rfl ?_
      refine z_goto h (tgt := 115) dX6_join_110 (by decide) ?_
      exact z_sub [2, 3, 4, 5] rfl (k_X6_join_b115 h hq N x1 x2 x3 v12 hb40 _ hf)
set_option maxHeartbeats 4000000 in
set_option maxRecDepth 100000 in
theorem k_X6_join_h40 {l : Launch} {Y : ZY} {G : ZG} {σ' : ZS} (h : zOk (l, rm_X6_join, 7, 0, 0) Y G cX6_join RX6 none) (hq : zRet (l, rm_X6_join, 7, 0, 0) Y G none σ') (N : Nat) {kb30 : Int32 → ZS → Option (Unit × ZS)} (x1 : Int32) (x2 : Int32) (hb30 : ∀ (x2_ : Int32) (σ_ : ZS), kb30 x2_ σ_ = some ((), σ') → Z (l, rm_X6_join, 7, 0, 0) Y G σ_ [(0, .ref (G.1 1067)), (1, .int x1), (2, .int x2_)] [] 30) : ∀ (n : Nat) (x3 : Int32) (σ : ZS), f_X6_join_h40 N kb30 x1 x2 n x3 σ = some ((), σ') → Z (l, rm_X6_join, 7, 0, 0) Y G σ [(0, .ref (G.1 1067)), (1, .int x1), (2, .int x2), (3, .int x3)] [] 40 := by
  intro n
  induction n with
  | zero =>
    intro x3 σ hf
    rw [f_X6_join_h40] at hf
    cases hf
  | succ n ih =>
    intro x3 σ hf
    rw [f_X6_join_h40] at hf
    refine z_iload_n h dX6_join_40 rfl 3 rfl ?_
    refine z_aload_n h dX6_join_41 rfl 0 rfl ?_
    refine z_gfI h zC6 (c := 1067) tg_1067 ln_1067 4 rfl ft_6_4 wd_200 dX6_join_42 ?_
    refine z_icmp_ge h (tgt := 159) dX6_join_45 (by decide) (fun g3 => ?_) (fun g3 => ?_)
    · have hf := it_pos g3 hf
      obtain ⟨v4, ev4, hf⟩ := bd_ex hf
      refine z_iinc h (v := v4) (lv' := [(2, .int v4), (0, .ref (G.1 1067)), (1, .int x1), (3, .int x3)]) dX6_join_159 2 rfl (by rw [ev4]; rfl) rfl rfl ?_
      refine z_goto h (tgt := 30) dX6_join_162 (by decide) ?_
      exact z_sub [1, 2, 0] rfl (hb30 _ _ hf)
    · have hf := it_neg g3 hf
      refine z_aload_n h dX6_join_48 rfl 0 rfl ?_
      refine z_iload_n h dX6_join_49 rfl 3 rfl ?_
      obtain ⟨v5, σ6, e6, hf⟩ := obd_out hf
      refine z_cVv h (n := 1) (c_X6_lies l G e6) zC6 tg_1067 ln_1067 rfl rfl wd_269 wd_270 wd_271 wd_5 wd_272 (by decide +kernel) ⟨rfl, rfl⟩ rfl rfl rfl dX6_join_50 ⟨Nat.zero_le _, Nat.zero_le _⟩ ?_
      refine z_iload_n h dX6_join_53 rfl 1 rfl ?_
      refine z_if_ne h (tgt := 61) dX6_join_54 (by decide) (fun g7 => ?_) (fun g7 => ?_)
      · have hf := it_neg g7 hf
        refine z_iconst h (v := (0 : Int32)) dX6_join_61 ic_0 ?_
        exact z_sub [0, 1, 2, 3] rfl (k_X6_join_b62 h hq N x1 x2 x3 v5 (0 : Int32) (fun x3_ σ_ hf_ => ih x3_ σ_ hf_) _ hf)
      · have hf := it_pos g7 hf
        refine z_iconst h (v := (1 : Int32)) dX6_join_57 ic_1 ?_
        refine z_goto h (tgt := 62) dX6_join_58 (by decide) ?_
        exact z_sub [0, 1, 2, 3] rfl (k_X6_join_b62 h hq N x1 x2 x3 v5 (1 : Int32) (fun x3_ σ_ hf_ => ih x3_ σ_ hf_) _ hf)
set_option maxHeartbeats 4000000 in
set_option maxRecDepth 100000 in
theorem k_X6_join_h30 {l : Launch} {Y : ZY} {G : ZG} {σ' : ZS} (h : zOk (l, rm_X6_join, 7, 0, 0) Y G cX6_join RX6 none) (hq : zRet (l, rm_X6_join, 7, 0, 0) Y G none σ') (N : Nat) (x1 : Int32) : ∀ (n : Nat) (x2 : Int32) (σ : ZS), f_X6_join_h30 N x1 n x2 σ = some ((), σ') → Z (l, rm_X6_join, 7, 0, 0) Y G σ [(0, .ref (G.1 1067)), (1, .int x1), (2, .int x2)] [] 30 := by
  intro n
  induction n with
  | zero =>
    intro x2 σ hf
    rw [f_X6_join_h30] at hf
    cases hf
  | succ n ih =>
    intro x2 σ hf
    rw [f_X6_join_h30] at hf
    refine z_iload_n h dX6_join_30 rfl 2 rfl ?_
    refine z_aload_n h dX6_join_31 rfl 0 rfl ?_
    refine z_gfI h zC6 (c := 1067) tg_1067 ln_1067 4 rfl ft_6_4 wd_200 dX6_join_32 ?_
    refine z_icmp_ge h (tgt := 165) dX6_join_35 (by decide) (fun g2 => ?_) (fun g2 => ?_)
    · have hf := it_pos g2 hf
      exact z_vret h (rt_V hf hq) dX6_join_165
    · have hf := it_neg g2 hf
      refine z_iconst h (v := (0 : Int32)) dX6_join_38 ic_0 ?_
      refine z_istore_n h dX6_join_39 rfl (lv' := [(3, .int (0 : Int32)), (0, .ref (G.1 1067)), (1, .int x1), (2, .int x2)]) rfl rfl ?_
      exact z_sub [1, 2, 3, 0] rfl (k_X6_join_h40 h hq N x1 x2 (fun x2_ σ_ hf_ => ih x2_ σ_ hf_) _ _ _ hf)
set_option maxHeartbeats 4000000 in
set_option maxRecDepth 100000 in
theorem k_X6_join_h2 {l : Launch} {Y : ZY} {G : ZG} {σ' : ZS} (h : zOk (l, rm_X6_join, 7, 0, 0) Y G cX6_join RX6 none) (hq : zRet (l, rm_X6_join, 7, 0, 0) Y G none σ') (N : Nat) (x1 : Int32) : ∀ (n : Nat) (x2 : Int32) (σ : ZS), f_X6_join_h2 N x1 n x2 σ = some ((), σ') → Z (l, rm_X6_join, 7, 0, 0) Y G σ [(0, .ref (G.1 1067)), (1, .int x1), (2, .int x2)] [] 2 := by
  intro n
  induction n with
  | zero =>
    intro x2 σ hf
    rw [f_X6_join_h2] at hf
    cases hf
  | succ n ih =>
    intro x2 σ hf
    rw [f_X6_join_h2] at hf
    refine z_iload_n h dX6_join_2 rfl 2 rfl ?_
    refine z_aload_n h dX6_join_3 rfl 0 rfl ?_
    refine z_gfI h zC6 (c := 1067) tg_1067 ln_1067 0 rfl ft_6_0 wd_155 dX6_join_4 ?_
    refine z_icmp_ge h (tgt := 28) dX6_join_7 (by decide) (fun g1 => ?_) (fun g1 => ?_)
    · have hf := it_pos g1 hf
      refine z_iconst h (v := (0 : Int32)) dX6_join_28 ic_0 ?_
      refine z_istore_n h dX6_join_29 rfl (lv' := [(2, .int (0 : Int32)), (0, .ref (G.1 1067)), (1, .int x1)]) rfl rfl ?_
      exact z_sub [1, 2, 0] rfl (k_X6_join_h30 h hq N x1 _ _ _ hf)
    · have hf := it_neg g1 hf
      refine z_aload_n h dX6_join_10 rfl 0 rfl ?_
      refine z_gfR h zC6 (d := 1075) (c := 1067) tg_1067 ln_1067 12 rfl ft_6_12 rf_1067_12 wd_96 dX6_join_11 ?_
      refine z_bipush h (v := (7 : Int32)) dX6_join_14 bp_7 ?_
      refine z_iload_n h dX6_join_16 rfl 1 rfl ?_
      refine z_imul h dX6_join_17 ?_
      refine z_iload_n h dX6_join_18 rfl 2 rfl ?_
      refine z_iadd h dX6_join_19 ?_
      refine z_iload_n h dX6_join_20 rfl 2 rfl ?_
      obtain ⟨g23, hf⟩ := ck_out hf
      refine z_iast h (c := 1075) tg_1075 ln_1075 g23 dX6_join_21 ?_
      refine z_gen (fun σ24 eσ24 => ?_)
      have hf := bd_to eσ24 hf
      obtain ⟨v25, ev25, hf⟩ := bd_ex hf
      refine z_iinc h (v := v25) (lv' := [(2, .int v25), (0, .ref (G.1 1067)), (1, .int x1)]) dX6_join_22 2 rfl (by rw [ev25]; rfl) rfl rfl ?_
      refine z_goto h (tgt := 2) dX6_join_25 (by decide) ?_
      exact z_sub [1, 2, 0] rfl (ih _ _ hf)
set_option maxHeartbeats 4000000 in
set_option maxRecDepth 100000 in
theorem c_X6_join (l : Launch) (G : ZG) {N : Nat} {x1 : Int32} {σ σ' : ZS} {r : Unit} (hf : f_X6_join N x1 σ = some (r, σ')) : zMet l G yX6_join cX6_join 7 none rm_X6_join [.ref (G.1 1067), .int x1] σ none σ' := by
  refine z_met (by decide +kernel) rfl (fun Y h hq => ?_)
  have h : zOk (l, rm_X6_join, 7, 0, 0) Y G cX6_join RX6 none := h
  rw [f_X6_join] at hf
  refine z_sub (lv' := [(0, .ref (G.1 1067)), (1, .int x1)]) [0, 1] rfl ?_
  refine z_iconst h (v := (0 : Int32)) dX6_join_0 ic_0 ?_
  refine z_istore_n h dX6_join_1 rfl (lv' := [(2, .int (0 : Int32)), (0, .ref (G.1 1067)), (1, .int x1)]) rfl rfl ?_
  exact z_sub [1, 2, 0] rfl (k_X6_join_h2 h hq N x1 _ _ _ hf)
theorem dX6_isHeld_0 : decode cX6_isHeld 0 = .ok (.iload_n 2, 1) := by decide +kernel
theorem dX6_isHeld_1 : decode cX6_isHeld 1 = .ok (.ifCond .ne 31, 3) := by decide +kernel
theorem dX6_isHeld_4 : decode cX6_isHeld 4 = .ok (.aload_n 0, 1) := by decide +kernel
theorem dX6_isHeld_5 : decode cX6_isHeld 5 = .ok (.getfield 16, 3) := by decide +kernel
theorem dX6_isHeld_8 : decode cX6_isHeld 8 = .ok (.iload_n 1, 1) := by decide +kernel
theorem dX6_isHeld_9 : decode cX6_isHeld 9 = .ok (.iaload, 1) := by decide +kernel
theorem dX6_isHeld_10 : decode cX6_isHeld 10 = .ok (.iconst 1, 1) := by decide +kernel
theorem dX6_isHeld_11 : decode cX6_isHeld 11 = .ok (.if_icmp .eq 13, 3) := by decide +kernel
theorem dX6_isHeld_14 : decode cX6_isHeld 14 = .ok (.aload_n 0, 1) := by decide +kernel
theorem dX6_isHeld_15 : decode cX6_isHeld 15 = .ok (.getfield 16, 3) := by decide +kernel
theorem dX6_isHeld_18 : decode cX6_isHeld 18 = .ok (.iload_n 1, 1) := by decide +kernel
theorem dX6_isHeld_19 : decode cX6_isHeld 19 = .ok (.iaload, 1) := by decide +kernel
theorem dX6_isHeld_20 : decode cX6_isHeld 20 = .ok (.iconst 2, 1) := by decide +kernel
theorem dX6_isHeld_21 : decode cX6_isHeld 21 = .ok (.if_icmp .ne 7, 3) := by decide +kernel
theorem dX6_isHeld_24 : decode cX6_isHeld 24 = .ok (.iconst 1, 1) := by decide +kernel
theorem dX6_isHeld_25 : decode cX6_isHeld 25 = .ok (.goto 44, 3) := by decide +kernel
theorem dX6_isHeld_28 : decode cX6_isHeld 28 = .ok (.iconst 0, 1) := by decide +kernel
theorem dX6_isHeld_29 : decode cX6_isHeld 29 = .ok (.goto 40, 3) := by decide +kernel
theorem dX6_isHeld_32 : decode cX6_isHeld 32 = .ok (.iload_n 2, 1) := by decide +kernel
theorem dX6_isHeld_33 : decode cX6_isHeld 33 = .ok (.iconst 1, 1) := by decide +kernel
theorem dX6_isHeld_34 : decode cX6_isHeld 34 = .ok (.if_icmp .ne 20, 3) := by decide +kernel
theorem dX6_isHeld_37 : decode cX6_isHeld 37 = .ok (.aload_n 0, 1) := by decide +kernel
theorem dX6_isHeld_38 : decode cX6_isHeld 38 = .ok (.getfield 16, 3) := by decide +kernel
theorem dX6_isHeld_41 : decode cX6_isHeld 41 = .ok (.iload_n 1, 1) := by decide +kernel
theorem dX6_isHeld_42 : decode cX6_isHeld 42 = .ok (.iaload, 1) := by decide +kernel
theorem dX6_isHeld_43 : decode cX6_isHeld 43 = .ok (.ifCond .eq 7, 3) := by decide +kernel
theorem dX6_isHeld_46 : decode cX6_isHeld 46 = .ok (.iconst 1, 1) := by decide +kernel
theorem dX6_isHeld_47 : decode cX6_isHeld 47 = .ok (.goto 22, 3) := by decide +kernel
theorem dX6_isHeld_50 : decode cX6_isHeld 50 = .ok (.iconst 0, 1) := by decide +kernel
theorem dX6_isHeld_51 : decode cX6_isHeld 51 = .ok (.goto 18, 3) := by decide +kernel
theorem dX6_isHeld_54 : decode cX6_isHeld 54 = .ok (.aload_n 0, 1) := by decide +kernel
theorem dX6_isHeld_55 : decode cX6_isHeld 55 = .ok (.getfield 16, 3) := by decide +kernel
theorem dX6_isHeld_58 : decode cX6_isHeld 58 = .ok (.iload_n 1, 1) := by decide +kernel
theorem dX6_isHeld_59 : decode cX6_isHeld 59 = .ok (.iaload, 1) := by decide +kernel
theorem dX6_isHeld_60 : decode cX6_isHeld 60 = .ok (.iconst 2, 1) := by decide +kernel
theorem dX6_isHeld_61 : decode cX6_isHeld 61 = .ok (.if_icmp .ne 7, 3) := by decide +kernel
theorem dX6_isHeld_64 : decode cX6_isHeld 64 = .ok (.iconst 1, 1) := by decide +kernel
theorem dX6_isHeld_65 : decode cX6_isHeld 65 = .ok (.goto 4, 3) := by decide +kernel
theorem dX6_isHeld_68 : decode cX6_isHeld 68 = .ok (.iconst 0, 1) := by decide +kernel
theorem dX6_isHeld_69 : decode cX6_isHeld 69 = .ok (.ireturn, 1) := by decide +kernel
abbrev rm_X6_isHeld : Room := { frames := 0, cells := 0, slots := 0, locals := 0 }
noncomputable def f_X6_isHeld_b24 (N : Nat) (σ : ZS) : Option (Int32 × ZS) := some ((1 : Int32), σ)
noncomputable def f_X6_isHeld (N : Nat) (x1 : Int32) (x2 : Int32) (σ : ZS) : Option (Int32 × ZS) := (if x2 = 0 then ck (inb x1 7) ((if (gI σ 1070 (x1.toNatClampNeg)) = (1 : Int32) then f_X6_isHeld_b24 N σ else ck (inb x1 7) ((if (gI σ 1070 (x1.toNatClampNeg)) = (2 : Int32) then f_X6_isHeld_b24 N σ else some ((0 : Int32), σ))))) else (if x2 = (1 : Int32) then ck (inb x1 7) ((if (gI σ 1070 (x1.toNatClampNeg)) = 0 then some ((0 : Int32), σ) else some ((1 : Int32), σ))) else ck (inb x1 7) ((if (gI σ 1070 (x1.toNatClampNeg)) = (2 : Int32) then some ((1 : Int32), σ) else some ((0 : Int32), σ)))))
set_option maxHeartbeats 4000000 in
set_option maxRecDepth 100000 in
theorem k_X6_isHeld_b24 {l : Launch} {Y : ZY} {G : ZG} {r : Int32} {σ' : ZS} (h : zOk (l, rm_X6_isHeld, 3, 0, 0) Y G cX6_isHeld RX6 (some .boolean)) (hq : zRet (l, rm_X6_isHeld, 3, 0, 0) Y G (some (.int r)) σ') (N : Nat) (σ : ZS) (hf : f_X6_isHeld_b24 N σ = some (r, σ')) : Z (l, rm_X6_isHeld, 3, 0, 0) Y G σ [] [] 24 := by
  rw [f_X6_isHeld_b24] at hf
  refine z_iconst h (v := (1 : Int32)) dX6_isHeld_24 ic_1 ?_
  refine z_goto h (tgt := 69) dX6_isHeld_25 (by decide) ?_
  exact z_zret h rfl (rt_I hf hq) dX6_isHeld_69
set_option maxHeartbeats 4000000 in
set_option maxRecDepth 100000 in
theorem c_X6_isHeld (l : Launch) (G : ZG) {N : Nat} {x1 : Int32} {x2 : Int32} {σ σ' : ZS} {r : Int32} (hf : f_X6_isHeld N x1 x2 σ = some (r, σ')) : zMet l G yX6_isHeld cX6_isHeld 3 (some .boolean) rm_X6_isHeld [.ref (G.1 1067), .int x1, .int x2] σ (some (.int r)) σ' := by
  refine z_met (by decide +kernel) rfl (fun Y h hq => ?_)
  have h : zOk (l, rm_X6_isHeld, 3, 0, 0) Y G cX6_isHeld RX6 (some .boolean) := h
  rw [f_X6_isHeld] at hf
  refine z_sub (lv' := [(0, .ref (G.1 1067)), (1, .int x1), (2, .int x2)]) [0, 1, 2] rfl ?_
  refine z_iload_n h dX6_isHeld_0 rfl 2 rfl ?_
  refine z_if_ne h (tgt := 32) dX6_isHeld_1 (by decide) (fun g1 => ?_) (fun g1 => ?_)
  · have hf := it_neg g1 hf
    refine z_iload_n h dX6_isHeld_32 rfl 2 rfl ?_
    refine z_iconst h (v := (1 : Int32)) dX6_isHeld_33 ic_1 ?_
    refine z_icmp_ne h (tgt := 54) dX6_isHeld_34 (by decide) (fun g2 => ?_) (fun g2 => ?_)
    · have hf := it_neg g2 hf
      refine z_aload_n h dX6_isHeld_54 rfl 0 rfl ?_
      refine z_gfR h zC6 (d := 1070) (c := 1067) tg_1067 ln_1067 3 rfl ft_6_3 rf_1067_3 wd_90 dX6_isHeld_55 ?_
      refine z_iload_n h dX6_isHeld_58 rfl 1 rfl ?_
      obtain ⟨g3, hf⟩ := ck_out hf
      refine z_iald h (c := 1070) tg_1070 ln_1070 g3 dX6_isHeld_59 ?_
      refine z_iconst h (v := (2 : Int32)) dX6_isHeld_60 ic_2 ?_
      refine z_icmp_ne h (tgt := 68) dX6_isHeld_61 (by decide) (fun g4 => ?_) (fun g4 => ?_)
      · have hf := it_neg g4 hf
        refine z_iconst h (v := (0 : Int32)) dX6_isHeld_68 ic_0 ?_
        exact z_zret h rfl (rt_I hf hq) dX6_isHeld_69
      · have hf := it_pos g4 hf
        refine z_iconst h (v := (1 : Int32)) dX6_isHeld_64 ic_1 ?_
        refine z_goto h (tgt := 69) dX6_isHeld_65 (by decide) ?_
        exact z_zret h rfl (rt_I hf hq) dX6_isHeld_69
    · have hf := it_pos g2 hf
      refine z_aload_n h dX6_isHeld_37 rfl 0 rfl ?_
      refine z_gfR h zC6 (d := 1070) (c := 1067) tg_1067 ln_1067 3 rfl ft_6_3 rf_1067_3 wd_90 dX6_isHeld_38 ?_
      refine z_iload_n h dX6_isHeld_41 rfl 1 rfl ?_
      obtain ⟨g5, hf⟩ := ck_out hf
      refine z_iald h (c := 1070) tg_1070 ln_1070 g5 dX6_isHeld_42 ?_
      refine z_if_eq h (tgt := 50) dX6_isHeld_43 (by decide) (fun g6 => ?_) (fun g6 => ?_)
      · have hf := it_pos g6 hf
        refine z_iconst h (v := (0 : Int32)) dX6_isHeld_50 ic_0 ?_
        refine z_goto h (tgt := 69) dX6_isHeld_51 (by decide) ?_
        exact z_zret h rfl (rt_I hf hq) dX6_isHeld_69
      · have hf := it_neg g6 hf
        refine z_iconst h (v := (1 : Int32)) dX6_isHeld_46 ic_1 ?_
        refine z_goto h (tgt := 69) dX6_isHeld_47 (by decide) ?_
        exact z_zret h rfl (rt_I hf hq) dX6_isHeld_69
  · have hf := it_pos g1 hf
    refine z_aload_n h dX6_isHeld_4 rfl 0 rfl ?_
    refine z_gfR h zC6 (d := 1070) (c := 1067) tg_1067 ln_1067 3 rfl ft_6_3 rf_1067_3 wd_90 dX6_isHeld_5 ?_
    refine z_iload_n h dX6_isHeld_8 rfl 1 rfl ?_
    obtain ⟨g7, hf⟩ := ck_out hf
    refine z_iald h (c := 1070) tg_1070 ln_1070 g7 dX6_isHeld_9 ?_
    refine z_iconst h (v := (1 : Int32)) dX6_isHeld_10 ic_1 ?_
    refine z_icmp_eq h (tgt := 24) dX6_isHeld_11 (by decide) (fun g8 => ?_) (fun g8 => ?_)
    · have hf := it_pos g8 hf
      exact z_sub [] rfl (k_X6_isHeld_b24 h hq N _ hf)
    · have hf := it_neg g8 hf
      refine z_aload_n h dX6_isHeld_14 rfl 0 rfl ?_
      refine z_gfR h zC6 (d := 1070) (c := 1067) tg_1067 ln_1067 3 rfl ft_6_3 rf_1067_3 wd_90 dX6_isHeld_15 ?_
      refine z_iload_n h dX6_isHeld_18 rfl 1 rfl ?_
      obtain ⟨g9, hf⟩ := ck_out hf
      refine z_iald h (c := 1070) tg_1070 ln_1070 g9 dX6_isHeld_19 ?_
      refine z_iconst h (v := (2 : Int32)) dX6_isHeld_20 ic_2 ?_
      refine z_icmp_ne h (tgt := 28) dX6_isHeld_21 (by decide) (fun g10 => ?_) (fun g10 => ?_)
      · have hf := it_neg g10 hf
        refine z_iconst h (v := (0 : Int32)) dX6_isHeld_28 ic_0 ?_
        refine z_goto h (tgt := 69) dX6_isHeld_29 (by decide) ?_
        exact z_zret h rfl (rt_I hf hq) dX6_isHeld_69
      · have hf := it_pos g10 hf
        exact z_sub [] rfl (k_X6_isHeld_b24 h hq N _ hf)
theorem dX6_layNumbers_0 : decode cX6_layNumbers 0 = .ok (.aload_n 0, 1) := by decide +kernel
theorem dX6_layNumbers_1 : decode cX6_layNumbers 1 = .ok (.iconst 0, 1) := by decide +kernel
theorem dX6_layNumbers_2 : decode cX6_layNumbers 2 = .ok (.invokevirtual 161, 3) := by decide +kernel
theorem dX6_layNumbers_5 : decode cX6_layNumbers 5 = .ok (.aload_n 0, 1) := by decide +kernel
theorem dX6_layNumbers_6 : decode cX6_layNumbers 6 = .ok (.iconst 1, 1) := by decide +kernel
theorem dX6_layNumbers_7 : decode cX6_layNumbers 7 = .ok (.invokevirtual 161, 3) := by decide +kernel
theorem dX6_layNumbers_10 : decode cX6_layNumbers 10 = .ok (.aload_n 0, 1) := by decide +kernel
theorem dX6_layNumbers_11 : decode cX6_layNumbers 11 = .ok (.iconst 0, 1) := by decide +kernel
theorem dX6_layNumbers_12 : decode cX6_layNumbers 12 = .ok (.putfield 165, 3) := by decide +kernel
theorem dX6_layNumbers_15 : decode cX6_layNumbers 15 = .ok (.iconst 0, 1) := by decide +kernel
theorem dX6_layNumbers_16 : decode cX6_layNumbers 16 = .ok (.istore_n 1, 1) := by decide +kernel
theorem dX6_layNumbers_17 : decode cX6_layNumbers 17 = .ok (.iload_n 1, 1) := by decide +kernel
theorem dX6_layNumbers_18 : decode cX6_layNumbers 18 = .ok (.iconst 3, 1) := by decide +kernel
theorem dX6_layNumbers_19 : decode cX6_layNumbers 19 = .ok (.if_icmp .ge 186, 3) := by decide +kernel
theorem dX6_layNumbers_22 : decode cX6_layNumbers 22 = .ok (.iconst 0, 1) := by decide +kernel
theorem dX6_layNumbers_23 : decode cX6_layNumbers 23 = .ok (.istore_n 2, 1) := by decide +kernel
theorem dX6_layNumbers_24 : decode cX6_layNumbers 24 = .ok (.iload_n 2, 1) := by decide +kernel
theorem dX6_layNumbers_25 : decode cX6_layNumbers 25 = .ok (.aload_n 0, 1) := by decide +kernel
theorem dX6_layNumbers_26 : decode cX6_layNumbers 26 = .ok (.getfield 134, 3) := by decide +kernel
theorem dX6_layNumbers_29 : decode cX6_layNumbers 29 = .ok (.if_icmp .ge 170, 3) := by decide +kernel
theorem dX6_layNumbers_32 : decode cX6_layNumbers 32 = .ok (.iload_n 1, 1) := by decide +kernel
theorem dX6_layNumbers_33 : decode cX6_layNumbers 33 = .ok (.iconst 2, 1) := by decide +kernel
theorem dX6_layNumbers_34 : decode cX6_layNumbers 34 = .ok (.if_icmp .ne 7, 3) := by decide +kernel
theorem dX6_layNumbers_37 : decode cX6_layNumbers 37 = .ok (.iload_n 2, 1) := by decide +kernel
theorem dX6_layNumbers_38 : decode cX6_layNumbers 38 = .ok (.goto 14, 3) := by decide +kernel
theorem dX6_layNumbers_41 : decode cX6_layNumbers 41 = .ok (.aload_n 0, 1) := by decide +kernel
theorem dX6_layNumbers_42 : decode cX6_layNumbers 42 = .ok (.getfield 35, 3) := by decide +kernel
theorem dX6_layNumbers_45 : decode cX6_layNumbers 45 = .ok (.bipush 7, 2) := by decide +kernel
theorem dX6_layNumbers_47 : decode cX6_layNumbers 47 = .ok (.iload_n 1, 1) := by decide +kernel
theorem dX6_layNumbers_48 : decode cX6_layNumbers 48 = .ok (.imul, 1) := by decide +kernel
theorem dX6_layNumbers_49 : decode cX6_layNumbers 49 = .ok (.iload_n 2, 1) := by decide +kernel
theorem dX6_layNumbers_50 : decode cX6_layNumbers 50 = .ok (.iadd, 1) := by decide +kernel
theorem dX6_layNumbers_51 : decode cX6_layNumbers 51 = .ok (.iaload, 1) := by decide +kernel
theorem dX6_layNumbers_52 : decode cX6_layNumbers 52 = .ok (.istore_n 3, 1) := by decide +kernel
theorem dX6_layNumbers_53 : decode cX6_layNumbers 53 = .ok (.iconst 0, 1) := by decide +kernel
theorem dX6_layNumbers_54 : decode cX6_layNumbers 54 = .ok (.istore 4, 2) := by decide +kernel
theorem dX6_layNumbers_56 : decode cX6_layNumbers 56 = .ok (.iconst 0, 1) := by decide +kernel
theorem dX6_layNumbers_57 : decode cX6_layNumbers 57 = .ok (.istore 5, 2) := by decide +kernel
theorem dX6_layNumbers_59 : decode cX6_layNumbers 59 = .ok (.iload 5, 2) := by decide +kernel
theorem dX6_layNumbers_61 : decode cX6_layNumbers 61 = .ok (.aload_n 0, 1) := by decide +kernel
theorem dX6_layNumbers_62 : decode cX6_layNumbers 62 = .ok (.getfield 134, 3) := by decide +kernel
theorem dX6_layNumbers_65 : decode cX6_layNumbers 65 = .ok (.if_icmp .ge 61, 3) := by decide +kernel
theorem dX6_layNumbers_68 : decode cX6_layNumbers 68 = .ok (.iload 4, 2) := by decide +kernel
theorem dX6_layNumbers_70 : decode cX6_layNumbers 70 = .ok (.ifCond .ne 43, 3) := by decide +kernel
theorem dX6_layNumbers_73 : decode cX6_layNumbers 73 = .ok (.aload_n 0, 1) := by decide +kernel
theorem dX6_layNumbers_74 : decode cX6_layNumbers 74 = .ok (.iload 5, 2) := by decide +kernel
theorem dX6_layNumbers_76 : decode cX6_layNumbers 76 = .ok (.iload_n 1, 1) := by decide +kernel
theorem dX6_layNumbers_77 : decode cX6_layNumbers 77 = .ok (.invokevirtual 168, 3) := by decide +kernel
theorem dX6_layNumbers_80 : decode cX6_layNumbers 80 = .ok (.ifCond .eq 37, 3) := by decide +kernel
theorem dX6_layNumbers_83 : decode cX6_layNumbers 83 = .ok (.iload_n 1, 1) := by decide +kernel
theorem dX6_layNumbers_84 : decode cX6_layNumbers 84 = .ok (.iconst 2, 1) := by decide +kernel
theorem dX6_layNumbers_85 : decode cX6_layNumbers 85 = .ok (.if_icmp .ne 12, 3) := by decide +kernel
theorem dX6_layNumbers_88 : decode cX6_layNumbers 88 = .ok (.iload 5, 2) := by decide +kernel
theorem dX6_layNumbers_90 : decode cX6_layNumbers 90 = .ok (.iload_n 2, 1) := by decide +kernel
theorem dX6_layNumbers_91 : decode cX6_layNumbers 91 = .ok (.if_icmp .ne 26, 3) := by decide +kernel
theorem dX6_layNumbers_94 : decode cX6_layNumbers 94 = .ok (.goto 19, 3) := by decide +kernel
theorem dX6_layNumbers_97 : decode cX6_layNumbers 97 = .ok (.aload_n 0, 1) := by decide +kernel
theorem dX6_layNumbers_98 : decode cX6_layNumbers 98 = .ok (.getfield 35, 3) := by decide +kernel
theorem dX6_layNumbers_101 : decode cX6_layNumbers 101 = .ok (.bipush 7, 2) := by decide +kernel
theorem dX6_layNumbers_103 : decode cX6_layNumbers 103 = .ok (.iload_n 1, 1) := by decide +kernel
theorem dX6_layNumbers_104 : decode cX6_layNumbers 104 = .ok (.imul, 1) := by decide +kernel
theorem dX6_layNumbers_105 : decode cX6_layNumbers 105 = .ok (.iload 5, 2) := by decide +kernel
theorem dX6_layNumbers_107 : decode cX6_layNumbers 107 = .ok (.iadd, 1) := by decide +kernel
theorem dX6_layNumbers_108 : decode cX6_layNumbers 108 = .ok (.iaload, 1) := by decide +kernel
theorem dX6_layNumbers_109 : decode cX6_layNumbers 109 = .ok (.iload_n 3, 1) := by decide +kernel
theorem dX6_layNumbers_110 : decode cX6_layNumbers 110 = .ok (.if_icmp .ne 7, 3) := by decide +kernel
theorem dX6_layNumbers_113 : decode cX6_layNumbers 113 = .ok (.iconst 1, 1) := by decide +kernel
theorem dX6_layNumbers_114 : decode cX6_layNumbers 114 = .ok (.goto 4, 3) := by decide +kernel
theorem dX6_layNumbers_117 : decode cX6_layNumbers 117 = .ok (.iconst 0, 1) := by decide +kernel
theorem dX6_layNumbers_118 : decode cX6_layNumbers 118 = .ok (.istore 4, 2) := by decide +kernel
theorem dX6_layNumbers_120 : decode cX6_layNumbers 120 = .ok (.iinc 5 1, 3) := by decide +kernel
theorem dX6_layNumbers_123 : decode cX6_layNumbers 123 = .ok (.goto (-64), 3) := by decide +kernel
theorem dX6_layNumbers_126 : decode cX6_layNumbers 126 = .ok (.aload_n 0, 1) := by decide +kernel
theorem dX6_layNumbers_127 : decode cX6_layNumbers 127 = .ok (.getfield 38, 3) := by decide +kernel
theorem dX6_layNumbers_130 : decode cX6_layNumbers 130 = .ok (.bipush 7, 2) := by decide +kernel
theorem dX6_layNumbers_132 : decode cX6_layNumbers 132 = .ok (.iload_n 1, 1) := by decide +kernel
theorem dX6_layNumbers_133 : decode cX6_layNumbers 133 = .ok (.imul, 1) := by decide +kernel
theorem dX6_layNumbers_134 : decode cX6_layNumbers 134 = .ok (.iload_n 2, 1) := by decide +kernel
theorem dX6_layNumbers_135 : decode cX6_layNumbers 135 = .ok (.iadd, 1) := by decide +kernel
theorem dX6_layNumbers_136 : decode cX6_layNumbers 136 = .ok (.iload 4, 2) := by decide +kernel
theorem dX6_layNumbers_138 : decode cX6_layNumbers 138 = .ok (.ifCond .eq 7, 3) := by decide +kernel
theorem dX6_layNumbers_141 : decode cX6_layNumbers 141 = .ok (.iconst (-1), 1) := by decide +kernel
theorem dX6_layNumbers_142 : decode cX6_layNumbers 142 = .ok (.goto 26, 3) := by decide +kernel
theorem dX6_layNumbers_145 : decode cX6_layNumbers 145 = .ok (.iload_n 3, 1) := by decide +kernel
theorem dX6_layNumbers_146 : decode cX6_layNumbers 146 = .ok (.iload_n 2, 1) := by decide +kernel
theorem dX6_layNumbers_147 : decode cX6_layNumbers 147 = .ok (.if_icmp .ge 17, 3) := by decide +kernel
theorem dX6_layNumbers_150 : decode cX6_layNumbers 150 = .ok (.aload_n 0, 1) := by decide +kernel
theorem dX6_layNumbers_151 : decode cX6_layNumbers 151 = .ok (.getfield 38, 3) := by decide +kernel
theorem dX6_layNumbers_154 : decode cX6_layNumbers 154 = .ok (.bipush 7, 2) := by decide +kernel
theorem dX6_layNumbers_156 : decode cX6_layNumbers 156 = .ok (.iload_n 1, 1) := by decide +kernel
theorem dX6_layNumbers_157 : decode cX6_layNumbers 157 = .ok (.imul, 1) := by decide +kernel
theorem dX6_layNumbers_158 : decode cX6_layNumbers 158 = .ok (.iload_n 3, 1) := by decide +kernel
theorem dX6_layNumbers_159 : decode cX6_layNumbers 159 = .ok (.iadd, 1) := by decide +kernel
theorem dX6_layNumbers_160 : decode cX6_layNumbers 160 = .ok (.iaload, 1) := by decide +kernel
theorem dX6_layNumbers_161 : decode cX6_layNumbers 161 = .ok (.goto 7, 3) := by decide +kernel
theorem dX6_layNumbers_164 : decode cX6_layNumbers 164 = .ok (.aload_n 0, 1) := by decide +kernel
theorem dX6_layNumbers_165 : decode cX6_layNumbers 165 = .ok (.getfield 165, 3) := by decide +kernel
theorem dX6_layNumbers_168 : decode cX6_layNumbers 168 = .ok (.iastore, 1) := by decide +kernel
theorem dX6_layNumbers_169 : decode cX6_layNumbers 169 = .ok (.aload_n 0, 1) := by decide +kernel
theorem dX6_layNumbers_170 : decode cX6_layNumbers 170 = .ok (.dup, 1) := by decide +kernel
theorem dX6_layNumbers_171 : decode cX6_layNumbers 171 = .ok (.getfield 165, 3) := by decide +kernel
theorem dX6_layNumbers_174 : decode cX6_layNumbers 174 = .ok (.iload 4, 2) := by decide +kernel
theorem dX6_layNumbers_176 : decode cX6_layNumbers 176 = .ok (.ifCond .ne 12, 3) := by decide +kernel
theorem dX6_layNumbers_179 : decode cX6_layNumbers 179 = .ok (.iload_n 3, 1) := by decide +kernel
theorem dX6_layNumbers_180 : decode cX6_layNumbers 180 = .ok (.iload_n 2, 1) := by decide +kernel
theorem dX6_layNumbers_181 : decode cX6_layNumbers 181 = .ok (.if_icmp .ne 7, 3) := by decide +kernel
theorem dX6_layNumbers_184 : decode cX6_layNumbers 184 = .ok (.iconst 1, 1) := by decide +kernel
theorem dX6_layNumbers_185 : decode cX6_layNumbers 185 = .ok (.goto 4, 3) := by decide +kernel
theorem dX6_layNumbers_188 : decode cX6_layNumbers 188 = .ok (.iconst 0, 1) := by decide +kernel
theorem dX6_layNumbers_189 : decode cX6_layNumbers 189 = .ok (.iadd, 1) := by decide +kernel
theorem dX6_layNumbers_190 : decode cX6_layNumbers 190 = .ok (.putfield 165, 3) := by decide +kernel
theorem dX6_layNumbers_193 : decode cX6_layNumbers 193 = .ok (.iinc 2 1, 3) := by decide +kernel
theorem dX6_layNumbers_196 : decode cX6_layNumbers 196 = .ok (.goto (-172), 3) := by decide +kernel
theorem dX6_layNumbers_199 : decode cX6_layNumbers 199 = .ok (.iinc 1 1, 3) := by decide +kernel
theorem dX6_layNumbers_202 : decode cX6_layNumbers 202 = .ok (.goto (-185), 3) := by decide +kernel
theorem dX6_layNumbers_205 : decode cX6_layNumbers 205 = .ok (.return_, 1) := by decide +kernel
abbrev rm_X6_layNumbers : Room := { frames := 2, cells := 0, slots := 0, locals := 63 }
noncomputable def f_X6_layNumbers_b189 (N : Nat) (kb24 : Int32 → ZS → Option (Unit × ZS)) (x1 : Int32) (x2 : Int32) (s1 : Int32) (s2 : Int32) (σ : ZS) : Option (Unit × ZS) := bd (s1 + s2) fun v17 => bd (sI σ 1067 10 v17) fun σ18 => bd (x2 + (1 : Int32)) fun v19 => kb24 v19 σ18
noncomputable def f_X6_layNumbers_b188 (N : Nat) (kb24 : Int32 → ZS → Option (Unit × ZS)) (x1 : Int32) (x2 : Int32) (s1 : Int32) (σ : ZS) : Option (Unit × ZS) := f_X6_layNumbers_b189 N kb24 x1 x2 s1 (0 : Int32) σ
noncomputable def f_X6_layNumbers_b168 (N : Nat) (kb24 : Int32 → ZS → Option (Unit × ZS)) (x1 : Int32) (x2 : Int32) (x3 : Int32) (x4 : Int32) (s1 : Int32) (s2 : Int32) (σ : ZS) : Option (Unit × ZS) := ck (inb s1 21) (bd (sI σ 1076 (s1.toNatClampNeg) s2) fun σ15 => (if x4 = 0 then (if x3 = x2 then f_X6_layNumbers_b189 N kb24 x1 x2 (gI σ15 1067 10) (1 : Int32) σ15 else f_X6_layNumbers_b188 N kb24 x1 x2 (gI σ15 1067 10) σ15) else f_X6_layNumbers_b188 N kb24 x1 x2 (gI σ15 1067 10) σ15))
noncomputable def f_X6_layNumbers_b118 (N : Nat) (kb59 : Int32 → Int32 → ZS → Option (Unit × ZS)) (x1 : Int32) (x2 : Int32) (x3 : Int32) (x5 : Int32) (s0 : Int32) (σ : ZS) : Option (Unit × ZS) := bd (x5 + (1 : Int32)) fun v23 => kb59 s0 v23 σ
noncomputable def f_X6_layNumbers_b113 (N : Nat) (kb59 : Int32 → Int32 → ZS → Option (Unit × ZS)) (x1 : Int32) (x2 : Int32) (x3 : Int32) (x5 : Int32) (σ : ZS) : Option (Unit × ZS) := f_X6_layNumbers_b118 N kb59 x1 x2 x3 x5 (1 : Int32) σ
noncomputable def f_X6_layNumbers_b117 (N : Nat) (kb59 : Int32 → Int32 → ZS → Option (Unit × ZS)) (x1 : Int32) (x2 : Int32) (x3 : Int32) (x5 : Int32) (σ : ZS) : Option (Unit × ZS) := f_X6_layNumbers_b118 N kb59 x1 x2 x3 x5 (0 : Int32) σ
noncomputable def f_X6_layNumbers_h59 (N : Nat) (kb24 : Int32 → ZS → Option (Unit × ZS)) (x1 : Int32) (x2 : Int32) (x3 : Int32) : Nat → Int32 → Int32 → ZS → Option (Unit × ZS)
  | 0, _, _, _ => none
  | n + 1, x4, x5, σ => (if (gI σ 1067 0) ≤ x5 then (if x4 = 0 then (if x2 ≤ x3 then f_X6_layNumbers_b168 N kb24 x1 x2 x3 x4 (((7 : Int32) * x1) + x2) (gI σ 1067 10) σ else ck (inb (((7 : Int32) * x1) + x3) 21) (f_X6_layNumbers_b168 N kb24 x1 x2 x3 x4 (((7 : Int32) * x1) + x2) (gI σ 1076 ((((7 : Int32) * x1) + x3).toNatClampNeg)) σ)) else f_X6_layNumbers_b168 N kb24 x1 x2 x3 x4 (((7 : Int32) * x1) + x2) (-1 : Int32) σ) else (if x4 = 0 then obd (f_X6_isHeld N x5 x1 σ) fun v24 σ25 => (if v24 = 0 then f_X6_layNumbers_b117 N (fun x4_ x5_ σ_ => f_X6_layNumbers_h59 N kb24 x1 x2 x3 n x4_ x5_ σ_) x1 x2 x3 x5 σ25 else (if x1 = (2 : Int32) then (if x5 = x2 then f_X6_layNumbers_b113 N (fun x4_ x5_ σ_ => f_X6_layNumbers_h59 N kb24 x1 x2 x3 n x4_ x5_ σ_) x1 x2 x3 x5 σ25 else f_X6_layNumbers_b117 N (fun x4_ x5_ σ_ => f_X6_layNumbers_h59 N kb24 x1 x2 x3 n x4_ x5_ σ_) x1 x2 x3 x5 σ25) else ck (inb (((7 : Int32) * x1) + x5) 14) ((if (gI σ25 1075 ((((7 : Int32) * x1) + x5).toNatClampNeg)) = x3 then f_X6_layNumbers_b113 N (fun x4_ x5_ σ_ => f_X6_layNumbers_h59 N kb24 x1 x2 x3 n x4_ x5_ σ_) x1 x2 x3 x5 σ25 else f_X6_layNumbers_b117 N (fun x4_ x5_ σ_ => f_X6_layNumbers_h59 N kb24 x1 x2 x3 n x4_ x5_ σ_) x1 x2 x3 x5 σ25)))) else f_X6_layNumbers_b113 N (fun x4_ x5_ σ_ => f_X6_layNumbers_h59 N kb24 x1 x2 x3 n x4_ x5_ σ_) x1 x2 x3 x5 σ))
noncomputable def f_X6_layNumbers_b52 (N : Nat) (kb24 : Int32 → ZS → Option (Unit × ZS)) (x1 : Int32) (x2 : Int32) (s0 : Int32) (σ : ZS) : Option (Unit × ZS) := f_X6_layNumbers_h59 N kb24 x1 x2 s0 N (0 : Int32) (0 : Int32) σ
noncomputable def f_X6_layNumbers_h24 (N : Nat) (kb17 : Int32 → ZS → Option (Unit × ZS)) (x1 : Int32) : Nat → Int32 → ZS → Option (Unit × ZS)
  | 0, _, _ => none
  | n + 1, x2, σ => (if (gI σ 1067 0) ≤ x2 then bd (x1 + (1 : Int32)) fun v8 => kb17 v8 σ else (if x1 = (2 : Int32) then f_X6_layNumbers_b52 N (fun x2_ σ_ => f_X6_layNumbers_h24 N kb17 x1 n x2_ σ_) x1 x2 x2 σ else ck (inb (((7 : Int32) * x1) + x2) 14) (f_X6_layNumbers_b52 N (fun x2_ σ_ => f_X6_layNumbers_h24 N kb17 x1 n x2_ σ_) x1 x2 (gI σ 1075 ((((7 : Int32) * x1) + x2).toNatClampNeg)) σ)))
noncomputable def f_X6_layNumbers_h17 (N : Nat) : Nat → Int32 → ZS → Option (Unit × ZS)
  | 0, _, _ => none
  | n + 1, x1, σ => (if (3 : Int32) ≤ x1 then some ((), σ) else f_X6_layNumbers_h24 N (fun x1_ σ_ => f_X6_layNumbers_h17 N n x1_ σ_) x1 N (0 : Int32) σ)
noncomputable def f_X6_layNumbers (N : Nat) (σ : ZS) : Option (Unit × ZS) := obd (f_X6_join N (0 : Int32) σ) fun _ σ2 => obd (f_X6_join N (1 : Int32) σ2) fun _ σ4 => bd (sI σ4 1067 10 (0 : Int32)) fun σ5 => f_X6_layNumbers_h17 N N (0 : Int32) σ5
set_option maxHeartbeats 4000000 in
set_option maxRecDepth 100000 in
theorem k_X6_layNumbers_b189 {l : Launch} {Y : ZY} {G : ZG} {σ' : ZS} (h : zOk (l, rm_X6_layNumbers, 6, 0, 0) Y G cX6_layNumbers RX6 none) (hq : zRet (l, rm_X6_layNumbers, 6, 0, 0) Y G none σ') (N : Nat) {kb24 : Int32 → ZS → Option (Unit × ZS)} (x1 : Int32) (x2 : Int32) (s1 : Int32) (s2 : Int32) (hb24 : ∀ (x2_ : Int32) (σ_ : ZS), kb24 x2_ σ_ = some ((), σ') → Z (l, rm_X6_layNumbers, 6, 0, 0) Y G σ_ [(0, .ref (G.1 1067)), (1, .int x1), (2, .int x2_)] [] 24) (σ : ZS) (hf : f_X6_layNumbers_b189 N kb24 x1 x2 s1 s2 σ = some ((), σ')) : Z (l, rm_X6_layNumbers, 6, 0, 0) Y G σ [(0, .ref (G.1 1067)), (1, .int x1), (2, .int x2)] [.int s2, .int s1, .ref (G.1 1067)] 189 := by
  rw [f_X6_layNumbers_b189] at hf
  refine z_iadd h dX6_layNumbers_189 ?_
  refine z_topI (fun v17 ev17 => ?_)
  have hf := bd_to ev17 hf
  refine z_pfI h zC6 (c := 1067) tg_1067 ln_1067 10 rfl ft_6_10 wd_424 rfl (ty := .int) (by decide +kernel) rfl rfl dX6_layNumbers_190 ?_
  refine z_gen (fun σ18 eσ18 => ?_)
  have hf := bd_to eσ18 hf
  obtain ⟨v19, ev19, hf⟩ := bd_ex hf
  refine z_iinc h (v := v19) (lv' := [(2, .int v19), (0, .ref (G.1 1067)), (1, .int x1)]) dX6_layNumbers_193 2 rfl (by rw [ev19]; rfl) rfl rfl ?_
  refine z_goto h (tgt := 24) dX6_layNumbers_196 (by decide) ?_
  exact z_sub [1, 2, 0] rfl (hb24 _ _ hf)
set_option maxHeartbeats 4000000 in
set_option maxRecDepth 100000 in
theorem k_X6_layNumbers_b188 {l : Launch} {Y : ZY} {G : ZG} {σ' : ZS} (h : zOk (l, rm_X6_layNumbers, 6, 0, 0) Y G cX6_layNumbers RX6 none) (hq : zRet (l, rm_X6_layNumbers, 6, 0, 0) Y G none σ') (N : Nat) {kb24 : Int32 → ZS → Option (Unit × ZS)} (x1 : Int32) (x2 : Int32) (s1 : Int32) (hb24 : ∀ (x2_ : Int32) (σ_ : ZS), kb24 x2_ σ_ = some ((), σ') → Z (l, rm_X6_layNumbers, 6, 0, 0) Y G σ_ [(0, .ref (G.1 1067)), (1, .int x1), (2, .int x2_)] [] 24) (σ : ZS) (hf : f_X6_layNumbers_b188 N kb24 x1 x2 s1 σ = some ((), σ')) : Z (l, rm_X6_layNumbers, 6, 0, 0) Y G σ [(0, .ref (G.1 1067)), (1, .int x1), (2, .int x2)] [.int s1, .ref (G.1 1067)] 188 := by
  rw [f_X6_layNumbers_b188] at hf
  refine z_iconst h (v := (0 : Int32)) dX6_layNumbers_188 ic_0 ?_
  exact z_sub [0, 1, 2] rfl (k_X6_layNumbers_b189 h hq N x1 x2 s1 (0 : Int32) hb24 _ hf)
set_option maxHeartbeats 4000000 in
set_option maxRecDepth 100000 in
theorem k_X6_layNumbers_b168 {l : Launch} {Y : ZY} {G : ZG} {σ' : ZS} (h : zOk (l, rm_X6_layNumbers, 6, 0, 0) Y G cX6_layNumbers RX6 none) (hq : zRet (l, rm_X6_layNumbers, 6, 0, 0) Y G none σ') (N : Nat) {kb24 : Int32 → ZS → Option (Unit × ZS)} (x1 : Int32) (x2 : Int32) (x3 : Int32) (x4 : Int32) (s1 : Int32) (s2 : Int32) (hb24 : ∀ (x2_ : Int32) (σ_ : ZS), kb24 x2_ σ_ = some ((), σ') → Z (l, rm_X6_layNumbers, 6, 0, 0) Y G σ_ [(0, .ref (G.1 1067)), (1, .int x1), (2, .int x2_)] [] 24) (σ : ZS) (hf : f_X6_layNumbers_b168 N kb24 x1 x2 x3 x4 s1 s2 σ = some ((), σ')) : Z (l, rm_X6_layNumbers, 6, 0, 0) Y G σ [(0, .ref (G.1 1067)), (1, .int x1), (2, .int x2), (3, .int x3), (4, .int x4)] [.int s2, .int s1, .ref (G.1 1076)] 168 := by
  rw [f_X6_layNumbers_b168] at hf
  obtain ⟨g14, hf⟩ := ck_out hf
  refine z_iast h (c := 1076) tg_1076 ln_1076 g14 dX6_layNumbers_168 ?_
  refine z_gen (fun σ15 eσ15 => ?_)
  have hf := bd_to eσ15 hf
  refine z_aload_n h dX6_layNumbers_169 rfl 0 rfl ?_
  refine z_dup h dX6_layNumbers_170 rfl ?_
  refine z_gfI h zC6 (c := 1067) tg_1067 ln_1067 10 rfl ft_6_10 wd_424 dX6_layNumbers_171 ?_
  refine z_iload h dX6_layNumbers_174 4 rfl ?_
  refine z_if_ne h (tgt := 188) dX6_layNumbers_176 (by decide) (fun g16 => ?_) (fun g16 => ?_)
  · have hf := it_neg g16 hf
    exact z_sub [0, 1, 2] rfl (k_X6_layNumbers_b188 h hq N x1 x2 (gI σ15 1067 10) hb24 _ hf)
  · have hf := it_pos g16 hf
    refine z_iload_n h dX6_layNumbers_179 rfl 3 rfl ?_
    refine z_iload_n h dX6_layNumbers_180 rfl 2 rfl ?_
    refine z_icmp_ne h (tgt := 188) dX6_layNumbers_181 (by decide) (fun g20 => ?_) (fun g20 => ?_)
    · have hf := it_neg g20 hf
      exact z_sub [0, 1, 2] rfl (k_X6_layNumbers_b188 h hq N x1 x2 (gI σ15 1067 10) hb24 _ hf)
    · have hf := it_pos g20 hf
      refine z_iconst h (v := (1 : Int32)) dX6_layNumbers_184 ic_1 ?_
      refine z_goto h (tgt := 189) dX6_layNumbers_185 (by decide) ?_
      exact z_sub [0, 1, 2] rfl (k_X6_layNumbers_b189 h hq N x1 x2 (gI σ15 1067 10) (1 : Int32) hb24 _ hf)
set_option maxHeartbeats 4000000 in
set_option maxRecDepth 100000 in
theorem k_X6_layNumbers_b118 {l : Launch} {Y : ZY} {G : ZG} {σ' : ZS} (h : zOk (l, rm_X6_layNumbers, 6, 0, 0) Y G cX6_layNumbers RX6 none) (hq : zRet (l, rm_X6_layNumbers, 6, 0, 0) Y G none σ') (N : Nat) {kb59 : Int32 → Int32 → ZS → Option (Unit × ZS)} (x1 : Int32) (x2 : Int32) (x3 : Int32) (x5 : Int32) (s0 : Int32) (hb59 : ∀ (x4_ : Int32) (x5_ : Int32) (σ_ : ZS), kb59 x4_ x5_ σ_ = some ((), σ') → Z (l, rm_X6_layNumbers, 6, 0, 0) Y G σ_ [(0, .ref (G.1 1067)), (1, .int x1), (2, .int x2), (3, .int x3), (4, .int x4_), (5, .int x5_)] [] 59) (σ : ZS) (hf : f_X6_layNumbers_b118 N kb59 x1 x2 x3 x5 s0 σ = some ((), σ')) : Z (l, rm_X6_layNumbers, 6, 0, 0) Y G σ [(0, .ref (G.1 1067)), (1, .int x1), (2, .int x2), (3, .int x3), (5, .int x5)] [.int s0] 118 := by
  rw [f_X6_layNumbers_b118] at hf
  refine z_istore h dX6_layNumbers_118 (lv' := [(4, .int s0), (0, .ref (G.1 1067)), (1, .int x1), (2, .int x2), (3, .int x3), (5, .int x5)]) rfl rfl ?_
  obtain ⟨v23, ev23, hf⟩ := bd_ex hf
  refine z_iinc h (v := v23) (lv' := [(5, .int v23), (4, .int s0), (0, .ref (G.1 1067)), (1, .int x1), (2, .int x2), (3, .int x3)]) dX6_layNumbers_120 5 rfl (by rw [ev23]; rfl) rfl rfl ?_
  refine z_goto h (tgt := 59) dX6_layNumbers_123 (by decide) ?_
  exact z_sub [2, 3, 4, 5, 1, 0] rfl (hb59 _ _ _ hf)
set_option maxHeartbeats 4000000 in
set_option maxRecDepth 100000 in
theorem k_X6_layNumbers_b113 {l : Launch} {Y : ZY} {G : ZG} {σ' : ZS} (h : zOk (l, rm_X6_layNumbers, 6, 0, 0) Y G cX6_layNumbers RX6 none) (hq : zRet (l, rm_X6_layNumbers, 6, 0, 0) Y G none σ') (N : Nat) {kb59 : Int32 → Int32 → ZS → Option (Unit × ZS)} (x1 : Int32) (x2 : Int32) (x3 : Int32) (x5 : Int32) (hb59 : ∀ (x4_ : Int32) (x5_ : Int32) (σ_ : ZS), kb59 x4_ x5_ σ_ = some ((), σ') → Z (l, rm_X6_layNumbers, 6, 0, 0) Y G σ_ [(0, .ref (G.1 1067)), (1, .int x1), (2, .int x2), (3, .int x3), (4, .int x4_), (5, .int x5_)] [] 59) (σ : ZS) (hf : f_X6_layNumbers_b113 N kb59 x1 x2 x3 x5 σ = some ((), σ')) : Z (l, rm_X6_layNumbers, 6, 0, 0) Y G σ [(0, .ref (G.1 1067)), (1, .int x1), (2, .int x2), (3, .int x3), (5, .int x5)] [] 113 := by
  rw [f_X6_layNumbers_b113] at hf
  refine z_iconst h (v := (1 : Int32)) dX6_layNumbers_113 ic_1 ?_
  refine z_goto h (tgt := 118) dX6_layNumbers_114 (by decide) ?_
  exact z_sub [0, 1, 2, 3, 4] rfl (k_X6_layNumbers_b118 h hq N x1 x2 x3 x5 (1 : Int32) hb59 _ hf)
set_option maxHeartbeats 4000000 in
set_option maxRecDepth 100000 in
theorem k_X6_layNumbers_b117 {l : Launch} {Y : ZY} {G : ZG} {σ' : ZS} (h : zOk (l, rm_X6_layNumbers, 6, 0, 0) Y G cX6_layNumbers RX6 none) (hq : zRet (l, rm_X6_layNumbers, 6, 0, 0) Y G none σ') (N : Nat) {kb59 : Int32 → Int32 → ZS → Option (Unit × ZS)} (x1 : Int32) (x2 : Int32) (x3 : Int32) (x5 : Int32) (hb59 : ∀ (x4_ : Int32) (x5_ : Int32) (σ_ : ZS), kb59 x4_ x5_ σ_ = some ((), σ') → Z (l, rm_X6_layNumbers, 6, 0, 0) Y G σ_ [(0, .ref (G.1 1067)), (1, .int x1), (2, .int x2), (3, .int x3), (4, .int x4_), (5, .int x5_)] [] 59) (σ : ZS) (hf : f_X6_layNumbers_b117 N kb59 x1 x2 x3 x5 σ = some ((), σ')) : Z (l, rm_X6_layNumbers, 6, 0, 0) Y G σ [(0, .ref (G.1 1067)), (1, .int x1), (2, .int x2), (3, .int x3), (5, .int x5)] [] 117 := by
  rw [f_X6_layNumbers_b117] at hf
  refine z_iconst h (v := (0 : Int32)) dX6_layNumbers_117 ic_0 ?_
  exact z_sub [0, 1, 2, 3, 4] rfl (k_X6_layNumbers_b118 h hq N x1 x2 x3 x5 (0 : Int32) hb59 _ hf)
set_option maxHeartbeats 4000000 in
set_option maxRecDepth 100000 in
theorem k_X6_layNumbers_h59 {l : Launch} {Y : ZY} {G : ZG} {σ' : ZS} (h : zOk (l, rm_X6_layNumbers, 6, 0, 0) Y G cX6_layNumbers RX6 none) (hq : zRet (l, rm_X6_layNumbers, 6, 0, 0) Y G none σ') (N : Nat) {kb24 : Int32 → ZS → Option (Unit × ZS)} (x1 : Int32) (x2 : Int32) (x3 : Int32) (hb24 : ∀ (x2_ : Int32) (σ_ : ZS), kb24 x2_ σ_ = some ((), σ') → Z (l, rm_X6_layNumbers, 6, 0, 0) Y G σ_ [(0, .ref (G.1 1067)), (1, .int x1), (2, .int x2_)] [] 24) : ∀ (n : Nat) (x4 : Int32) (x5 : Int32) (σ : ZS), f_X6_layNumbers_h59 N kb24 x1 x2 x3 n x4 x5 σ = some ((), σ') → Z (l, rm_X6_layNumbers, 6, 0, 0) Y G σ [(0, .ref (G.1 1067)), (1, .int x1), (2, .int x2), (3, .int x3), (4, .int x4), (5, .int x5)] [] 59 := by
  intro n
  induction n with
  | zero =>
    intro x4 x5 σ hf
    rw [f_X6_layNumbers_h59] at hf
    cases hf
  | succ n ih =>
    intro x4 x5 σ hf
    rw [f_X6_layNumbers_h59] at hf
    refine z_iload h dX6_layNumbers_59 5 rfl ?_
    refine z_aload_n h dX6_layNumbers_61 rfl 0 rfl ?_
    refine z_gfI h zC6 (c := 1067) tg_1067 ln_1067 0 rfl ft_6_0 wd_155 dX6_layNumbers_62 ?_
    refine z_icmp_ge h (tgt := 126) dX6_layNumbers_65 (by decide) (fun g11 => ?_) (fun g11 => ?_)
    · have hf := it_pos g11 hf
      refine z_aload_n h dX6_layNumbers_126 rfl 0 rfl ?_
      refine z_gfR h zC6 (d := 1076) (c := 1067) tg_1067 ln_1067 13 rfl ft_6_13 rf_1067_13 wd_97 dX6_layNumbers_127 ?_
      refine z_bipush h (v := (7 : Int32)) dX6_layNumbers_130 bp_7 ?_
      refine z_iload_n h dX6_layNumbers_132 rfl 1 rfl ?_
      refine z_imul h dX6_layNumbers_133 ?_
      refine z_iload_n h dX6_layNumbers_134 rfl 2 rfl ?_
      refine z_iadd h dX6_layNumbers_135 ?_
      refine z_iload h dX6_layNumbers_136 4 rfl ?_
      refine z_if_eq h (tgt := 145) dX6_layNumbers_138 (by decide) (fun g12 => ?_) (fun g12 => ?_)
      · have hf := it_pos g12 hf
        refine z_iload_n h dX6_layNumbers_145 rfl 3 rfl ?_
        refine z_iload_n h dX6_layNumbers_146 rfl 2 rfl ?_
        refine z_icmp_ge h (tgt := 164) dX6_layNumbers_147 (by decide) (fun g13 => ?_) (fun g13 => ?_)
        · have hf := it_pos g13 hf
          refine z_aload_n h dX6_layNumbers_164 rfl 0 rfl ?_
          refine z_gfI h zC6 (c := 1067) tg_1067 ln_1067 10 rfl ft_6_10 wd_424 dX6_layNumbers_165 ?_
          exact z_sub [0, 1, 2, 3, 4] rfl (k_X6_layNumbers_b168 h hq N x1 x2 x3 x4 (((7 : Int32) * x1) + x2) (gI σ 1067 10) hb24 _ hf)
        · have hf := it_neg g13 hf
          refine z_aload_n h dX6_layNumbers_150 rfl 0 rfl ?_
          refine z_gfR h zC6 (d := 1076) (c := 1067) tg_1067 ln_1067 13 rfl ft_6_13 rf_1067_13 wd_97 dX6_layNumbers_151 ?_
          refine z_bipush h (v := (7 : Int32)) dX6_layNumbers_154 bp_7 ?_
          refine z_iload_n h dX6_layNumbers_156 rfl 1 rfl ?_
          refine z_imul h dX6_layNumbers_157 ?_
          refine z_iload_n h dX6_layNumbers_158 rfl 3 rfl ?_
          refine z_iadd h dX6_layNumbers_159 ?_
          obtain ⟨g21, hf⟩ := ck_out hf
          refine z_iald h (c := 1076) tg_1076 ln_1076 g21 dX6_layNumbers_160 ?_
          refine z_goto h (tgt := 168) dX6_layNumbers_161 (by decide) ?_
          exact z_sub [0, 1, 2, 3, 4] rfl (k_X6_layNumbers_b168 h hq N x1 x2 x3 x4 (((7 : Int32) * x1) + x2) (gI σ 1076 ((((7 : Int32) * x1) + x3).toNatClampNeg)) hb24 _ hf)
      · have hf := it_neg g12 hf
        refine z_iconst h (v := (-1 : Int32)) dX6_layNumbers_141 ic_m1 ?_
        refine z_goto h (tgt := 168) dX6_layNumbers_142 (by decide) ?_
        exact z_sub [0, 1, 2, 3, 4] rfl (k_X6_layNumbers_b168 h hq N x1 x2 x3 x4 (((7 : Int32) * x1) + x2) (-1 : Int32) hb24 _ hf)
    · have hf := it_neg g11 hf
      refine z_iload h dX6_layNumbers_68 4 rfl ?_
      refine z_if_ne h (tgt := 113) dX6_layNumbers_70 (by decide) (fun g22 => ?_) (fun g22 => ?_)
      · have hf := it_neg g22 hf
        exact z_sub [0, 1, 2, 3, 5] rfl (k_X6_layNumbers_b113 h hq N x1 x2 x3 x5 (fun x4_ x5_ σ_ hf_ => ih x4_ x5_ σ_ hf_) _ hf)
      · have hf := it_pos g22 hf
        refine z_aload_n h dX6_layNumbers_73 rfl 0 rfl ?_
        refine z_iload h dX6_layNumbers_74 5 rfl ?_
        refine z_iload_n h dX6_layNumbers_76 rfl 1 rfl ?_
        obtain ⟨v24, σ25, e25, hf⟩ := obd_out hf
        refine z_cVv h (n := 2) (c_X6_isHeld l G e25) zC6 tg_1067 ln_1067 rfl rfl wd_439 wd_440 wd_441 wd_5 wd_442 (by decide +kernel) ⟨rfl, rfl⟩ rfl rfl rfl dX6_layNumbers_77 ⟨Nat.zero_le _, Nat.zero_le _⟩ ?_
        refine z_if_eq h (tgt := 117) dX6_layNumbers_80 (by decide) (fun g26 => ?_) (fun g26 => ?_)
        · have hf := it_pos g26 hf
          exact z_sub [0, 1, 2, 3, 5] rfl (k_X6_layNumbers_b117 h hq N x1 x2 x3 x5 (fun x4_ x5_ σ_ hf_ => ih x4_ x5_ σ_ hf_) _ hf)
        · have hf := it_neg g26 hf
          refine z_iload_n h dX6_layNumbers_83 rfl 1 rfl ?_
          refine z_iconst h (v := (2 : Int32)) dX6_layNumbers_84 ic_2 ?_
          refine z_icmp_ne h (tgt := 97) dX6_layNumbers_85 (by decide) (fun g27 => ?_) (fun g27 => ?_)
          · have hf := it_neg g27 hf
            refine z_aload_n h dX6_layNumbers_97 rfl 0 rfl ?_
            refine z_gfR h zC6 (d := 1075) (c := 1067) tg_1067 ln_1067 12 rfl ft_6_12 rf_1067_12 wd_96 dX6_layNumbers_98 ?_
            refine z_bipush h (v := (7 : Int32)) dX6_layNumbers_101 bp_7 ?_
            refine z_iload_n h dX6_layNumbers_103 rfl 1 rfl ?_
            refine z_imul h dX6_layNumbers_104 ?_
            refine z_iload h dX6_layNumbers_105 5 rfl ?_
            refine z_iadd h dX6_layNumbers_107 ?_
            obtain ⟨g28, hf⟩ := ck_out hf
            refine z_iald h (c := 1075) tg_1075 ln_1075 g28 dX6_layNumbers_108 ?_
            refine z_iload_n h dX6_layNumbers_109 rfl 3 rfl ?_
            refine z_icmp_ne h (tgt := 117) dX6_layNumbers_110 (by decide) (fun g29 => ?_) (fun g29 => ?_)
            · have hf := it_neg g29 hf
              exact z_sub [0, 1, 2, 3, 5] rfl (k_X6_layNumbers_b117 h hq N x1 x2 x3 x5 (fun x4_ x5_ σ_ hf_ => ih x4_ x5_ σ_ hf_) _ hf)
            · have hf := it_pos g29 hf
              exact z_sub [0, 1, 2, 3, 5] rfl (k_X6_layNumbers_b113 h hq N x1 x2 x3 x5 (fun x4_ x5_ σ_ hf_ => ih x4_ x5_ σ_ hf_) _ hf)
          · have hf := it_pos g27 hf
            refine z_iload h dX6_layNumbers_88 5 rfl ?_
            refine z_iload_n h dX6_layNumbers_90 rfl 2 rfl ?_
            refine z_icmp_ne h (tgt := 117) dX6_layNumbers_91 (by decide) (fun g30 => ?_) (fun g30 => ?_)
            · have hf := it_neg g30 hf
              exact z_sub [0, 1, 2, 3, 5] rfl (k_X6_layNumbers_b117 h hq N x1 x2 x3 x5 (fun x4_ x5_ σ_ hf_ => ih x4_ x5_ σ_ hf_) _ hf)
            · have hf := it_pos g30 hf
              refine z_goto h (tgt := 113) dX6_layNumbers_94 (by decide) ?_
              exact z_sub [0, 1, 2, 3, 5] rfl (k_X6_layNumbers_b113 h hq N x1 x2 x3 x5 (fun x4_ x5_ σ_ hf_ => ih x4_ x5_ σ_ hf_) _ hf)
set_option maxHeartbeats 4000000 in
set_option maxRecDepth 100000 in
theorem k_X6_layNumbers_b52 {l : Launch} {Y : ZY} {G : ZG} {σ' : ZS} (h : zOk (l, rm_X6_layNumbers, 6, 0, 0) Y G cX6_layNumbers RX6 none) (hq : zRet (l, rm_X6_layNumbers, 6, 0, 0) Y G none σ') (N : Nat) {kb24 : Int32 → ZS → Option (Unit × ZS)} (x1 : Int32) (x2 : Int32) (s0 : Int32) (hb24 : ∀ (x2_ : Int32) (σ_ : ZS), kb24 x2_ σ_ = some ((), σ') → Z (l, rm_X6_layNumbers, 6, 0, 0) Y G σ_ [(0, .ref (G.1 1067)), (1, .int x1), (2, .int x2_)] [] 24) (σ : ZS) (hf : f_X6_layNumbers_b52 N kb24 x1 x2 s0 σ = some ((), σ')) : Z (l, rm_X6_layNumbers, 6, 0, 0) Y G σ [(0, .ref (G.1 1067)), (1, .int x1), (2, .int x2)] [.int s0] 52 := by
  rw [f_X6_layNumbers_b52] at hf
  refine z_istore_n h dX6_layNumbers_52 rfl (lv' := [(3, .int s0), (0, .ref (G.1 1067)), (1, .int x1), (2, .int x2)]) rfl rfl ?_
  refine z_iconst h (v := (0 : Int32)) dX6_layNumbers_53 ic_0 ?_
  refine z_istore h dX6_layNumbers_54 (lv' := [(4, .int (0 : Int32)), (3, .int s0), (0, .ref (G.1 1067)), (1, .int x1), (2, .int x2)]) rfl rfl ?_
  refine z_iconst h (v := (0 : Int32)) dX6_layNumbers_56 ic_0 ?_
  refine z_istore h dX6_layNumbers_57 (lv' := [(5, .int (0 : Int32)), (4, .int (0 : Int32)), (3, .int s0), (0, .ref (G.1 1067)), (1, .int x1), (2, .int x2)]) rfl rfl ?_
  exact z_sub [3, 4, 5, 2, 1, 0] rfl (k_X6_layNumbers_h59 h hq N x1 x2 s0 hb24 _ _ _ _ hf)
set_option maxHeartbeats 4000000 in
set_option maxRecDepth 100000 in
theorem k_X6_layNumbers_h24 {l : Launch} {Y : ZY} {G : ZG} {σ' : ZS} (h : zOk (l, rm_X6_layNumbers, 6, 0, 0) Y G cX6_layNumbers RX6 none) (hq : zRet (l, rm_X6_layNumbers, 6, 0, 0) Y G none σ') (N : Nat) {kb17 : Int32 → ZS → Option (Unit × ZS)} (x1 : Int32) (hb17 : ∀ (x1_ : Int32) (σ_ : ZS), kb17 x1_ σ_ = some ((), σ') → Z (l, rm_X6_layNumbers, 6, 0, 0) Y G σ_ [(0, .ref (G.1 1067)), (1, .int x1_)] [] 17) : ∀ (n : Nat) (x2 : Int32) (σ : ZS), f_X6_layNumbers_h24 N kb17 x1 n x2 σ = some ((), σ') → Z (l, rm_X6_layNumbers, 6, 0, 0) Y G σ [(0, .ref (G.1 1067)), (1, .int x1), (2, .int x2)] [] 24 := by
  intro n
  induction n with
  | zero =>
    intro x2 σ hf
    rw [f_X6_layNumbers_h24] at hf
    cases hf
  | succ n ih =>
    intro x2 σ hf
    rw [f_X6_layNumbers_h24] at hf
    refine z_iload_n h dX6_layNumbers_24 rfl 2 rfl ?_
    refine z_aload_n h dX6_layNumbers_25 rfl 0 rfl ?_
    refine z_gfI h zC6 (c := 1067) tg_1067 ln_1067 0 rfl ft_6_0 wd_155 dX6_layNumbers_26 ?_
    refine z_icmp_ge h (tgt := 199) dX6_layNumbers_29 (by decide) (fun g7 => ?_) (fun g7 => ?_)
    · have hf := it_pos g7 hf
      obtain ⟨v8, ev8, hf⟩ := bd_ex hf
      refine z_iinc h (v := v8) (lv' := [(1, .int v8), (0, .ref (G.1 1067)), (2, .int x2)]) dX6_layNumbers_199 1 rfl (by rw [ev8]; rfl) rfl rfl ?_
      refine z_goto h (tgt := 17) dX6_layNumbers_202 (by decide) ?_
      exact z_sub [1, 0] rfl (hb17 _ _ hf)
    · have hf := it_neg g7 hf
      refine z_iload_n h dX6_layNumbers_32 rfl 1 rfl ?_
      refine z_iconst h (v := (2 : Int32)) dX6_layNumbers_33 ic_2 ?_
      refine z_icmp_ne h (tgt := 41) dX6_layNumbers_34 (by decide) (fun g9 => ?_) (fun g9 => ?_)
      · have hf := it_neg g9 hf
        refine z_aload_n h dX6_layNumbers_41 rfl 0 rfl ?_
        refine z_gfR h zC6 (d := 1075) (c := 1067) tg_1067 ln_1067 12 rfl ft_6_12 rf_1067_12 wd_96 dX6_layNumbers_42 ?_
        refine z_bipush h (v := (7 : Int32)) dX6_layNumbers_45 bp_7 ?_
        refine z_iload_n h dX6_layNumbers_47 rfl 1 rfl ?_
        refine z_imul h dX6_layNumbers_48 ?_
        refine z_iload_n h dX6_layNumbers_49 rfl 2 rfl ?_
        refine z_iadd h dX6_layNumbers_50 ?_
        obtain ⟨g10, hf⟩ := ck_out hf
        refine z_iald h (c := 1075) tg_1075 ln_1075 g10 dX6_layNumbers_51 ?_
        exact z_sub [0, 1, 2] rfl (k_X6_layNumbers_b52 h hq N x1 x2 (gI σ 1075 ((((7 : Int32) * x1) + x2).toNatClampNeg)) (fun x2_ σ_ hf_ => ih x2_ σ_ hf_) _ hf)
      · have hf := it_pos g9 hf
        refine z_iload_n h dX6_layNumbers_37 rfl 2 rfl ?_
        refine z_goto h (tgt := 52) dX6_layNumbers_38 (by decide) ?_
        exact z_sub [0, 1, 2] rfl (k_X6_layNumbers_b52 h hq N x1 x2 x2 (fun x2_ σ_ hf_ => ih x2_ σ_ hf_) _ hf)
set_option maxHeartbeats 4000000 in
set_option maxRecDepth 100000 in
theorem k_X6_layNumbers_h17 {l : Launch} {Y : ZY} {G : ZG} {σ' : ZS} (h : zOk (l, rm_X6_layNumbers, 6, 0, 0) Y G cX6_layNumbers RX6 none) (hq : zRet (l, rm_X6_layNumbers, 6, 0, 0) Y G none σ') (N : Nat) : ∀ (n : Nat) (x1 : Int32) (σ : ZS), f_X6_layNumbers_h17 N n x1 σ = some ((), σ') → Z (l, rm_X6_layNumbers, 6, 0, 0) Y G σ [(0, .ref (G.1 1067)), (1, .int x1)] [] 17 := by
  intro n
  induction n with
  | zero =>
    intro x1 σ hf
    rw [f_X6_layNumbers_h17] at hf
    cases hf
  | succ n ih =>
    intro x1 σ hf
    rw [f_X6_layNumbers_h17] at hf
    refine z_iload_n h dX6_layNumbers_17 rfl 1 rfl ?_
    refine z_iconst h (v := (3 : Int32)) dX6_layNumbers_18 ic_3 ?_
    refine z_icmp_ge h (tgt := 205) dX6_layNumbers_19 (by decide) (fun g6 => ?_) (fun g6 => ?_)
    · have hf := it_pos g6 hf
      exact z_vret h (rt_V hf hq) dX6_layNumbers_205
    · have hf := it_neg g6 hf
      refine z_iconst h (v := (0 : Int32)) dX6_layNumbers_22 ic_0 ?_
      refine z_istore_n h dX6_layNumbers_23 rfl (lv' := [(2, .int (0 : Int32)), (0, .ref (G.1 1067)), (1, .int x1)]) rfl rfl ?_
      exact z_sub [1, 2, 0] rfl (k_X6_layNumbers_h24 h hq N x1 (fun x1_ σ_ hf_ => ih x1_ σ_ hf_) _ _ _ hf)
set_option maxHeartbeats 4000000 in
set_option maxRecDepth 100000 in
theorem c_X6_layNumbers (l : Launch) (G : ZG) {N : Nat} {σ σ' : ZS} {r : Unit} (hf : f_X6_layNumbers N σ = some (r, σ')) : zMet l G yX6_layNumbers cX6_layNumbers 6 none rm_X6_layNumbers [.ref (G.1 1067)] σ none σ' := by
  refine z_met (by decide +kernel) rfl (fun Y h hq => ?_)
  have h : zOk (l, rm_X6_layNumbers, 6, 0, 0) Y G cX6_layNumbers RX6 none := h
  rw [f_X6_layNumbers] at hf
  refine z_sub (lv' := [(0, .ref (G.1 1067))]) [0] rfl ?_
  refine z_aload_n h dX6_layNumbers_0 rfl 0 rfl ?_
  refine z_iconst h (v := (0 : Int32)) dX6_layNumbers_1 ic_0 ?_
  obtain ⟨v1, σ2, e2, hf⟩ := obd_out hf
  refine z_cV0 h (n := 1) (c_X6_join l G e2) zC6 tg_1067 ln_1067 rfl rfl wd_435 wd_436 wd_437 wd_5 wd_438 (by decide +kernel) ⟨rfl, rfl⟩ rfl rfl rfl dX6_layNumbers_2 ⟨Nat.zero_le _, Nat.zero_le _⟩ ?_
  refine z_aload_n h dX6_layNumbers_5 rfl 0 rfl ?_
  refine z_iconst h (v := (1 : Int32)) dX6_layNumbers_6 ic_1 ?_
  obtain ⟨v3, σ4, e4, hf⟩ := obd_out hf
  refine z_cV0 h (n := 1) (c_X6_join l G e4) zC6 tg_1067 ln_1067 rfl rfl wd_435 wd_436 wd_437 wd_5 wd_438 (by decide +kernel) ⟨rfl, rfl⟩ rfl rfl rfl dX6_layNumbers_7 ⟨Nat.zero_le _, Nat.zero_le _⟩ ?_
  refine z_aload_n h dX6_layNumbers_10 rfl 0 rfl ?_
  refine z_iconst h (v := (0 : Int32)) dX6_layNumbers_11 ic_0 ?_
  refine z_pfI h zC6 (c := 1067) tg_1067 ln_1067 10 rfl ft_6_10 wd_424 rfl (ty := .int) (by decide +kernel) rfl rfl dX6_layNumbers_12 ?_
  refine z_gen (fun σ5 eσ5 => ?_)
  have hf := bd_to eσ5 hf
  refine z_iconst h (v := (0 : Int32)) dX6_layNumbers_15 ic_0 ?_
  refine z_istore_n h dX6_layNumbers_16 rfl (lv' := [(1, .int (0 : Int32)), (0, .ref (G.1 1067))]) rfl rfl ?_
  exact z_sub [1, 0] rfl (k_X6_layNumbers_h17 h hq N _ _ _ hf)
