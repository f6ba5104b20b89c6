-- ===== the reference's frame and small methods =====
def MFr (σ : ZS) (φ : FR) : Prop := gI σ 1067 0 = nt (nn φ) ∧ gI σ 1067 4 = nt (nb φ) ∧ (∀ f k, f < 6 → k < lf φ f → gI σ (1068 + f) k = nt (φ.1 f k)) ∧ ∀ c v n, c < 3 → v < 2 → n < nn φ → gI σ 1074 (14 * c + 2 * n + v) = nt (φ.1 (6 + 2 * c + v) n)
theorem MFr_n {σ : ZS} {φ : FR} (h : MFr σ φ) : gI σ 1067 0 = nt (nn φ) := h.1
theorem MFr_b {σ : ZS} {φ : FR} (h : MFr σ φ) : gI σ 1067 4 = nt (nb φ) := h.2.1
theorem MFr_x {σ : ZS} {φ : FR} (h : MFr σ φ) {k : Nat} (hk : k < nn φ) : gI σ 1068 k = nt (φ.1 0 k) := h.2.2.1 0 k (by omega) hk
theorem MFr_y {σ : ZS} {φ : FR} (h : MFr σ φ) {k : Nat} (hk : k < nn φ) : gI σ 1069 k = nt (φ.1 1 k) := h.2.2.1 1 k (by omega) hk
theorem MFr_k {σ : ZS} {φ : FR} (h : MFr σ φ) {k : Nat} (hk : k < nn φ) : gI σ 1070 k = nt (φ.1 2 k) := h.2.2.1 2 k (by omega) hk
theorem MFr_f {σ : ZS} {φ : FR} (h : MFr σ φ) {k : Nat} (hk : k < nb φ) : gI σ 1071 k = nt (φ.1 3 k) := h.2.2.1 3 k (by omega) hk
theorem MFr_g {σ : ZS} {φ : FR} (h : MFr σ φ) {k : Nat} (hk : k < nb φ) : gI σ 1072 k = nt (φ.1 4 k) := h.2.2.1 4 k (by omega) hk
theorem MFr_s {σ : ZS} {φ : FR} (h : MFr σ φ) {k : Nat} (hk : k < nb φ) : gI σ 1073 k = nt (φ.1 5 k) := h.2.2.1 5 k (by omega) hk
theorem MFr_l {σ : ZS} {φ : FR} (h : MFr σ φ) {c v n : Nat} (hc : c < 3) (hv : v < 2) (hn : n < nn φ) : gI σ 1074 (14 * c + 2 * n + v) = nt (φ.1 (6 + 2 * c + v) n) := h.2.2.2 c v n hc hv hn
theorem MFr_same {σ τ : ZS} {φ : FR} (h : MFr σ φ) (h0 : gI τ 1067 0 = gI σ 1067 0) (h4 : gI τ 1067 4 = gI σ 1067 4) (h1 : ∀ c, 1068 ≤ c → c < 1075 → τ.1 c = σ.1 c) : MFr τ φ :=
  ⟨by rw [h0]; exact h.1, by rw [h4]; exact h.2.1, fun f k hf hk => by unfold gI; rw [h1 _ (by omega) (by omega)]; exact h.2.2.1 f k hf hk, fun c v n a1 a2 a3 => by unfold gI; rw [h1 _ (by omega) (by omega)]; exact h.2.2.2 c v n a1 a2 a3⟩
/-- what a method of the reference did -/
def Mst (m : Nat) (σ τ : ZS) (ψ : FR) : Prop := MFr τ ψ ∧ τ.2 = σ.2 ∧ (∀ c, c ≠ 1067 → ¬ (1068 ≤ c ∧ c < 1075) → c ≠ 1096 → τ.1 c = σ.1 c) ∧ (∀ k, k ≠ 0 → k ≠ 4 → k ≠ 9 → gI τ 1067 k = gI σ 1067 k) ∧ (m = 0 → τ = σ) ∧ (m = 1 → gI τ 1067 9 = nt 1 ∧ ∀ k, k < 3 → gI τ 1096 k = nt 0) ∧ (m = 2 → gI τ 1067 9 = gI σ 1067 9 ∧ ∀ k, k < 3 → gI τ 1096 k = nt 0)
theorem Mst_0 {σ : ZS} {φ : FR} (h : MFr σ φ) : Mst 0 σ σ φ := ⟨h, rfl, fun _ _ _ _ => rfl, fun _ _ _ _ => rfl, fun _ => rfl, fun h => by omega, fun h => by omega⟩
section
variable {N : Nat} {σ : ZS} {φ : FR}
theorem m_isNode (h : MFr σ φ) (w : WF φ) {x : Int} (hx : iR x) : f_X6_isNode N (nt x) σ = some (nt (if 0 ≤ x ∧ x ≤ nn φ - 1 then 1 else 0), σ) := by
  have := w.1
  unfold f_X6_isNode
  rw [MFr_n h, n_0, n_1, nt_sub, s_in N x 0 _ hx ⟨by omega, by omega⟩ ⟨by omega, by omega⟩]
  simp (disch := omega) only [bd_eq, obd_some, ck_inb, nat_k, nat_nt, nt_add, nt_sub, nt_mul, nt_neg, le_t, le_f, lt_t, lt_f, eq_t, eq_f, br_p, bb_p, n_0, n_1, n_2, n_3, n_4, n_5, n_6, n_7, n_8, n_9, n_10, n_11, n_12, n_13, n_14, n_15, n_16, n_17, n_18, n_19, n_20, n_21, n_22, n_23, n_24, n_25, n_26, n_27, n_28, n_29, n_30, n_31, n_32, n_42, n_83, n_99, n_100, n_126, n_127, n_180, n_200, n_252, n_924, n_4096, n_20000, n_m1, n_m2, n_m3, n_m4, n_m5, n_m6, n_m99]
theorem m_isBar (h : MFr σ φ) (w : WF φ) {x : Int} (hx : iR x) : f_X6_isBar N (nt x) σ = some (nt (if 0 ≤ x ∧ x ≤ nb φ - 1 then 1 else 0), σ) := by
  have := w.2.1
  unfold f_X6_isBar
  rw [MFr_b h, n_0, n_1, nt_sub, s_in N x 0 _ hx ⟨by omega, by omega⟩ ⟨by omega, by omega⟩]
  simp (disch := omega) only [bd_eq, obd_some, ck_inb, nat_k, nat_nt, nt_add, nt_sub, nt_mul, nt_neg, le_t, le_f, lt_t, lt_f, eq_t, eq_f, br_p, bb_p, n_0, n_1, n_2, n_3, n_4, n_5, n_6, n_7, n_8, n_9, n_10, n_11, n_12, n_13, n_14, n_15, n_16, n_17, n_18, n_19, n_20, n_21, n_22, n_23, n_24, n_25, n_26, n_27, n_28, n_29, n_30, n_31, n_32, n_42, n_83, n_99, n_100, n_126, n_127, n_180, n_200, n_252, n_924, n_4096, n_20000, n_m1, n_m2, n_m3, n_m4, n_m5, n_m6, n_m99]
theorem m_isEnd (h : MFr σ φ) (w : WF φ) {x : Int} (hx : iR x) : f_X6_isEnd N (nt x) σ = some (nt (if 0 ≤ x ∧ x ≤ 2 * nb φ - 1 then 1 else 0), σ) := by
  have := w.2.1
  unfold f_X6_isEnd
  rw [MFr_b h, n_0, n_1, n_2, nt_mul, nt_sub, s_in N x 0 _ hx ⟨by omega, by omega⟩ ⟨by omega, by omega⟩]
  simp (disch := omega) only [bd_eq, obd_some, ck_inb, nat_k, nat_nt, nt_add, nt_sub, nt_mul, nt_neg, le_t, le_f, lt_t, lt_f, eq_t, eq_f, br_p, bb_p, n_0, n_1, n_2, n_3, n_4, n_5, n_6, n_7, n_8, n_9, n_10, n_11, n_12, n_13, n_14, n_15, n_16, n_17, n_18, n_19, n_20, n_21, n_22, n_23, n_24, n_25, n_26, n_27, n_28, n_29, n_30, n_31, n_32, n_42, n_83, n_99, n_100, n_126, n_127, n_180, n_200, n_252, n_924, n_4096, n_20000, n_m1, n_m2, n_m3, n_m4, n_m5, n_m6, n_m99]
theorem m_forget (hN : 100 ≤ N) : f_X6_forget N σ = some ((), wI σ 1096 3 (fun _ => nt 0)) := by
  unfold f_X6_forget
  have key := lp_go (fun n k (s : ZS) => f_X6_forget_h2 N n (nt (k : Nat)) s) (fun k => wI σ 1096 k (fun _ => nt 0)) 3 (fun n k hk => by
    rw [f_X6_forget_h2, n_3, le_f (by omega) (by omega) (by omega), n_0, n_1, ck_inb (by omega) (by omega) (by omega), nat_k (by omega), bd_eq, nt_add, bd_eq, wI_s σ 1096 k (fun _ => nt 0)]
    rfl) 3 0 N (by omega) (by omega)
  obtain ⟨n, en⟩ : ∃ n, N - 3 = n + 1 := ⟨N - 3 - 1, by omega⟩
  have key : f_X6_forget_h2 N N (0 : Int32) (wI σ 1096 0 (fun _ => nt 0)) = f_X6_forget_h2 N (N - 3) (nt 3) (wI σ 1096 3 (fun _ => nt 0)) := key
  rw [wI_0] at key
  rw [key, en, f_X6_forget_h2, n_3, le_t (by omega) (by omega) (by omega)]
theorem wI_o {σ : ZS} {c c' n : Nat} {v : Nat → Int32} (h : c' ≠ c) : (wI σ c n v).1 c' = σ.1 c' := by
  funext k
  show (if c' = c ∧ k < n then v k else σ.1 c' k) = _
  rw [if_neg (fun q => h q.1)]
theorem gI_wI_c {σ : ZS} {c c' n k : Nat} {v : Nat → Int32} (h : c' ≠ c) : gI (wI σ c n v) c' k = gI σ c' k := by unfold gI; rw [wI_o h]
theorem m_hold (hN : 100 ≤ N) (h : MFr σ φ) (w : WF φ) {n k : Int} (hn : iR n) (hk : iR k) : ∃ τ, f_X6_hold N (nt n) (nt k) σ = some (nt (oHold φ n k).1, τ) ∧ Mst (oHold φ n k).2.2 σ τ (oHold φ n k).2.1 := by
  have hw := w.1
  unfold f_X6_hold oHold
  rw [m_isNode h w hn, obd_some, br_p]
  by_cases e1 : 0 ≤ n ∧ n ≤ nn φ - 1
  rotate_left
  · rw [if_neg e1, if_neg e1]; exact ⟨σ, rfl, Mst_0 h⟩
  rw [if_pos e1, if_pos e1, n_0, n_3, s_in N k 0 3 hk ⟨by omega, by omega⟩ ⟨by omega, by omega⟩, obd_some, n_0.symm, br_p]
  by_cases e2 : 0 ≤ k ∧ k ≤ 3
  rotate_left
  · rw [if_neg e2, if_neg e2]; exact ⟨σ, rfl, Mst_0 h⟩
  rw [if_pos e2, if_pos e2, ck_inb (by omega) (by omega) (by omega), bd_eq, ck_inb (by omega) (by omega) (by omega), nat_nt (by omega) (by omega), MFr_k h (by omega), bd_eq, bd_eq, m_forget hN, obd_some]
  refine ⟨_, rfl, ⟨?_, ?_, fun f j hf hj => ?_, fun c v j hc hv hj => ?_⟩, rfl, fun c c1 c2 c3 => ?_, fun j j0 j4 j9 => ?_, fun q => absurd q (by simp), fun _ => ⟨?_, fun j hj => ?_⟩, fun q => absurd q (by simp)⟩
  · rw [gI_wI_c (by omega), gI_sI_k (by omega), gI_sI_c (by omega)]; exact h.1
  · rw [gI_wI_c (by omega), gI_sI_k (by omega), gI_sI_c (by omega)]; exact h.2.1
  · rw [gI_wI_c (by omega), gI_sI_c (by omega), gI_sI]
    show _ = nt (if f = 2 ∧ j = n.toNat then k else φ.1 f j)
    by_cases e : f = 2 ∧ j = n.toNat
    · rw [if_pos e, if_pos (by omega)]
    · rw [if_neg e, if_neg (by omega)]
      exact h.2.2.1 f j hf hj
  · rw [gI_wI_c (by omega), gI_sI_c (by omega), gI_sI_c (by omega)]
    show _ = nt (if 6 + 2 * c + v = 2 ∧ j = n.toNat then k else φ.1 (6 + 2 * c + v) j)
    rw [if_neg (by omega)]
    exact h.2.2.2 c v j hc hv hj
  · rw [wI_o c3, sI_o c1, sI_o (by omega)]
  · rw [gI_wI_c (by omega), gI_sI_k j9, gI_sI_c (by omega)]
  · rw [gI_wI_c (by omega), gI_sI_at]; rfl
  · rw [gI_wI, if_pos ⟨rfl, hj⟩]
theorem m_strengthen (hN : 100 ≤ N) (h : MFr σ φ) (w : WF φ) {b s : Int} (hb : iR b) (hs : iR s) : ∃ τ, f_X6_strengthen N (nt b) (nt s) σ = some (nt (oStr φ b s).1, τ) ∧ Mst (oStr φ b s).2.2 σ τ (oStr φ b s).2.1 := by
  have hw := w.2.1
  unfold f_X6_strengthen oStr
  rw [m_isBar h w hb, obd_some, br_p]
  by_cases e1 : 0 ≤ b ∧ b ≤ nb φ - 1
  rotate_left
  · rw [if_neg e1, if_neg e1]; exact ⟨σ, rfl, Mst_0 h⟩
  rw [if_pos e1, if_pos e1, n_1, n_12, s_in N s 1 12 hs ⟨by omega, by omega⟩ ⟨by omega, by omega⟩, obd_some, br_p]
  by_cases e2 : 1 ≤ s ∧ s ≤ 12
  rotate_left
  · rw [if_neg e2, if_neg e2]; exact ⟨σ, rfl, Mst_0 h⟩
  rw [if_pos e2, if_pos e2, ck_inb (by omega) (by omega) (by omega), bd_eq, ck_inb (by omega) (by omega) (by omega), nat_nt (by omega) (by omega), MFr_s h (by omega), bd_eq, m_forget hN, obd_some]
  refine ⟨_, rfl, ⟨?_, ?_, fun f j hf hj => ?_, fun c v j hc hv hj => ?_⟩, rfl, fun c c1 c2 c3 => ?_, fun j j0 j4 j9 => ?_, fun q => absurd q (by simp), fun q => absurd q (by simp), fun _ => ⟨?_, fun j hj => ?_⟩⟩
  · rw [gI_wI_c (by omega), gI_sI_c (by omega)]; exact h.1
  · rw [gI_wI_c (by omega), gI_sI_c (by omega)]; exact h.2.1
  · rw [gI_wI_c (by omega), gI_sI]
    show _ = nt (if f = 5 ∧ j = b.toNat then s else φ.1 f j)
    by_cases e : f = 5 ∧ j = b.toNat
    · rw [if_pos e, if_pos (by omega)]
    · rw [if_neg e, if_neg (by omega)]
      exact h.2.2.1 f j hf hj
  · rw [gI_wI_c (by omega), gI_sI_c (by omega)]
    show _ = nt (if 6 + 2 * c + v = 5 ∧ j = b.toNat then s else φ.1 (6 + 2 * c + v) j)
    rw [if_neg (by omega)]
    exact h.2.2.2 c v j hc hv hj
  · rw [wI_o c3, sI_o (by omega)]
  · rw [gI_wI_c (by omega), gI_sI_c (by omega)]
  · rw [gI_wI_c (by omega), gI_sI_c (by omega)]
  · rw [gI_wI, if_pos ⟨rfl, hj⟩]
theorem m_lies (h : MFr σ φ) (w : WF φ) {b : Nat} (hb : b < nb φ) : f_X6_lies N (nt b) σ = some (nt (if φ.1 1 (φ.1 3 b).toNat = φ.1 1 (φ.1 4 b).toNat then 1 else 0), σ) := by
  have hw := w.1
  have hw2 := w.2.1
  have h1 := w.2.2.2.1 b hb
  have h2 := w.2.2.1 (φ.1 3 b).toNat (by omega)
  have h3 := w.2.2.1 (φ.1 4 b).toNat (by omega)
  unfold f_X6_lies
  rw [nat_k (by omega), MFr_f h hb, MFr_g h hb]
  simp (disch := omega) only [bd_eq, obd_some, ck_inb, nat_k, nat_nt, nt_add, nt_sub, nt_mul, nt_neg, le_t, le_f, lt_t, lt_f, eq_t, eq_f, br_p, bb_p, n_0, n_1, n_2, n_3, n_4, n_5, n_6, n_7, n_8, n_9, n_10, n_11, n_12, n_13, n_14, n_15, n_16, n_17, n_18, n_19, n_20, n_21, n_22, n_23, n_24, n_25, n_26, n_27, n_28, n_29, n_30, n_31, n_32, n_42, n_83, n_99, n_100, n_126, n_127, n_180, n_200, n_252, n_924, n_4096, n_20000, n_m1, n_m2, n_m3, n_m4, n_m5, n_m6, n_m99]
  rw [MFr_y h (by omega), MFr_y h (by omega)]
  by_cases e : φ.1 1 (φ.1 3 b).toNat = φ.1 1 (φ.1 4 b).toNat
  · rw [if_pos e, eq_t e]
  · rw [if_neg e, eq_f e (by omega) (by omega) (by omega) (by omega)]
theorem m_length (h : MFr σ φ) (w : WF φ) {b : Nat} (hb : b < nb φ) : f_X6_length N (nt b) σ = some (nt (lenB φ b), σ) := by
  have hw := w.1
  have hw2 := w.2.1
  have h1 := w.2.2.2.1 b hb
  unfold f_X6_length
  rw [nat_k (by omega), MFr_f h hb, MFr_g h hb]
  simp (disch := omega) only [bd_eq, obd_some, ck_inb, nat_k, nat_nt, nt_add, nt_sub, nt_mul, nt_neg, le_t, le_f, lt_t, lt_f, eq_t, eq_f, br_p, bb_p, n_0, n_1, n_2, n_3, n_4, n_5, n_6, n_7, n_8, n_9, n_10, n_11, n_12, n_13, n_14, n_15, n_16, n_17, n_18, n_19, n_20, n_21, n_22, n_23, n_24, n_25, n_26, n_27, n_28, n_29, n_30, n_31, n_32, n_42, n_83, n_99, n_100, n_126, n_127, n_180, n_200, n_252, n_924, n_4096, n_20000, n_m1, n_m2, n_m3, n_m4, n_m5, n_m6, n_m99]
  rw [MFr_x h (by omega), MFr_x h (by omega), MFr_y h (by omega), MFr_y h (by omega)]
  simp (disch := omega) only [bd_eq, obd_some, ck_inb, nat_k, nat_nt, nt_add, nt_sub, nt_mul, nt_neg, le_t, le_f, lt_t, lt_f, eq_t, eq_f, br_p, bb_p, n_0, n_1, n_2, n_3, n_4, n_5, n_6, n_7, n_8, n_9, n_10, n_11, n_12, n_13, n_14, n_15, n_16, n_17, n_18, n_19, n_20, n_21, n_22, n_23, n_24, n_25, n_26, n_27, n_28, n_29, n_30, n_31, n_32, n_42, n_83, n_99, n_100, n_126, n_127, n_180, n_200, n_252, n_924, n_4096, n_20000, n_m1, n_m2, n_m3, n_m4, n_m5, n_m6, n_m99]
  rfl
theorem m_ofBar (h : MFr σ φ) (w : WF φ) {n q : Int} (hn : iR n) (hq : iR q) : f_X6_ofBar N (nt n) (nt q) σ = some (nt (oOfB φ n q), σ) := by
  have hw := w.2.1
  unfold f_X6_ofBar oOfB
  rw [m_isBar h w hn, obd_some, br_p]
  by_cases e1 : 0 ≤ n ∧ n ≤ nb φ - 1
  rotate_left
  · rw [if_neg e1, if_neg e1]; rfl
  obtain ⟨M, rfl⟩ : ∃ M : Nat, n = M := ⟨n.toNat, by omega⟩
  rw [if_pos e1, if_pos e1, n_0, n_4, s_in N q 0 4 hq ⟨by omega, by omega⟩ ⟨by omega, by omega⟩, obd_some, n_0.symm, br_p]
  obtain ⟨hq1, hq2⟩ := hq
  by_cases e2 : 0 ≤ q ∧ q ≤ 4
  rotate_left
  · rw [if_neg e2, if_neg (by omega), if_neg (by omega), if_neg (by omega), if_neg (by omega), if_neg (by omega)]; rfl
  rw [if_pos e2, m_length h w (by omega), m_lies h w (by omega), obd_some, obd_some, br_p, n_0, n_1, n_2, n_3, ck_inb (by omega) (by omega) (by omega), ck_inb (by omega) (by omega) (by omega), ck_inb (by omega) (by omega) (by omega), nat_k (by omega), MFr_f h (by omega), MFr_g h (by omega), MFr_s h (by omega)]
  by_cases e3 : q = 0
  · rw [eq_t e3, if_pos e3]; rfl
  rw [eq_f e3 (by omega) (by omega) (by omega) (by omega), if_neg e3]
  by_cases e4 : q = 1
  · rw [eq_t e4, if_pos e4]; rfl
  rw [eq_f e4 (by omega) (by omega) (by omega) (by omega), if_neg e4]
  by_cases e5 : q = 2
  · rw [eq_t e5, if_pos e5]; rfl
  rw [eq_f e5 (by omega) (by omega) (by omega) (by omega), if_neg e5]
  by_cases e6 : q = 3
  · rw [eq_t e6, if_pos e6, Int.toNat_natCast]
    have hb := (w.2.2.2.1 M (by omega)).2.2.2.2.2.2
    unfold bOK at hb
    by_cases e7 : φ.1 1 (φ.1 3 M).toNat = φ.1 1 (φ.1 4 M).toNat
    · rw [if_pos e7, if_neg (by omega)]
    · rw [if_neg e7, if_pos (by omega)]
  rw [eq_f e6 (by omega) (by omega) (by omega) (by omega), if_neg e6, if_pos (by omega)]; rfl
theorem m_ofNode (h : MFr σ φ) (w : WF φ) {n q : Int} (hn : iR n) (hq : iR q) : f_X6_ofNode N (nt n) (nt q) σ = some (nt (oOfN φ n q), σ) := by
  have hw := w.1
  unfold f_X6_ofNode oOfN
  rw [m_isNode h w hn, obd_some, br_p]
  by_cases e1 : 0 ≤ n ∧ n ≤ nn φ - 1
  rotate_left
  · rw [if_neg e1, if_neg e1]; rfl
  obtain ⟨M, rfl⟩ : ∃ M : Nat, n = M := ⟨n.toNat, by omega⟩
  rw [if_pos e1, if_pos e1, n_0, n_8, s_in N q 0 8 hq ⟨by omega, by omega⟩ ⟨by omega, by omega⟩, obd_some, n_0.symm, br_p]
  by_cases e2 : 0 ≤ q ∧ q ≤ 8
  rotate_left
  · rw [if_neg e2, if_neg e2]; rfl
  rw [if_pos e2, if_pos e2, n_0, n_1, n_2, n_3, n_14, nt_sub, ck_inb (by omega) (by omega) (by omega), ck_inb (by omega) (by omega) (by omega), ck_inb (by omega) (by omega) (by omega), nat_k (by omega), MFr_x h (by omega), MFr_y h (by omega), MFr_k h (by omega)]
  by_cases e3 : q = 0
  · rw [eq_t e3, if_pos e3]; rfl
  rw [eq_f e3 (by omega) (by omega) (by omega) (by omega), if_neg e3]
  by_cases e4 : q = 1
  · rw [eq_t e4, if_pos e4]; rfl
  rw [eq_f e4 (by omega) (by omega) (by omega) (by omega), if_neg e4]
  by_cases e5 : q = 2
  · rw [eq_t e5, if_pos e5]; rfl
  rw [eq_f e5 (by omega) (by omega) (by omega) (by omega), if_neg e5, nt_div ⟨by omega, by omega⟩ ⟨by omega, by omega⟩, nt_rem ⟨by omega, by omega⟩ ⟨by omega, by omega⟩, nt_mul, nt_mul, nt_add, nt_add]
  obtain ⟨Q, hQ⟩ : ∃ Q : Nat, q = 3 + Q := ⟨(q - 3).toNat, by omega⟩
  have d1 : (q - 3).tdiv 2 = ((Q / 2 : Nat) : Int) := by rw [hQ, show (3 : Int) + (Q : Nat) - 3 = (Q : Nat) by omega]; exact (Int.ofNat_tdiv Q 2).symm
  have d2 : (q - 3).tmod 2 = ((Q % 2 : Nat) : Int) := by rw [hQ, show (3 : Int) + (Q : Nat) - 3 = (Q : Nat) by omega]; exact (Int.ofNat_tmod Q 2).symm
  rw [d1, d2, ck_inb (by omega) (by omega) (by omega), nat_nt (by omega) (by omega), show ((14 : Int) * ((Q / 2 : Nat) : Int) + 2 * (M : Nat) + ((Q % 2 : Nat) : Int)).toNat = 14 * (Q / 2) + 2 * M + Q % 2 by omega, MFr_l h (by omega) (by omega) (by omega), show 6 + 2 * (Q / 2) + Q % 2 = 6 + (q - 3).toNat by omega]
  rfl
end
