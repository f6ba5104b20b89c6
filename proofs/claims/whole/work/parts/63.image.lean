-- ===== the class's loads, properties and images =====
theorem tg_cl {i f : Nat} (hi : i < 3) (hf : f < 12) : tg (cl i f) = 1 := by
  unfold cl; split
  · unfold tg; repeat' (first | rfl | (exfalso; omega) | split)
  · unfold tg; repeat' (first | rfl | (exfalso; omega) | split)
theorem ln_cl {i f : Nat} (hi : i < 3) (hf : f < 12) : ln (cl i f) = if f < 3 then 7 else if f < 6 then 6 else 7 := by
  unfold cl
  by_cases h1 : f < 3
  · rw [if_pos (by omega), if_pos h1]
    unfold ln; repeat' (first | rfl | (exfalso; omega) | split)
  · by_cases h2 : f < 6
    · rw [if_pos h2, if_neg h1, if_pos h2]
      unfold ln; repeat' (first | rfl | (exfalso; omega) | split)
    · rw [if_neg h2, if_neg h1, if_neg h2]
      unfold ln; repeat' (first | rfl | (exfalso; omega) | split)
def lds (φ : FR) (c : Nat) : Nat := cn (nn φ) (fun n => decide (φ.1 (6 + 2 * c) n ≠ 0 ∨ φ.1 (7 + 2 * c) n ≠ 0))
def ldF (φ : FR) (c n : Nat) (a b : Int) : FR := sF (sF φ (6 + 2 * c) n a) (7 + 2 * c) n b
def oLoad (φ : FR) (c n a b : Int) : Int × FR × Nat := if 0 ≤ n ∧ n ≤ nn φ - 1 then (if 0 ≤ c ∧ c ≤ 2 then (if -5 ≤ a ∧ a ≤ 5 then (if -5 ≤ b ∧ b ≤ 5 then ((lds (ldF φ c.toNat n.toNat a b) c.toNat : Int), ldF φ c.toNat n.toNat a b, 2) else (-2, φ, 0)) else (-2, φ, 0)) else (-2, φ, 0)) else (-1, φ, 0)
def oOfN (φ : FR) (n q : Int) : Int := if 0 ≤ n ∧ n ≤ nn φ - 1 then (if 0 ≤ q ∧ q ≤ 8 then (if q = 0 then φ.1 0 n.toNat else if q = 1 then φ.1 1 n.toNat else if q = 2 then φ.1 2 n.toNat else φ.1 (6 + (q - 3).toNat) n.toNat) else -2) else -1
def lenB (φ : FR) (b : Nat) : Int := φ.1 0 (φ.1 4 b).toNat - φ.1 0 (φ.1 3 b).toNat + φ.1 1 (φ.1 4 b).toNat - φ.1 1 (φ.1 3 b).toNat
def oOfB (φ : FR) (b q : Int) : Int := if 0 ≤ b ∧ b ≤ nb φ - 1 then (if q = 0 then φ.1 3 b.toNat else if q = 1 then φ.1 4 b.toNat else if q = 2 then lenB φ b.toNat else if q = 3 then (if φ.1 0 (φ.1 3 b.toNat).toNat = φ.1 0 (φ.1 4 b.toNat).toNat then 1 else 0) else if q = 4 then φ.1 5 b.toNat else -2) else -1
theorem WF_load {φ : FR} (w : WF φ) {c n : Nat} {a b : Int} (hc : c < 3) (hn : n < nn φ) (ha : -5 ≤ a ∧ a ≤ 5) (hb : -5 ≤ b ∧ b ≤ 5) : WF (ldF φ c n a b) := by
  have hg : ∀ f j, f < 6 → (ldF φ c n a b).1 f j = φ.1 f j := fun f j h => by
    show (if f = 7 + 2 * c ∧ j = n then b else if f = 6 + 2 * c ∧ j = n then a else φ.1 f j) = _
    rw [if_neg (by omega), if_neg (by omega)]
  refine ⟨w.1, w.2.1, fun j hj => ?_, fun k hk => ?_, fun f j h6 hf hj => ?_⟩
  · rw [hg 0 j (by omega), hg 1 j (by omega), hg 2 j (by omega)]
    exact w.2.2.1 j hj
  · have h := w.2.2.2.1 k hk
    have hbo : bOK (ldF φ c n a b) k := by
      unfold bOK
      rw [hg 3 k (by omega), hg 4 k (by omega), hg 0 _ (by omega), hg 0 _ (by omega), hg 1 _ (by omega), hg 1 _ (by omega)]
      exact h.2.2.2.2.2.2
    rw [hg 3 k (by omega), hg 4 k (by omega), hg 5 k (by omega)]
    exact ⟨h.1, h.2.1, h.2.2.1, h.2.2.2.1, h.2.2.2.2.1, h.2.2.2.2.2.1, hbo⟩
  · have h := w.2.2.2.2 f j h6 hf hj
    have hm : nn (ldF φ c n a b) = nn φ := rfl
    rw [hm]
    show -5 ≤ (if f = 7 + 2 * c ∧ j = n then b else if f = 6 + 2 * c ∧ j = n then a else φ.1 f j) ∧ (if f = 7 + 2 * c ∧ j = n then b else if f = 6 + 2 * c ∧ j = n then a else φ.1 f j) ≤ 5 ∧ (nn φ ≤ j → (if f = 7 + 2 * c ∧ j = n then b else if f = 6 + 2 * c ∧ j = n then a else φ.1 f j) = 0)
    split
    · omega
    · split
      · omega
      · exact h
section
variable {N : Nat} {σ : ZS} {φ : FR}
theorem s_loaded (hN : 100 ≤ N) (h : CFr σ 0 φ) (w : WF φ) {c : Nat} (hc : c < 3) : f_X2_loadedNodes N (nt (c : Nat)) σ = some (nt (lds φ c : Nat), σ) := by
  have hw := w.1
  unfold f_X2_loadedNodes
  have hl : ∀ j k, j < 6 → k < 7 → -5 ≤ φ.1 (6 + j) k ∧ φ.1 (6 + j) k ≤ 5 := fun j k hj hk => by
    have := w.2.2.2.2 (6 + j) k (by omega) (by omega) hk
    exact ⟨this.1, this.2.1⟩
  have key := lp_go (fun n k (m : Nat) => f_X2_loadedNodes_h4 N (nt (c : Nat)) n (nt (m : Nat)) (nt (k : Nat)) σ) (fun k => cn k (fun n => decide (φ.1 (6 + 2 * c) n ≠ 0 ∨ φ.1 (7 + 2 * c) n ≠ 0))) (nn φ) (fun n k hk => by
    have hb := cn_bd (fun n => decide (φ.1 (6 + 2 * c) n ≠ 0 ∨ φ.1 (7 + 2 * c) n ≠ 0)) k
    have q1 := hl (2 * c) k (by omega) (by omega)
    have q2 := hl (2 * c + 1) k (by omega) (by omega)
    rw [show 6 + (2 * c + 1) = 7 + 2 * c by omega] at q2
    rw [f_X2_loadedNodes_h4, CFr_n h, le_f (by omega) (by omega) (by omega), n_1, n_2, nt_mul, nt_add, nat_k (by omega), nat_nt (by omega) (by omega), nat_nt (by omega) (by omega), show ((2 : Int) * (c : Nat)).toNat = 2 * c by omega, show ((2 : Int) * (c : Nat) + 1).toNat = 2 * c + 1 by omega, ck_inb (by omega) (by omega) (by omega), ck_tg (tg_load (by omega)), ln_load (by omega), ck_inb (by omega) (by omega) (by omega), ck_inb (by omega) (by omega) (by omega), ck_tg (tg_load (by omega)), ln_load (by omega), ck_inb (by omega) (by omega) (by omega), CFr_l h (by omega) (by omega), CFr_l h (by omega) (by omega), show 6 + (2 * c + 1) = 7 + 2 * c by omega, cn_s]
    have f1 : ∀ m : Nat, f_X2_loadedNodes_b43 N (fun x2_ x3_ σ_ => f_X2_loadedNodes_h4 N (nt (c : Nat)) n x2_ x3_ σ_) (nt (c : Nat)) (nt (m : Nat)) (nt (k : Nat)) σ = f_X2_loadedNodes_h4 N (nt (c : Nat)) n (nt (m : Nat)) (nt ((k + 1 : Nat) : Int)) σ := fun m => by
      rw [f_X2_loadedNodes_b43, n_1, nt_add, bd_eq]; rfl
    have f2 : ∀ m : Nat, f_X2_loadedNodes_b40 N (fun x2_ x3_ σ_ => f_X2_loadedNodes_h4 N (nt (c : Nat)) n x2_ x3_ σ_) (nt (c : Nat)) (nt (m : Nat)) (nt (k : Nat)) σ = f_X2_loadedNodes_h4 N (nt (c : Nat)) n (nt ((m + 1 : Nat) : Int)) (nt ((k + 1 : Nat) : Int)) σ := fun m => by
      rw [f_X2_loadedNodes_b40, n_1, nt_add, bd_eq]; exact f1 (m + 1)
    rw [f1, f2, n_0]
    by_cases e1 : φ.1 (6 + 2 * c) k = 0
    · rw [eq_t e1]
      by_cases e2 : φ.1 (7 + 2 * c) k = 0
      · rw [eq_t e2, if_neg (by simp [e1, e2])]; rfl
      · rw [eq_f e2 (by omega) (by omega) (by omega) (by omega), if_pos (by simp [e2])]
    · rw [eq_f e1 (by omega) (by omega) (by omega) (by omega), if_pos (by simp [e1])]) (nn φ) 0 N (by omega) (by omega)
  have key : f_X2_loadedNodes_h4 N (nt (c : Nat)) N (0 : Int32) (0 : Int32) σ = f_X2_loadedNodes_h4 N (nt (c : Nat)) (N - nn φ) (nt (lds φ c : Nat)) (nt (nn φ : Nat)) σ := key
  obtain ⟨n, en⟩ : ∃ n, N - nn φ = n + 1 := ⟨N - nn φ - 1, by omega⟩
  rw [key, en, f_X2_loadedNodes_h4, CFr_n h, le_t (by omega) (by omega) (by omega)]
theorem c_load (hN : 100 ≤ N) (h : CFr σ 0 φ) (w : WF φ) {c n a b : Int} (hc : iR c) (hn : iR n) (ha : iR a) (hb : iR b) : ∃ τ, f_X5_load N (nt c) (nt n) (nt a) (nt b) σ = some (nt (oLoad φ c n a b).1, τ) ∧ Cst (oLoad φ c n a b).2.2 σ φ τ (oLoad φ c n a b).2.1 := by
  have hw := w.1
  unfold f_X5_load oLoad
  rw [s_isNode h w hn, obd_some, br_p]
  by_cases e1 : 0 ≤ n ∧ n ≤ nn φ - 1
  rotate_left
  · rw [if_neg e1, if_neg e1]; exact ⟨σ, rfl, Cst_0 h w⟩
  rw [if_pos e1, if_pos e1, n_0, n_2, s_within N c 0 2 hc ⟨by omega, by omega⟩ ⟨by omega, by omega⟩, obd_some, n_0.symm, br_p]
  by_cases e2 : 0 ≤ c ∧ c ≤ 2
  rotate_left
  · rw [if_neg e2, if_neg e2]; exact ⟨σ, rfl, Cst_0 h w⟩
  rw [if_pos e2, if_pos e2, n_m5, n_5, s_within N a (-5) 5 ha ⟨by omega, by omega⟩ ⟨by omega, by omega⟩, obd_some, br_p]
  by_cases e3 : -5 ≤ a ∧ a ≤ 5
  rotate_left
  · rw [if_neg e3, if_neg e3]; exact ⟨σ, rfl, Cst_0 h w⟩
  rw [if_pos e3, if_pos e3, s_within N b (-5) 5 hb ⟨by omega, by omega⟩ ⟨by omega, by omega⟩, obd_some, br_p]
  by_cases e4 : -5 ≤ b ∧ b ≤ 5
  rotate_left
  · rw [if_neg e4, if_neg e4]; exact ⟨σ, rfl, Cst_0 h w⟩
  obtain ⟨C, rfl⟩ : ∃ C : Nat, c = C := ⟨c.toNat, by omega⟩
  obtain ⟨M, rfl⟩ : ∃ M : Nat, n = M := ⟨n.toNat, by omega⟩
  rw [if_pos e4, if_pos e4, n_1, nt_mul, nt_add, nat_k (by omega), nat_nt (by omega) (by omega), nat_nt (by omega) (by omega), show ((2 : Int) * (C : Nat)).toNat = 2 * C by omega, show ((2 : Int) * (C : Nat) + 1).toNat = 2 * C + 1 by omega, ck_inb (by omega) (by omega) (by omega), ck_tg (tg_load (by omega)), ln_load (by omega), ck_inb (by omega) (by omega) (by omega), bd_eq, ck_inb (by omega) (by omega) (by omega), ck_tg (tg_load (by omega)), ln_load (by omega), ck_inb (by omega) (by omega) (by omega), bd_eq, bd_eq]
  have c0 : ∀ f, f < 12 → cl 0 f ≠ 0 := fun f _ => by have := @cl_ge 0 f; omega
  have hs := CFr_sF (CFr_sF h (by omega) (f := 6 + 2 * C) (by omega) M a) (by omega) (f := 7 + 2 * C) (by omega) M b
  rw [show cl 0 (6 + 2 * C) = 38 + 2 * C from by unfold cl; rw [if_neg (by omega)]; omega, show cl 0 (7 + 2 * C) = 38 + (2 * C + 1) from by unfold cl; rw [if_neg (by omega)]; omega] at hs
  have hs2 := CFr_keep hs (c := 0) (by omega) c0 8 (nt 0)
  have w2 := WF_load w (c := C) (n := M) (a := a) (b := b) (by omega) (by omega) e3 e4
  have hl := s_loaded hN hs2 w2 (c := C) (by omega)
  rw [n_0, hl, obd_some]
  refine ⟨_, rfl, hs2, w2, rfl, fun c h0 h2 hc q => ?_, ?_, fun q => absurd q (by simp), fun q => absurd q (by simp), fun _ => ⟨?_, ?_, rfl, fun f k hf => ?_⟩⟩
  · rw [sI_o (by omega), sI_o (by omega), sI_o (by omega)]
  · rw [gI_sI_k (by omega), gI_sI_c (by omega), gI_sI_c (by omega)]
  · rw [gI_sI_at]
  · rw [gI_sI_k (by omega), gI_sI_c (by omega), gI_sI_c (by omega)]
  · show (if f = 7 + 2 * C ∧ k = M then b else if f = 6 + 2 * C ∧ k = M then a else φ.1 f k) = φ.1 f k
    rw [if_neg (by omega), if_neg (by omega)]
theorem c_ofNode (h : CFr σ 0 φ) (w : WF φ) {n q : Int} (hn : iR n) (hq : iR q) : f_X5_ofNode N (nt n) (nt q) σ = some (nt (oOfN φ n q), σ) := by
  have hw := w.1
  unfold f_X5_ofNode oOfN
  rw [s_isNode h w hn, obd_some, br_p]
  by_cases e1 : 0 ≤ n ∧ n ≤ nn φ - 1
  rotate_left
  · rw [if_neg e1, if_neg e1]; rfl
  rw [if_pos e1, if_pos e1, n_0, n_8, s_within N q 0 8 hq ⟨by omega, by omega⟩ ⟨by omega, by omega⟩, obd_some, n_0.symm, br_p]
  by_cases e2 : 0 ≤ q ∧ q ≤ 8
  rotate_left
  · rw [if_neg e2, if_neg e2]; rfl
  rw [if_pos e2, if_pos e2, n_0, n_1, n_2, n_3, nt_sub, ck_inb (by omega) (by omega) (by omega), ck_inb (by omega) (by omega) (by omega), ck_inb (by omega) (by omega) (by omega), nat_nt (by omega) (by omega), CFr_x h (by omega), CFr_y h (by omega), CFr_k h (by omega)]
  by_cases e3 : q = 0
  · rw [eq_t e3, if_pos e3]
  rw [eq_f e3 (by omega) (by omega) (by omega) (by omega), if_neg e3]
  by_cases e4 : q = 1
  · rw [eq_t e4, if_pos e4]
  rw [eq_f e4 (by omega) (by omega) (by omega) (by omega), if_neg e4]
  by_cases e5 : q = 2
  · rw [eq_t e5, if_pos e5]
  rw [eq_f e5 (by omega) (by omega) (by omega) (by omega), if_neg e5, ck_inb (by omega) (by omega) (by omega), nat_nt (by omega) (by omega), ck_tg (tg_load (by omega)), ln_load (by omega), ck_inb (by omega) (by omega) (by omega), CFr_l h (by omega) (by omega)]
theorem c_ofBar (h : CFr σ 0 φ) (w : WF φ) {n q : Int} (hn : iR n) (hq : iR q) : f_X5_ofBar N (nt n) (nt q) σ = some (nt (oOfB φ n q), σ) := by
  have hw := w.2.1
  unfold f_X5_ofBar oOfB
  rw [s_isBar h w hn, obd_some, br_p]
  by_cases e1 : 0 ≤ n ∧ n ≤ nb φ - 1
  rotate_left
  · rw [if_neg e1, if_neg e1]; rfl
  obtain ⟨M, rfl⟩ : ∃ M : Nat, n = M := ⟨n.toNat, by omega⟩
  rw [if_pos e1, if_pos e1, s_length h w (by omega), s_isVertical h w (by omega), obd_some, obd_some, br_p, n_0, n_1, n_2, n_3, n_4, ck_inb (by omega) (by omega) (by omega), ck_inb (by omega) (by omega) (by omega), ck_inb (by omega) (by omega) (by omega), nat_k (by omega), CFr_f h (by omega), CFr_g h (by omega), CFr_s h (by omega)]
  obtain ⟨hq1, hq2⟩ := hq
  by_cases e3 : q = 0
  · rw [eq_t e3, if_pos e3]; rfl
  rw [eq_f e3 (by omega) (by omega) (by omega) (by omega), if_neg e3]
  by_cases e4 : q = 1
  · rw [eq_t e4, if_pos e4]; rfl
  rw [eq_f e4 (by omega) (by omega) (by omega) (by omega), if_neg e4]
  by_cases e5 : q = 2
  · rw [eq_t e5, if_pos e5]; rfl
  rw [eq_f e5 (by omega) (by omega) (by omega) (by omega), if_neg e5]
  by_cases e6 : q = 3
  · rw [eq_t e6, if_pos e6, Int.toNat_natCast]
    split <;> rfl
  rw [eq_f e6 (by omega) (by omega) (by omega) (by omega), if_neg e6]
  by_cases e7 : q = 4
  · rw [eq_t e7, if_pos e7]; rfl
  rw [eq_f e7 (by omega) (by omega) (by omega) (by omega), if_neg e7]; rfl
-- images
theorem rf_cl {i f : Nat} (hi : i < 3) (hf : f < 6) : rf (2 + i) (2 + f) = cl i f := by
  rcases (show i = 0 ∨ i = 1 ∨ i = 2 by omega) with rfl | rfl | rfl <;> rcases (show f = 0 ∨ f = 1 ∨ f = 2 ∨ f = 3 ∨ f = 4 ∨ f = 5 by omega) with rfl | rfl | rfl | rfl | rfl | rfl <;> decide +kernel
theorem rf_ld {i : Nat} (hi : i < 3) : rf (2 + i) 8 = 13 + i := by
  rcases (show i = 0 ∨ i = 1 ∨ i = 2 by omega) with rfl | rfl | rfl <;> decide +kernel
theorem rr_ld {i j : Nat} (hi : i < 3) (hj : j < 6) : rr (13 + i) j = cl i (6 + j) := by
  unfold rr cl
  rw [if_neg (show ¬ 6 + j < 6 by omega)]
  rcases (show i = 0 ∨ i = 1 ∨ i = 2 by omega) with rfl | rfl | rfl <;> simp <;> omega
def fl (f : Nat) : Nat := if f < 3 then 7 else if f < 6 then 6 else 7
/-- the first m fields are copied -/
def Cp (σ : ZS) (i j m : Nat) (s : ZS) : Prop := s.2 = σ.2 ∧ (∀ c, c ≠ 2 + i → (∀ f, f < 12 → c ≠ cl i f) → s.1 c = σ.1 c) ∧ gI s (2 + i) 0 = gI σ (2 + j) 0 ∧ gI s (2 + i) 1 = gI σ (2 + j) 1 ∧ ∀ f k, f < m → k < fl f → gI s (cl i f) k = gI σ (cl j f) k
theorem cl_ne {i j f g : Nat} (hi : i < 3) (hj : j < 3) (hij : i ≠ j) (hf : f < 12) (hg : g < 12) : cl j f ≠ cl i g := by
  unfold cl; split <;> split <;> omega
theorem Cp_s {i j m : Nat} {s : ZS} (hi : i < 3) (hj : j < 3) (hij : i ≠ j) (hm : m < 12) (h : Cp σ i j m s) : Cp σ i j (m + 1) (cpI s (cl j m) (cl i m) 0 0 (fl m)) := by
  obtain ⟨h1, h2, h3, h4, h5⟩ := h
  have hg := @cl_ge i m
  refine ⟨h1, fun c c1 c2 => ?_, ?_, ?_, fun f k hf hk => ?_⟩
  · show (if c = cl i m then _ else s.1 c) = _
    rw [if_neg (c2 m hm)]; exact h2 c c1 c2
  · rw [gI_cpI, if_neg (by omega)]; exact h3
  · rw [gI_cpI, if_neg (by omega)]; exact h4
  · rw [gI_cpI]
    by_cases e : f = m
    · subst e
      rw [if_pos rfl, if_pos (by omega), show 0 + (k - 0) = k by omega]
      unfold gI
      rw [h2 (cl j f) (by have := @cl_ge j f; omega) (fun g hg => cl_ne hi hj hij (by omega) hg)]
    · rw [if_neg (fun q => e (cl_inj (by omega) hm hi q))]
      exact h5 f k (by omega) hk
theorem ck_cpg {α : Type} {n : Int} {a b : Nat} {x : Option α} (h0 : 0 ≤ n) (h1 : n.toNat ≤ a) (h2 : n.toNat ≤ b) (h3 : n < 2147483648) : ck (cpg (nt 0) (nt 0) (nt n) a b) x = x := ck_of (by
  unfold cpg
  rw [nat_nt (by omega) (by omega), nat_nt (by omega) h3]
  have e1 : ¬ nt 0 < (0 : Int32) := by decide
  have e2 : ¬ nt n < (0 : Int32) := fun q => by
    have := (nt_lt (b := 0) ⟨by omega, h3⟩ ⟨by omega, by omega⟩).mp q; omega
  simp [e1, e2, h1, h2]) x
theorem s_copy (hN : 100 ≤ N) {i j : Nat} (hi : i < 3) (hj : j < 3) (hij : i ≠ j) : ∃ s, f_X2_copyFrom N (2 + i) (2 + j) σ = some ((), s) ∧ Cp σ i j 12 s := by
  have tc : ∀ a, a < 3 → tg (2 + a) = 0 ∧ ln (2 + a) = 2 := by
    intro a ha
    rcases (show a = 0 ∨ a = 1 ∨ a = 2 by omega) with rfl | rfl | rfl <;> decide
  have ri := fun f (hf : f < 6) => @rf_cl i f hi hf
  have rj := fun f (hf : f < 6) => @rf_cl j f hj hf
  have tb : ∀ a f, a < 3 → f < 12 → tg (cl a f) = 1 := fun a f h1 h2 => tg_cl h1 h2
  have lb : ∀ a f, a < 3 → f < 12 → ln (cl a f) = fl f := fun a f h1 h2 => ln_cl h1 h2
  obtain ⟨i1, i2⟩ := tc i hi
  obtain ⟨j1, j2⟩ := tc j hj
  have p0 : Cp σ i j 0 (sI (sI σ (2 + i) 0 (gI σ (2 + j) 0)) (2 + i) 1 (gI σ (2 + j) 1)) := by
    refine ⟨rfl, fun c c1 c2 => by rw [sI_o c1, sI_o c1], ?_, ?_, fun f k hf => by omega⟩
    · rw [gI_sI_k (by omega), gI_sI_at]
    · rw [gI_sI_at]
  have p6 := Cp_s hi hj hij (by omega) (Cp_s hi hj hij (by omega) (Cp_s hi hj hij (by omega) (Cp_s hi hj hij (by omega) (Cp_s hi hj hij (by omega) (Cp_s hi hj hij (by omega) p0)))))
  obtain ⟨s6, e6⟩ : ∃ s, s = cpI (cpI (cpI (cpI (cpI (cpI (sI (sI σ (2 + i) 0 (gI σ (2 + j) 0)) (2 + i) 1 (gI σ (2 + j) 1)) (cl j 0) (cl i 0) 0 0 (fl 0)) (cl j (0 + 1)) (cl i (0 + 1)) 0 0 (fl (0 + 1))) (cl j (0 + 1 + 1)) (cl i (0 + 1 + 1)) 0 0 (fl (0 + 1 + 1))) (cl j (0 + 1 + 1 + 1)) (cl i (0 + 1 + 1 + 1)) 0 0 (fl (0 + 1 + 1 + 1))) (cl j (0 + 1 + 1 + 1 + 1)) (cl i (0 + 1 + 1 + 1 + 1)) 0 0 (fl (0 + 1 + 1 + 1 + 1))) (cl j (0 + 1 + 1 + 1 + 1 + 1)) (cl i (0 + 1 + 1 + 1 + 1 + 1)) 0 0 (fl (0 + 1 + 1 + 1 + 1 + 1)) := ⟨_, rfl⟩
  rw [← e6] at p6
  obtain ⟨s, es, hI⟩ := lp_inv (fun n k s => f_X2_copyFrom_h108 N (2 + i) (2 + j) n (nt (k : Nat)) s) (fun k s => Cp σ i j (6 + k) s) 6 (fun n k s hk q => by
    have hi13 : isr (13 + i) = true := by rcases (show i = 0 ∨ i = 1 ∨ i = 2 by omega) with rfl | rfl | rfl <;> decide
    have hj13 : isr (13 + j) = true := by rcases (show j = 0 ∨ j = 1 ∨ j = 2 by omega) with rfl | rfl | rfl <;> decide
    have li13 : ln (13 + i) = 6 := by rcases (show i = 0 ∨ i = 1 ∨ i = 2 by omega) with rfl | rfl | rfl <;> decide
    have lj13 : ln (13 + j) = 6 := by rcases (show j = 0 ∨ j = 1 ∨ j = 2 by omega) with rfl | rfl | rfl <;> decide
    have f7 : fl (6 + k) = 7 := by unfold fl; rw [if_neg (by omega), if_neg (by omega)]
    refine ⟨_, ?_, Cp_s hi hj hij (m := 6 + k) (by omega) q⟩
    rw [f_X2_copyFrom_h108, n_6, le_f (by omega) (by omega) (by omega), ck_isc j1 j2, rf_ld hj, ck_of hj13, lj13, ck_inb (by omega) (by omega) (by omega), ck_isc i1 i2, rf_ld hi, ck_of hi13, li13, ck_inb (by omega) (by omega) (by omega), nat_k (by omega), rr_ld hi hk, rr_ld hj hk, ck_tg (tb j _ hj (by omega)), ck_tg (tb i _ hi (by omega)), lb i _ hi (by omega), lb j _ hj (by omega), f7, n_0, n_7, ck_cpg (by omega) (by omega) (by omega) (by omega), bd_eq, nat_nt (by omega) (by omega), nat_nt (by omega) (by omega), n_1, nt_add, bd_eq]
    rfl) 6 0 N s6 (by omega) (by omega) p6
  have es : f_X2_copyFrom_h108 N (2 + i) (2 + j) N (nt 0) s6 = f_X2_copyFrom_h108 N (2 + i) (2 + j) (N - 6) (nt 6) s := es
  obtain ⟨n, en⟩ : ∃ n, N - 6 = n + 1 := ⟨N - 6 - 1, by omega⟩
  refine ⟨s, ?_, hI⟩
  have hx : f_X2_copyFrom_h108 N (2 + i) (2 + j) N (nt 0) s6 = some ((), s) := by
    rw [es, en, f_X2_copyFrom_h108, n_6, le_t (by omega) (by omega) (by omega)]
  rw [← hx, e6]
  unfold f_X2_copyFrom
  have hd : gI (sI σ (2 + i) 0 (gI σ (2 + j) 0)) (2 + j) 1 = gI σ (2 + j) 1 := gI_sI_c (by omega) _ _ _ _
  rw [ck_isc j1 j2, bd_eq, ck_isc i1 i2, bd_eq, ck_isc j1 j2, bd_eq, hd, ck_isc i1 i2, bd_eq]
  have u2 : rf (2 + j) 2 = cl j 0 := rj 0 (by omega)
  have u3 : rf (2 + j) 3 = cl j 1 := rj 1 (by omega)
  have u4 : rf (2 + j) 4 = cl j 2 := rj 2 (by omega)
  have u5 : rf (2 + j) 5 = cl j 3 := rj 3 (by omega)
  have u6 : rf (2 + j) 6 = cl j 4 := rj 4 (by omega)
  have u7 : rf (2 + j) 7 = cl j 5 := rj 5 (by omega)
  have v2 : rf (2 + i) 2 = cl i 0 := ri 0 (by omega)
  have v3 : rf (2 + i) 3 = cl i 1 := ri 1 (by omega)
  have v4 : rf (2 + i) 4 = cl i 2 := ri 2 (by omega)
  have v5 : rf (2 + i) 5 = cl i 3 := ri 3 (by omega)
  have v6 : rf (2 + i) 6 = cl i 4 := ri 4 (by omega)
  have v7 : rf (2 + i) 7 = cl i 5 := ri 5 (by omega)
  have l7 : ∀ a f, a < 3 → f < 3 → ln (cl a f) = 7 := fun a f h1 h2 => by rw [lb a f h1 (by omega)]; unfold fl; rw [if_pos h2]
  have l6 : ∀ a f, a < 3 → 3 ≤ f → f < 6 → ln (cl a f) = 6 := fun a f h1 h2 h3 => by rw [lb a f h1 (by omega)]; unfold fl; rw [if_neg (by omega), if_pos h3]
  have n7 : (7 : Int32).toNatClampNeg = 7 := rfl
  have n6 : (6 : Int32).toNatClampNeg = 6 := rfl
  have n0 : (0 : Int32).toNatClampNeg = 0 := rfl
  have k7 : ∀ (x : Option (Unit × ZS)), ck (cpg (0 : Int32) (0 : Int32) (7 : Int32) 7 7) x = x := fun x => ck_of (by decide) x
  have k6 : ∀ (x : Option (Unit × ZS)), ck (cpg (0 : Int32) (0 : Int32) (6 : Int32) 6 6) x = x := fun x => ck_of (by decide) x
  simp only [ck_isc j1 j2, ck_isc i1 i2, u2, u3, u4, u5, u6, u7, v2, v3, v4, v5, v6, v7, ck_tg (tb j 0 hj (by omega)), ck_tg (tb j 1 hj (by omega)), ck_tg (tb j 2 hj (by omega)), ck_tg (tb j 3 hj (by omega)), ck_tg (tb j 4 hj (by omega)), ck_tg (tb j 5 hj (by omega)), ck_tg (tb i 0 hi (by omega)), ck_tg (tb i 1 hi (by omega)), ck_tg (tb i 2 hi (by omega)), ck_tg (tb i 3 hi (by omega)), ck_tg (tb i 4 hi (by omega)), ck_tg (tb i 5 hi (by omega)), l7 i 0 hi (by omega), l7 i 1 hi (by omega), l7 i 2 hi (by omega), l6 i 3 hi (by omega) (by omega), l6 i 4 hi (by omega) (by omega), l6 i 5 hi (by omega) (by omega), l7 j 0 hj (by omega), l7 j 1 hj (by omega), l7 j 2 hj (by omega), l6 j 3 hj (by omega) (by omega), l6 j 4 hj (by omega) (by omega), l6 j 5 hj (by omega) (by omega), k7, k6, n7, n6, n0, bd_eq]
  rfl
/-- what is copied is the frame -/
theorem Cp_fr {σ s : ZS} {i j : Nat} {φ : FR} (w : WF φ) (h : Cp σ i j 12 s) (hf : CFr σ j φ) : CFr s i φ := by
  obtain ⟨h1, h2, h3, h4, h5⟩ := h
  refine ⟨by rw [h3]; exact hf.1, by rw [h4]; exact hf.2.1, fun f k hf2 hk => ?_⟩
  rw [h5 f k hf2 (by
    unfold lf at hk; unfold fl
    have := w.1
    have := w.2.1
    split at hk
    · rw [if_pos (by assumption)]; omega
    · split at hk
      · rw [if_neg (by assumption), if_pos (by assumption)]; omega
      · rw [if_neg (by assumption), if_neg (by assumption)]; omega)]
  exact hf.2.2 f k hf2 hk
theorem Cp_other {σ s : ZS} {i j a : Nat} {φ : FR} (hi : i < 3) (ha : a < 3) (hai : a ≠ i) (h : Cp σ i j 12 s) (hf : CFr σ a φ) : CFr s a φ :=
  CFr_same hf (h.2.1 _ (by omega) (fun f hf2 => by have := @cl_ge i f; omega)) (fun f hf2 => h.2.1 _ (by have := @cl_ge a f; omega) (fun g hg => cl_ne hi ha (by omega) hf2 hg))
theorem c_image (hN : 100 ≤ N) {k : Int} (hk : iR k) (h0 : CFr σ 0 φ) (w : WF φ) : (¬ (0 ≤ k ∧ k ≤ 1) → f_X5_image N (nt k) σ = some (nt (-2), σ)) ∧ (0 ≤ k ∧ k ≤ 1 → ∃ s, f_X5_image N (nt k) σ = some (nt 1, sI s 0 6 (gI σ 0 6 ||| nt (2 ^ k.toNat))) ∧ Cp σ (1 + k.toNat) 0 12 s) := by
  unfold f_X5_image
  rw [n_0, n_1, s_within N k 0 1 hk ⟨by omega, by omega⟩ ⟨by omega, by omega⟩, obd_some, n_0.symm, br_p]
  refine ⟨fun e => by rw [if_neg e]; rfl, fun e => ?_⟩
  obtain ⟨K, rfl⟩ : ∃ K : Nat, k = K := ⟨k.toNat, by omega⟩
  rw [if_pos e, ck_inb (by omega) (by omega) (by omega), nat_k (by omega)]
  obtain ⟨s, es, hs⟩ := s_copy (N := N) (σ := σ) hN (i := 1 + K) (j := 0) (by omega) (by omega) (by omega)
  rw [show 2 + (1 + K) = 3 + K by omega] at es
  refine ⟨s, ?_, hs⟩
  have hc : tg (3 + K) = 0 ∧ ln (3 + K) = 2 := by
    rcases (show K = 0 ∨ K = 1 by omega) with rfl | rfl <;> decide
  have es : f_X2_copyFrom N (3 + K) 2 σ = some ((), s) := es
  rw [ck_isc hc.1 hc.2, es, obd_some, bd_eq, bd_eq]
  have hg : gI s 0 6 = gI σ 0 6 := by
    unfold gI
    rw [hs.2.1 0 (by omega) (fun f hf => by have := @cl_ge (1 + K) f; omega)]
  have hp : nt 1 <<< (nt (K : Nat) &&& 31) = nt (2 ^ K) := by
    rcases (show K = 0 ∨ K = 1 by omega) with rfl | rfl <;> decide
  rw [hg, hp]
  rfl
theorem c_restore (hN : 100 ≤ N) {k : Int} (hk : iR k) {kept : Nat} (hkept : gI σ 0 6 = nt (kept : Nat)) (hk3 : kept < 4) : (¬ (0 ≤ k ∧ k ≤ 1) → f_X5_restore N (nt k) σ = some (nt (-2), σ)) ∧ (0 ≤ k ∧ k ≤ 1 → kept.testBit k.toNat = false → f_X5_restore N (nt k) σ = some (nt (-5), σ)) ∧ (0 ≤ k ∧ k ≤ 1 → kept.testBit k.toNat = true → ∃ s, f_X5_restore N (nt k) σ = some (nt 1, sI (sI s 0 7 (nt 0)) 0 8 (nt 0)) ∧ Cp σ 0 (1 + k.toNat) 12 s) := by
  unfold f_X5_restore
  rw [n_0, n_1, s_within N k 0 1 hk ⟨by omega, by omega⟩ ⟨by omega, by omega⟩, obd_some, n_0.symm, br_p]
  have hb : ∀ K : Nat, K < 2 → ((nt (kept : Nat) >>> (nt (K : Nat) &&& 31)) &&& nt 1 = (0 : Int32) ↔ kept.testBit K = false) := by
    intro K hK
    rcases (show K = 0 ∨ K = 1 by omega) with rfl | rfl <;> rcases (show kept = 0 ∨ kept = 1 ∨ kept = 2 ∨ kept = 3 by omega) with rfl | rfl | rfl | rfl <;> decide
  refine ⟨fun e => by rw [if_neg e]; rfl, fun e h1 => ?_, fun e h1 => ?_⟩
  · obtain ⟨K, rfl⟩ : ∃ K : Nat, k = K := ⟨k.toNat, by omega⟩
    rw [if_pos e, hkept, if_pos ((hb K (by omega)).mpr h1)]; rfl
  · obtain ⟨K, rfl⟩ : ∃ K : Nat, k = K := ⟨k.toNat, by omega⟩
    have h1 : kept.testBit K = true := h1
    rw [if_pos e, hkept, if_neg (fun q => by rw [(hb K (by omega)).mp q] at h1; cases h1), ck_inb (by omega) (by omega) (by omega), nat_k (by omega)]
    obtain ⟨s, es, hs⟩ := s_copy (N := N) (σ := σ) hN (i := 0) (j := 1 + K) (by omega) (by omega) (by omega)
    rw [show 2 + (1 + K) = 3 + K by omega] at es
    have es : f_X2_copyFrom N 2 (3 + K) σ = some ((), s) := es
    refine ⟨s, ?_, hs⟩
    rw [es, obd_some, s_forgetShape, obd_some]
    rfl
end
