-- ===== the class's methods that change a frame =====
theorem cl_inj {i f g : Nat} (hf : f < 12) (hg : g < 12) (hi : i < 3) (h : cl i f = cl i g) : f = g := by
  unfold cl at h; split at h <;> split at h <;> omega
theorem cl_ge {i f : Nat} : 20 ≤ cl i f := by unfold cl; split <;> omega
theorem cl_lt {i f : Nat} (hi : i < 3) (hf : f < 12) : cl i f < 56 := by unfold cl; split <;> omega
theorem CFr_sF {σ : ZS} {i : Nat} {φ : FR} (h : CFr σ i φ) (hi : i < 3) {f : Nat} (hf : f < 12) (k : Nat) (v : Int) : CFr (sI σ (cl i f) k (nt v)) i (sF φ f k v) := by
  have hc := @cl_ge i f
  refine ⟨?_, ?_, fun g j hg hj => ?_⟩
  · rw [gI_sI_c (by omega)]; exact h.1
  · rw [gI_sI_c (by omega)]; exact h.2.1
  · rw [gI_sI]
    show _ = nt (if g = f ∧ j = k then v else φ.1 g j)
    by_cases e : g = f ∧ j = k
    · rw [if_pos e, if_pos ⟨by rw [e.1], e.2⟩]
    · rw [if_neg e, if_neg (fun q => e ⟨cl_inj hg hf hi q.1, q.2⟩)]
      exact h.2.2 g j hg hj
theorem CFr_keep {σ : ZS} {i : Nat} {φ : FR} (h : CFr σ i φ) {c : Nat} (hc : c ≠ 2 + i) (hf : ∀ f, f < 12 → cl i f ≠ c) (k : Nat) (v : Int32) : CFr (sI σ c k v) i φ :=
  ⟨by rw [gI_sI_c (by omega)]; exact h.1, by rw [gI_sI_c (by omega)]; exact h.2.1, fun g j hg hj => by rw [gI_sI_c (hf g hg)]; exact h.2.2 g j hg hj⟩
theorem CFr_same {σ τ : ZS} {i : Nat} {φ : FR} (h : CFr σ i φ) (h1 : τ.1 (2 + i) = σ.1 (2 + i)) (h2 : ∀ f, f < 12 → τ.1 (cl i f) = σ.1 (cl i f)) : CFr τ i φ :=
  ⟨by unfold gI; rw [h1]; exact h.1, by unfold gI; rw [h1]; exact h.2.1, fun g j hg hj => by unfold gI; rw [h2 g hg]; exact h.2.2 g j hg hj⟩
theorem sI_o {σ : ZS} {c c' k : Nat} {v : Int32} (h : c' ≠ c) : (sI σ c k v).1 c' = σ.1 c' := by unfold sI; simp [h]
/-- what a method did: 0 nothing, 1 the shape, 2 loads or strengths -/
def Cst (m : Nat) (σ : ZS) (φ : FR) (τ : ZS) (ψ : FR) : Prop := CFr τ 0 ψ ∧ WF ψ ∧ τ.2 = σ.2 ∧ (∀ c, c ≠ 0 → c ≠ 2 → ¬ (20 ≤ c ∧ c < 26) → ¬ (38 ≤ c ∧ c < 44) → τ.1 c = σ.1 c) ∧ gI τ 0 6 = gI σ 0 6 ∧ (m = 0 → τ = σ ∧ ψ = φ) ∧ (m = 1 → gI τ 0 7 = nt 0 ∧ gI τ 0 8 = nt 0) ∧ (m = 2 → gI τ 0 8 = nt 0 ∧ gI τ 0 7 = gI σ 0 7 ∧ ψ.2 = φ.2 ∧ ∀ f k, f < 5 → ψ.1 f k = φ.1 f k)
theorem Cst_0 {σ : ZS} {φ : FR} (h : CFr σ 0 φ) (w : WF φ) : Cst 0 σ φ σ φ := ⟨h, w, rfl, fun _ _ _ _ _ => rfl, rfl, fun _ => ⟨rfl, rfl⟩, fun h => by omega, fun h => by omega⟩
def addN (φ : FR) (x y k : Int) : FR := ((sF (sF (sF φ 0 (nn φ) x) 1 (nn φ) y) 2 (nn φ) k).1, nn φ + 1, nb φ)
def oNode (φ : FR) (x y k : Int) : Int × FR × Nat := if 0 ≤ x ∧ x ≤ 9 then (if 0 ≤ y ∧ y ≤ 9 then (if 0 ≤ k ∧ k ≤ 3 then (if an (fun n => decide (φ.1 0 n = x ∧ φ.1 1 n = y)) (nn φ) = true then (-5, φ, 0) else if nn φ < 7 then ((nn φ : Int), addN φ x y k, 1) else (-4, φ, 0)) else (-2, φ, 0)) else (-2, φ, 0)) else (-2, φ, 0)
def oHold (φ : FR) (n k : Int) : Int × FR × Nat := if 0 ≤ n ∧ n ≤ nn φ - 1 then (if 0 ≤ k ∧ k ≤ 3 then (φ.1 2 n.toNat, sF φ 2 n.toNat k, 1) else (-2, φ, 0)) else (-1, φ, 0)
def addB (φ : FR) (a b s : Int) : FR := ((sF (sF (sF φ 3 (nb φ) a) 4 (nb φ) b) 5 (nb φ) s).1, nn φ, nb φ + 1)
def jOK (φ : FR) (a b : Int) : Prop := (φ.1 1 b.toNat - φ.1 1 a.toNat = 0 ∧ 1 ≤ φ.1 0 b.toNat - φ.1 0 a.toNat ∧ φ.1 0 b.toNat - φ.1 0 a.toNat ≤ 4) ∨ (φ.1 0 b.toNat - φ.1 0 a.toNat = 0 ∧ 1 ≤ φ.1 1 b.toNat - φ.1 1 a.toNat ∧ φ.1 1 b.toNat - φ.1 1 a.toNat ≤ 4)
def oBar (φ : FR) (a b s : Int) : Int × FR × Nat := if 0 ≤ a ∧ a ≤ nn φ - 1 then (if 0 ≤ b ∧ b ≤ nn φ - 1 then (if 1 ≤ s ∧ s ≤ 12 then (if (φ.1 1 b.toNat - φ.1 1 a.toNat = 0 ∧ 1 ≤ φ.1 0 b.toNat - φ.1 0 a.toNat ∧ φ.1 0 b.toNat - φ.1 0 a.toNat ≤ 4) ∨ (φ.1 0 b.toNat - φ.1 0 a.toNat = 0 ∧ 1 ≤ φ.1 1 b.toNat - φ.1 1 a.toNat ∧ φ.1 1 b.toNat - φ.1 1 a.toNat ≤ 4) then (if an (fun n => decide (φ.1 3 n = a ∧ φ.1 4 n = b)) (nb φ) = true then (-5, φ, 0) else if nb φ < 6 then ((nb φ : Int), addB φ a b s, 1) else (-4, φ, 0)) else (-2, φ, 0)) else (-2, φ, 0)) else (-1, φ, 0)) else (-1, φ, 0)
def delB (φ : FR) (b : Nat) : FR := (fun f k => if 3 ≤ f ∧ f < 6 ∧ b ≤ k ∧ k < nb φ - 1 then φ.1 f (k + 1) else φ.1 f k, nn φ, nb φ - 1)
def oLift (φ : FR) (b : Int) : Int × FR × Nat := if 0 ≤ b ∧ b ≤ nb φ - 1 then ((nb φ : Int) - 1, delB φ b.toNat, 1) else (-1, φ, 0)
def oStr (φ : FR) (b s : Int) : Int × FR × Nat := if 0 ≤ b ∧ b ≤ nb φ - 1 then (if 1 ≤ s ∧ s ≤ 12 then (φ.1 5 b.toNat, sF φ 5 b.toNat s, 2) else (-2, φ, 0)) else (-1, φ, 0)
theorem WF_addN {φ : FR} (w : WF φ) {x y k : Int} (hx : 0 ≤ x ∧ x ≤ 9) (hy : 0 ≤ y ∧ y ≤ 9) (hk : 0 ≤ k ∧ k ≤ 3) (hn : nn φ < 7) : WF (addN φ x y k) := by
  have hg : ∀ f n, (f < 3 → n ≠ nn φ) → (addN φ x y k).1 f n = φ.1 f n := by
    intro f n h
    show (if f = 2 ∧ n = nn φ then k else if f = 1 ∧ n = nn φ then y else if f = 0 ∧ n = nn φ then x else φ.1 f n) = φ.1 f n
    rw [if_neg (by omega), if_neg (by omega), if_neg (by omega)]
  have h0 : (addN φ x y k).1 0 (nn φ) = x := by
    show (if (0 : Nat) = 2 ∧ nn φ = nn φ then k else if (0 : Nat) = 1 ∧ nn φ = nn φ then y else if (0 : Nat) = 0 ∧ nn φ = nn φ then x else φ.1 0 (nn φ)) = x
    simp
  have h1 : (addN φ x y k).1 1 (nn φ) = y := by
    show (if (1 : Nat) = 2 ∧ nn φ = nn φ then k else if (1 : Nat) = 1 ∧ nn φ = nn φ then y else if (1 : Nat) = 0 ∧ nn φ = nn φ then x else φ.1 1 (nn φ)) = y
    simp
  have h2 : (addN φ x y k).1 2 (nn φ) = k := by
    show (if (2 : Nat) = 2 ∧ nn φ = nn φ then k else if (2 : Nat) = 1 ∧ nn φ = nn φ then y else if (2 : Nat) = 0 ∧ nn φ = nn φ then x else φ.1 2 (nn φ)) = k
    simp
  refine ⟨by show nn φ + 1 ≤ 7; omega, w.2.1, fun n hn2 => ?_, fun b hb => ?_, fun f j h6 hf hj => ?_⟩
  · have hn2 : n < nn φ + 1 := hn2
    by_cases e : n = nn φ
    · subst e; rw [h0, h1, h2]; omega
    · rw [hg 0 n (fun _ => e), hg 1 n (fun _ => e), hg 2 n (fun _ => e)]
      exact w.2.2.1 n (by omega)
  · have hb : b < nb φ := hb
    have h := w.2.2.2.1 b hb
    have hn3 : ((nn (addN φ x y k) : Nat) : Int) = nn φ + 1 := rfl
    have hbo : bOK (addN φ x y k) b := by
      unfold bOK
      rw [hg 3 b (by omega), hg 4 b (by omega), hg 0 _ (by omega), hg 0 _ (by omega), hg 1 _ (by omega), hg 1 _ (by omega)]
      exact h.2.2.2.2.2.2
    rw [hg 3 b (by omega), hg 4 b (by omega), hg 5 b (by omega)]
    exact ⟨h.1, by omega, h.2.2.1, by omega, h.2.2.2.2.1, h.2.2.2.2.2.1, hbo⟩
  · rw [hg f j (by omega)]
    have h := w.2.2.2.2 f j h6 hf hj
    exact ⟨h.1, h.2.1, fun q => h.2.2 (by have q : nn φ + 1 ≤ j := q; omega)⟩
theorem WF_addB {φ : FR} (w : WF φ) {a b s : Int} (ha : 0 ≤ a ∧ a ≤ nn φ - 1) (hb : 0 ≤ b ∧ b ≤ nn φ - 1) (hs : 1 ≤ s ∧ s ≤ 12) (hj : jOK φ a b) (hn : nb φ < 6) : WF (addB φ a b s) := by
  have hg : ∀ f n, (3 ≤ f → f < 6 → n ≠ nb φ) → (addB φ a b s).1 f n = φ.1 f n := by
    intro f n h
    show (if f = 5 ∧ n = nb φ then s else if f = 4 ∧ n = nb φ then b else if f = 3 ∧ n = nb φ then a else φ.1 f n) = φ.1 f n
    rw [if_neg (by omega), if_neg (by omega), if_neg (by omega)]
  have h3 : (addB φ a b s).1 3 (nb φ) = a := by
    show (if (3 : Nat) = 5 ∧ nb φ = nb φ then s else if (3 : Nat) = 4 ∧ nb φ = nb φ then b else if (3 : Nat) = 3 ∧ nb φ = nb φ then a else φ.1 3 (nb φ)) = a
    simp
  have h4 : (addB φ a b s).1 4 (nb φ) = b := by
    show (if (4 : Nat) = 5 ∧ nb φ = nb φ then s else if (4 : Nat) = 4 ∧ nb φ = nb φ then b else if (4 : Nat) = 3 ∧ nb φ = nb φ then a else φ.1 4 (nb φ)) = b
    simp
  have h5 : (addB φ a b s).1 5 (nb φ) = s := by
    show (if (5 : Nat) = 5 ∧ nb φ = nb φ then s else if (5 : Nat) = 4 ∧ nb φ = nb φ then b else if (5 : Nat) = 3 ∧ nb φ = nb φ then a else φ.1 5 (nb φ)) = s
    simp
  refine ⟨w.1, by show nb φ + 1 ≤ 6; omega, fun n hn2 => ?_, fun k hk => ?_, fun f j h6 hf hj => ?_⟩
  · have hn2 : n < nn φ := hn2
    rw [hg 0 n (by omega), hg 1 n (by omega), hg 2 n (by omega)]
    exact w.2.2.1 n hn2
  · have hk : k < nb φ + 1 := hk
    have hn3 : ((nn (addB φ a b s) : Nat) : Int) = nn φ := rfl
    by_cases e : k = nb φ
    · subst e
      have hbo : bOK (addB φ a b s) (nb φ) := by
        unfold bOK
        rw [h3, h4, hg 0 _ (by omega), hg 0 _ (by omega), hg 1 _ (by omega), hg 1 _ (by omega)]
        exact hj
      rw [h3, h4, h5]
      exact ⟨ha.1, by omega, hb.1, by omega, hs.1, hs.2, hbo⟩
    · have h := w.2.2.2.1 k (by omega)
      have hbo : bOK (addB φ a b s) k := by
        unfold bOK
        rw [hg 3 k (fun _ _ => e), hg 4 k (fun _ _ => e), hg 0 _ (by omega), hg 0 _ (by omega), hg 1 _ (by omega), hg 1 _ (by omega)]
        exact h.2.2.2.2.2.2
      rw [hg 3 k (fun _ _ => e), hg 4 k (fun _ _ => e), hg 5 k (fun _ _ => e)]
      exact ⟨h.1, h.2.1, h.2.2.1, h.2.2.2.1, h.2.2.2.2.1, h.2.2.2.2.2.1, hbo⟩
  · rw [hg f j (by omega)]
    exact w.2.2.2.2 f j h6 hf hj
theorem WF_hold {φ : FR} (w : WF φ) {n : Nat} {k : Int} (hk : 0 ≤ k ∧ k ≤ 3) : WF (sF φ 2 n k) := by
  have hg : ∀ f j, f ≠ 2 → (sF φ 2 n k).1 f j = φ.1 f j := fun f j h => if_neg (by omega)
  refine ⟨w.1, w.2.1, fun j hj => ?_, fun b hb => ?_, fun f j h6 hf hj => ?_⟩
  · rw [hg 0 j (by omega), hg 1 j (by omega)]
    have h := w.2.2.1 j hj
    show 0 ≤ φ.1 0 j ∧ φ.1 0 j ≤ 9 ∧ 0 ≤ φ.1 1 j ∧ φ.1 1 j ≤ 9 ∧ 0 ≤ (if 2 = 2 ∧ j = n then k else φ.1 2 j) ∧ (if 2 = 2 ∧ j = n then k else φ.1 2 j) ≤ 3
    split <;> omega
  · have h := w.2.2.2.1 b hb
    have hbo : bOK (sF φ 2 n k) b := by
      unfold bOK
      rw [hg 3 b (by omega), hg 4 b (by omega), hg 0 _ (by omega), hg 0 _ (by omega), hg 1 _ (by omega), hg 1 _ (by omega)]
      exact h.2.2.2.2.2.2
    rw [hg 3 b (by omega), hg 4 b (by omega), hg 5 b (by omega)]
    exact ⟨h.1, h.2.1, h.2.2.1, h.2.2.2.1, h.2.2.2.2.1, h.2.2.2.2.2.1, hbo⟩
  · rw [hg f j (by omega)]
    exact w.2.2.2.2 f j h6 hf hj
theorem WF_str {φ : FR} (w : WF φ) {b : Nat} {s : Int} (hs : 1 ≤ s ∧ s ≤ 12) : WF (sF φ 5 b s) := by
  have hg : ∀ f j, f ≠ 5 → (sF φ 5 b s).1 f j = φ.1 f j := fun f j h => if_neg (by omega)
  refine ⟨w.1, w.2.1, fun j hj => ?_, fun k hk => ?_, fun f j h6 hf hj => ?_⟩
  · rw [hg 0 j (by omega), hg 1 j (by omega), hg 2 j (by omega)]
    exact w.2.2.1 j hj
  · have h := w.2.2.2.1 k hk
    have hbo : bOK (sF φ 5 b s) k := by
      unfold bOK
      rw [hg 3 k (by omega), hg 4 k (by omega), hg 0 _ (by omega), hg 0 _ (by omega), hg 1 _ (by omega), hg 1 _ (by omega)]
      exact h.2.2.2.2.2.2
    rw [hg 3 k (by omega), hg 4 k (by omega)]
    refine ⟨h.1, h.2.1, h.2.2.1, h.2.2.2.1, ?_, ?_, hbo⟩
    · show 1 ≤ (if 5 = 5 ∧ k = b then s else φ.1 5 k)
      split <;> omega
    · show (if 5 = 5 ∧ k = b then s else φ.1 5 k) ≤ 12
      split <;> omega
  · rw [hg f j (by omega)]
    exact w.2.2.2.2 f j h6 hf hj
theorem WF_delB {φ : FR} (w : WF φ) {b : Nat} (hb : b < nb φ) : WF (delB φ b) := by
  have hg : ∀ f j, ¬ (3 ≤ f ∧ f < 6) → (delB φ b).1 f j = φ.1 f j := fun f j h => if_neg (by omega)
  have hm : ∀ k, k < nb φ - 1 → ∃ k', k' < nb φ ∧ ∀ f, 3 ≤ f → f < 6 → (delB φ b).1 f k = φ.1 f k' := by
    intro k hk
    by_cases e : b ≤ k
    · exact ⟨k + 1, by omega, fun f h1 h2 => if_pos ⟨h1, h2, e, hk⟩⟩
    · exact ⟨k, by omega, fun f h1 h2 => if_neg (by omega)⟩
  refine ⟨w.1, by show nb φ - 1 ≤ 6; have := w.2.1; omega, fun j hj => ?_, fun k hk => ?_, fun f j h6 hf hj => ?_⟩
  · rw [hg 0 j (by omega), hg 1 j (by omega), hg 2 j (by omega)]
    exact w.2.2.1 j hj
  · obtain ⟨k', hk', e⟩ := hm k hk
    have h := w.2.2.2.1 k' hk'
    have hbo : bOK (delB φ b) k := by
      unfold bOK
      rw [e 3 (by omega) (by omega), e 4 (by omega) (by omega), hg 0 _ (by omega), hg 0 _ (by omega), hg 1 _ (by omega), hg 1 _ (by omega)]
      exact h.2.2.2.2.2.2
    rw [e 3 (by omega) (by omega), e 4 (by omega) (by omega), e 5 (by omega) (by omega)]
    exact ⟨h.1, h.2.1, h.2.2.1, h.2.2.2.1, h.2.2.2.2.1, h.2.2.2.2.2.1, hbo⟩
  · rw [hg f j (by omega)]
    exact w.2.2.2.2 f j h6 hf hj
section
variable {N : Nat} {σ : ZS} {φ : FR}
theorem c_node (hN : 100 ≤ N) (h : CFr σ 0 φ) (w : WF φ) {x y k : Int} (hx : iR x) (hy : iR y) (hk : iR k) : ∃ τ, f_X5_node N (nt x) (nt y) (nt k) σ = some (nt (oNode φ x y k).1, τ) ∧ Cst (oNode φ x y k).2.2 σ φ τ (oNode φ x y k).2.1 := by
  have hw := w.1
  unfold f_X5_node oNode
  rw [n_0, n_9, n_3, s_within N x 0 9 hx ⟨by omega, by omega⟩ ⟨by omega, by omega⟩, obd_some, n_0.symm, br_p]
  by_cases e1 : 0 ≤ x ∧ x ≤ 9
  rotate_left
  · rw [if_neg e1, if_neg e1]; exact ⟨σ, rfl, Cst_0 h w⟩
  rw [if_pos e1, if_pos e1, n_0, s_within N y 0 9 hy ⟨by omega, by omega⟩ ⟨by omega, by omega⟩, obd_some, n_0.symm, br_p]
  by_cases e2 : 0 ≤ y ∧ y ≤ 9
  rotate_left
  · rw [if_neg e2, if_neg e2]; exact ⟨σ, rfl, Cst_0 h w⟩
  rw [if_pos e2, if_pos e2, n_0, s_within N k 0 3 hk ⟨by omega, by omega⟩ ⟨by omega, by omega⟩, obd_some, n_0.symm, br_p]
  by_cases e3 : 0 ≤ k ∧ k ≤ 3
  rotate_left
  · rw [if_neg e3, if_neg e3]; exact ⟨σ, rfl, Cst_0 h w⟩
  rw [if_pos e3, if_pos e3, s_nodeAt hN h w hx hy, obd_some, br_p]
  by_cases e4 : an (fun n => decide (φ.1 0 n = x ∧ φ.1 1 n = y)) (nn φ) = true
  · rw [if_pos e4, if_pos e4]; exact ⟨σ, rfl, Cst_0 h w⟩
  rw [if_neg e4, if_neg e4, CFr_n h, n_7]
  by_cases e5 : nn φ < 7
  rotate_left
  · rw [if_neg e5, lt_f (by omega) (by omega) (by omega)]; exact ⟨σ, rfl, Cst_0 h w⟩
  rw [if_pos e5, lt_t (by omega) (by omega) (by omega), s_forgetShape, obd_some]
  have c0 : ∀ f, f < 12 → cl 0 f ≠ 0 := fun f _ => by have := @cl_ge 0 f; omega
  have h1 : CFr (sI (sI σ 0 7 (nt 0)) 0 8 (nt 0)) 0 φ := CFr_keep (CFr_keep h (by omega) c0 _ _) (by omega) c0 _ _
  obtain ⟨σ1, e⟩ : ∃ s, s = sI (sI σ 0 7 (nt 0)) 0 8 (nt 0) := ⟨_, rfl⟩
  rw [← e] at h1 ⊢
  unfold f_X2_addNode
  have g2 : ∀ (s : ZS) (f j : Nat) (v : Int), gI s 2 0 = nt (nn φ) → gI (sI s (cl 0 f) j (nt v)) 2 0 = nt (nn φ) := fun s f j v q => by rw [gI_sI_c (by have := @cl_ge 0 f; omega)]; exact q
  have a0 : gI σ1 2 0 = nt (nn φ) := CFr_n h1
  have a1 := g2 σ1 0 (nn φ) x a0
  have a2 := g2 _ 1 (nn φ) y a1
  have a3 := g2 _ 2 (nn φ) k a2
  have b1 := CFr_sF (CFr_sF (CFr_sF h1 (by omega) (f := 0) (by omega) (nn φ) x) (by omega) (f := 1) (by omega) (nn φ) y) (by omega) (f := 2) (by omega) (nn φ) k
  simp only [show cl 0 0 = 20 from rfl, show cl 0 1 = 21 from rfl, show cl 0 2 = 22 from rfl] at a1 a2 a3 b1
  rw [a0, nat_k (by omega), ck_inb (by omega) (by omega) (by omega), bd_eq, a1, nat_k (by omega), ck_inb (by omega) (by omega) (by omega), bd_eq, a2, nat_k (by omega), ck_inb (by omega) (by omega) (by omega), bd_eq, a3, bd_eq, n_1, nt_add, bd_eq, bd_eq, obd_some]
  refine ⟨_, rfl, ?_⟩
  refine ⟨⟨?_, ?_, fun f j hf hj => ?_⟩, WF_addN w e1 e2 e3 e5, ?_, fun c h0 h2 hc _ => ?_, ?_, fun q => absurd q (by simp), fun _ => ⟨?_, ?_⟩, fun q => absurd q (by simp)⟩
  · rw [gI_sI_at]; rfl
  · rw [gI_sI_k (by omega)]; exact b1.2.1
  · rw [gI_sI_c (by have := @cl_ge 0 f; omega)]
    by_cases e6 : f < 3 ∧ j = nn φ
    · obtain ⟨q1, rfl⟩ := e6
      rcases (show f = 0 ∨ f = 1 ∨ f = 2 by omega) with rfl | rfl | rfl
      · show gI _ 20 _ = nt ((addN φ x y k).1 0 (nn φ))
        rw [gI_sI_c (by omega), gI_sI_c (by omega), gI_sI_at]
        simp [addN, sF]
      · show gI _ 21 _ = nt ((addN φ x y k).1 1 (nn φ))
        rw [gI_sI_c (by omega), gI_sI_at]
        simp [addN, sF]
      · show gI _ 22 _ = nt ((addN φ x y k).1 2 (nn φ))
        rw [gI_sI_at]
        simp [addN, sF]
    · refine b1.2.2 f j hf ?_
      have hj : j < (if f < 3 then nn φ + 1 else if f < 6 then nb φ else 7) := hj
      show j < (if f < 3 then nn φ else if f < 6 then nb φ else 7)
      split at hj
      · rw [if_pos (by assumption)]; omega
      · rw [if_neg (by assumption)]; exact hj
  · rw [e]; rfl
  · rw [sI_o (by omega), sI_o (by omega), sI_o (by omega), sI_o (by omega), e, sI_o (by omega), sI_o (by omega)]
  · rw [gI_sI_c (by omega), gI_sI_c (by omega), gI_sI_c (by omega), gI_sI_c (by omega), e, gI_sI_k (by omega), gI_sI_k (by omega)]
  · rw [gI_sI_c (by omega), gI_sI_c (by omega), gI_sI_c (by omega), gI_sI_c (by omega), e, gI_sI_k (by omega), gI_sI_at]
  · rw [gI_sI_c (by omega), gI_sI_c (by omega), gI_sI_c (by omega), gI_sI_c (by omega), e, gI_sI_at]
theorem c_hold (h : CFr σ 0 φ) (w : WF φ) {n k : Int} (hn : iR n) (hk : iR k) : ∃ τ, f_X5_hold N (nt n) (nt k) σ = some (nt (oHold φ n k).1, τ) ∧ Cst (oHold φ n k).2.2 σ φ τ (oHold φ n k).2.1 := by
  have hw := w.1
  unfold f_X5_hold oHold
  rw [s_isNode h w hn, obd_some, br_p]
  by_cases e1 : 0 ≤ n ∧ n ≤ nn φ - 1
  rotate_left
  · rw [if_neg e1, if_neg e1]; exact ⟨σ, rfl, Cst_0 h w⟩
  rw [if_pos e1, if_pos e1, n_0, n_3, s_within N k 0 3 hk ⟨by omega, by omega⟩ ⟨by omega, by omega⟩, obd_some, n_0.symm, br_p]
  by_cases e2 : 0 ≤ k ∧ k ≤ 3
  rotate_left
  · rw [if_neg e2, if_neg e2]; exact ⟨σ, rfl, Cst_0 h w⟩
  rw [if_pos e2, if_pos e2, ck_inb (by omega) (by omega) (by omega), bd_eq, ck_inb (by omega) (by omega) (by omega), nat_nt (by omega) (by omega), CFr_k h (by omega), bd_eq, s_forgetShape, obd_some]
  have c0 : ∀ f, f < 12 → cl 0 f ≠ 0 := fun f _ => by have := @cl_ge 0 f; omega
  refine ⟨_, rfl, CFr_keep (CFr_keep (CFr_sF h (by omega) (f := 2) (by omega) n.toNat k) (by omega) c0 _ _) (by omega) c0 _ _, WF_hold w e2, rfl, fun c h0 h2 hc _ => ?_, ?_, fun q => absurd q (by simp), fun _ => ⟨?_, ?_⟩, fun q => absurd q (by simp)⟩
  · rw [sI_o (by omega), sI_o (by omega), sI_o (by omega)]
  · rw [gI_sI_k (by omega), gI_sI_k (by omega), gI_sI_c (by omega)]
  · rw [gI_sI_k (by omega), gI_sI_at]
  · rw [gI_sI_at]
theorem c_strengthen (h : CFr σ 0 φ) (w : WF φ) {b s : Int} (hb : iR b) (hs : iR s) : ∃ τ, f_X5_strengthen N (nt b) (nt s) σ = some (nt (oStr φ b s).1, τ) ∧ Cst (oStr φ b s).2.2 σ φ τ (oStr φ b s).2.1 := by
  have hw := w.2.1
  unfold f_X5_strengthen oStr
  rw [s_isBar h w hb, obd_some, br_p]
  by_cases e1 : 0 ≤ b ∧ b ≤ nb φ - 1
  rotate_left
  · rw [if_neg e1, if_neg e1]; exact ⟨σ, rfl, Cst_0 h w⟩
  rw [if_pos e1, if_pos e1, n_1, n_12, s_within N s 1 12 hs ⟨by omega, by omega⟩ ⟨by omega, by omega⟩, obd_some, br_p]
  by_cases e2 : 1 ≤ s ∧ s ≤ 12
  rotate_left
  · rw [if_neg e2, if_neg e2]; exact ⟨σ, rfl, Cst_0 h w⟩
  rw [if_pos e2, if_pos e2, ck_inb (by omega) (by omega) (by omega), bd_eq, ck_inb (by omega) (by omega) (by omega), nat_nt (by omega) (by omega), CFr_s h (by omega), bd_eq, bd_eq]
  have c0 : ∀ f, f < 12 → cl 0 f ≠ 0 := fun f _ => by have := @cl_ge 0 f; omega
  refine ⟨_, rfl, CFr_keep (CFr_sF h (by omega) (f := 5) (by omega) b.toNat s) (by omega) c0 _ _, WF_str w e2, rfl, fun c h0 h2 hc _ => ?_, ?_, fun q => absurd q (by simp), fun q => absurd q (by simp), fun _ => ⟨?_, ?_, rfl, fun f k hf => if_neg (by omega)⟩⟩
  · rw [sI_o (by omega), sI_o (by omega)]
  · rw [gI_sI_k (by omega), gI_sI_c (by omega)]
  · rw [gI_sI_at]; rfl
  · rw [gI_sI_k (by omega), gI_sI_c (by omega)]
theorem c_bar (hN : 100 ≤ N) (h : CFr σ 0 φ) (w : WF φ) {x y k : Int} (hx : iR x) (hy : iR y) (hk : iR k) : ∃ τ, f_X5_bar N (nt x) (nt y) (nt k) σ = some (nt (oBar φ x y k).1, τ) ∧ Cst (oBar φ x y k).2.2 σ φ τ (oBar φ x y k).2.1 := by
  have hw := w.1
  have hw2 := w.2.1
  unfold f_X5_bar oBar
  rw [s_isNode h w hx, obd_some, br_p]
  by_cases e1 : 0 ≤ x ∧ x ≤ nn φ - 1
  rotate_left
  · rw [if_neg e1, if_neg e1]; exact ⟨σ, rfl, Cst_0 h w⟩
  rw [if_pos e1, if_pos e1, s_isNode h w hy, obd_some, br_p]
  by_cases e2 : 0 ≤ y ∧ y ≤ nn φ - 1
  rotate_left
  · rw [if_neg e2, if_neg e2]; exact ⟨σ, rfl, Cst_0 h w⟩
  rw [if_pos e2, if_pos e2, n_1, n_12, s_within N k 1 12 hk ⟨by omega, by omega⟩ ⟨by omega, by omega⟩, obd_some, br_p]
  by_cases e3 : 1 ≤ k ∧ k ≤ 12
  rotate_left
  · rw [if_neg e3, if_neg e3]; exact ⟨σ, rfl, Cst_0 h w⟩
  have hxe : nt x = nt (x.toNat : Int) := by rw [Int.toNat_of_nonneg e1.1]
  have hye : nt y = nt (y.toNat : Int) := by rw [Int.toNat_of_nonneg e2.1]
  rw [if_pos e3, if_pos e3, hxe, hye, s_canJoin h w (a := x.toNat) (b := y.toNat) (by omega) (by omega), obd_some, br_p, ← hxe, ← hye]
  by_cases e6 : (φ.1 1 y.toNat - φ.1 1 x.toNat = 0 ∧ 1 ≤ φ.1 0 y.toNat - φ.1 0 x.toNat ∧ φ.1 0 y.toNat - φ.1 0 x.toNat ≤ 4) ∨ (φ.1 0 y.toNat - φ.1 0 x.toNat = 0 ∧ 1 ≤ φ.1 1 y.toNat - φ.1 1 x.toNat ∧ φ.1 1 y.toNat - φ.1 1 x.toNat ≤ 4)
  rotate_left
  · rw [if_neg e6, if_neg e6]; exact ⟨σ, rfl, Cst_0 h w⟩
  rw [if_pos e6, if_pos e6, s_barBetween hN h w hx hy, obd_some, br_p]
  by_cases e4 : an (fun n => decide (φ.1 3 n = x ∧ φ.1 4 n = y)) (nb φ) = true
  · rw [if_pos e4, if_pos e4]; exact ⟨σ, rfl, Cst_0 h w⟩
  rw [if_neg e4, if_neg e4, CFr_b h, n_6]
  by_cases e5 : nb φ < 6
  rotate_left
  · rw [if_neg e5, lt_f (by omega) (by omega) (by omega)]; exact ⟨σ, rfl, Cst_0 h w⟩
  rw [if_pos e5, lt_t (by omega) (by omega) (by omega), s_forgetShape, obd_some]
  have c0 : ∀ f, f < 12 → cl 0 f ≠ 0 := fun f _ => by have := @cl_ge 0 f; omega
  have h1 : CFr (sI (sI σ 0 7 (nt 0)) 0 8 (nt 0)) 0 φ := CFr_keep (CFr_keep h (by omega) c0 _ _) (by omega) c0 _ _
  obtain ⟨σ1, e⟩ : ∃ s, s = sI (sI σ 0 7 (nt 0)) 0 8 (nt 0) := ⟨_, rfl⟩
  rw [← e] at h1 ⊢
  unfold f_X2_addBar
  have g2 : ∀ (s : ZS) (f j : Nat) (v : Int), gI s 2 1 = nt (nb φ) → gI (sI s (cl 0 f) j (nt v)) 2 1 = nt (nb φ) := fun s f j v q => by rw [gI_sI_c (by have := @cl_ge 0 f; omega)]; exact q
  have a0 : gI σ1 2 1 = nt (nb φ) := CFr_b h1
  have a1 := g2 σ1 3 (nb φ) x a0
  have a2 := g2 _ 4 (nb φ) y a1
  have a3 := g2 _ 5 (nb φ) k a2
  have b1 := CFr_sF (CFr_sF (CFr_sF h1 (by omega) (f := 3) (by omega) (nb φ) x) (by omega) (f := 4) (by omega) (nb φ) y) (by omega) (f := 5) (by omega) (nb φ) k
  simp only [show cl 0 3 = 23 from rfl, show cl 0 4 = 24 from rfl, show cl 0 5 = 25 from rfl] at a1 a2 a3 b1
  rw [a0, nat_k (by omega), ck_inb (by omega) (by omega) (by omega), bd_eq, a1, nat_k (by omega), ck_inb (by omega) (by omega) (by omega), bd_eq, a2, nat_k (by omega), ck_inb (by omega) (by omega) (by omega), bd_eq, a3, bd_eq, n_1, nt_add, bd_eq, bd_eq, obd_some]
  refine ⟨_, rfl, ?_⟩
  refine ⟨⟨?_, ?_, fun f j hf hj => ?_⟩, WF_addB w e1 e2 e3 e6 e5, ?_, fun c h0 h2 hc _ => ?_, ?_, fun q => absurd q (by simp), fun _ => ⟨?_, ?_⟩, fun q => absurd q (by simp)⟩
  · rw [gI_sI_k (by omega)]; exact b1.1
  · rw [gI_sI_at]; rfl
  · rw [gI_sI_c (by have := @cl_ge 0 f; omega)]
    by_cases e6 : (3 ≤ f ∧ f < 6) ∧ j = nb φ
    · obtain ⟨q1, rfl⟩ := e6
      rcases (show f = 3 ∨ f = 4 ∨ f = 5 by omega) with rfl | rfl | rfl
      · show gI _ 23 _ = nt ((addB φ x y k).1 3 (nb φ))
        rw [gI_sI_c (by omega), gI_sI_c (by omega), gI_sI_at]
        simp [addB, sF]
      · show gI _ 24 _ = nt ((addB φ x y k).1 4 (nb φ))
        rw [gI_sI_c (by omega), gI_sI_at]
        simp [addB, sF]
      · show gI _ 25 _ = nt ((addB φ x y k).1 5 (nb φ))
        rw [gI_sI_at]
        simp [addB, sF]
    · refine b1.2.2 f j hf ?_
      have hj : j < (if f < 3 then nn φ else if f < 6 then nb φ + 1 else 7) := hj
      show j < (if f < 3 then nn φ else if f < 6 then nb φ else 7)
      split at hj
      · rw [if_pos (by assumption)]; exact hj
      · split at hj
        · rw [if_neg (by assumption), if_pos (by assumption)]; omega
        · rw [if_neg (by assumption), if_neg (by assumption)]; exact hj
  · rw [e]; rfl
  · rw [sI_o (by omega), sI_o (by omega), sI_o (by omega), sI_o (by omega), e, sI_o (by omega), sI_o (by omega)]
  · rw [gI_sI_c (by omega), gI_sI_c (by omega), gI_sI_c (by omega), gI_sI_c (by omega), e, gI_sI_k (by omega), gI_sI_k (by omega)]
  · rw [gI_sI_c (by omega), gI_sI_c (by omega), gI_sI_c (by omega), gI_sI_c (by omega), e, gI_sI_k (by omega), gI_sI_at]
  · rw [gI_sI_c (by omega), gI_sI_c (by omega), gI_sI_c (by omega), gI_sI_c (by omega), e, gI_sI_at]
theorem c_lift (hN : 100 ≤ N) (h : CFr σ 0 φ) (w : WF φ) {b : Int} (hb : iR b) : ∃ τ, f_X5_lift N (nt b) σ = some (nt (oLift φ b).1, τ) ∧ Cst (oLift φ b).2.2 σ φ τ (oLift φ b).2.1 := by
  have hw2 := w.2.1
  unfold f_X5_lift oLift
  rw [s_isBar h w hb, obd_some, br_p]
  by_cases e1 : 0 ≤ b ∧ b ≤ nb φ - 1
  rotate_left
  · rw [if_neg e1, if_neg e1]; exact ⟨σ, rfl, Cst_0 h w⟩
  rw [if_pos e1, if_pos e1, s_forgetShape, obd_some]
  have c0 : ∀ f, f < 12 → cl 0 f ≠ 0 := fun f _ => by have := @cl_ge 0 f; omega
  have h1 : CFr (sI (sI σ 0 7 (nt 0)) 0 8 (nt 0)) 0 φ := CFr_keep (CFr_keep h (by omega) c0 _ _) (by omega) c0 _ _
  obtain ⟨σ1, e⟩ : ∃ s, s = sI (sI σ 0 7 (nt 0)) 0 8 (nt 0) := ⟨_, rfl⟩
  rw [← e] at h1 ⊢
  unfold f_X2_removeBar
  rw [CFr_b h1, n_1, nt_sub, bd_eq, bd_eq]
  obtain ⟨B, hB⟩ : ∃ B : Nat, b = B := ⟨b.toNat, by omega⟩
  subst hB
  obtain ⟨m, hm⟩ : ∃ m : Nat, nb φ = m + 1 := ⟨nb φ - 1, by omega⟩
  have hmi : ((nb φ : Nat) : Int) - 1 = (m : Nat) := by omega
  rw [hmi]
  obtain ⟨s, es, hI⟩ := lp_inv (fun n k s => f_X2_removeBar_h12 N n (nt (k : Nat)) s) (fun k s => B ≤ k ∧ s.2 = σ1.2 ∧ (∀ c, c ≠ 23 → c ≠ 24 → c ≠ 25 → s.1 c = (sI σ1 2 1 (nt (m : Nat))).1 c) ∧ ∀ f j, f < 3 → j < nb φ → gI s (23 + f) j = nt (if B ≤ j ∧ j < k then φ.1 (3 + f) (j + 1) else φ.1 (3 + f) j)) m (fun n k s hk q => by
      obtain ⟨q0, q1, q2, q3⟩ := q
      have hk : k < m := hk
      have g1 : ∀ t : ZS, (∀ c, c ≠ 23 → c ≠ 24 → c ≠ 25 → t.1 c = (sI σ1 2 1 (nt (m : Nat))).1 c) → gI t 2 1 = nt (m : Nat) := fun t ht => by
        unfold gI; rw [ht 2 (by omega) (by omega) (by omega)]
        exact gI_sI_at σ1 2 1 _
      have hr : ∀ f, f < 3 → gI s (23 + f) (k + 1) = nt (φ.1 (3 + f) (k + 1)) := fun f hf => by
        rw [q3 f (k + 1) hf (by omega), if_neg (by omega)]
      have h0 : gI s 23 (k + 1) = _ := hr 0 (by omega)
      have h4 : gI s 24 (k + 1) = _ := hr 1 (by omega)
      have h5 : gI s 25 (k + 1) = _ := hr 2 (by omega)
      rw [f_X2_removeBar_h12, g1 s q2, le_f (by omega) (by omega) (by omega), n_1, nt_add, nat_nt (by omega) (by omega), show ((k : Int) + 1).toNat = k + 1 by omega, ck_inb (by omega) (by omega) (by omega), bd_eq, ck_inb (by omega) (by omega) (by omega), nat_k (by omega), bd_eq, ck_inb (by omega) (by omega) (by omega), bd_eq, gI_sI_c (by omega), ck_inb (by omega) (by omega) (by omega), bd_eq, ck_inb (by omega) (by omega) (by omega), bd_eq, gI_sI_c (by omega), gI_sI_c (by omega), ck_inb (by omega) (by omega) (by omega), bd_eq, bd_eq, h0, h4, h5]
      refine ⟨_, rfl, by omega, q1, fun c c1 c2 c3 => ?_, fun f j hf hj => ?_⟩
      · rw [sI_o c3, sI_o c2, sI_o c1]; exact q2 c c1 c2 c3
      · have hz : gI (sI (sI (sI s 23 k (nt (φ.1 3 (k + 1)))) 24 k (nt (φ.1 4 (k + 1)))) 25 k (nt (φ.1 5 (k + 1)))) (23 + f) j = if j = k then nt (φ.1 (3 + f) (k + 1)) else gI s (23 + f) j := by
          rcases (show f = 0 ∨ f = 1 ∨ f = 2 by omega) with rfl | rfl | rfl
          · rw [gI_sI_c (by omega), gI_sI_c (by omega), gI_sI]; simp
          · rw [gI_sI_c (by omega), gI_sI, gI_sI_c (by omega)]; simp
          · rw [gI_sI, gI_sI_c (by omega), gI_sI_c (by omega)]; simp
        refine Eq.trans hz ?_
        by_cases ej : j = k
        · subst ej; rw [if_pos rfl, if_pos (by omega)]
        · rw [if_neg ej, q3 f j hf hj]
          by_cases e7 : B ≤ j ∧ j < k
          · rw [if_pos e7, if_pos (by omega)]
          · rw [if_neg e7, if_neg (by omega)]) (m - B) B N (sI σ1 2 1 (nt (m : Nat))) (by omega) (by omega) ⟨Nat.le_refl B, rfl, fun _ _ _ _ => rfl, fun f j hf hj => by
        rw [gI_sI_c (by omega), if_neg (by omega)]
        have := h1.2.2 (3 + f) j (by omega) (by unfold lf; rw [if_neg (by omega), if_pos (by omega)]; exact hj)
        rwa [show cl 0 (3 + f) = 23 + f from by unfold cl; rw [if_pos (by omega)]; omega] at this⟩
  obtain ⟨_, q1, q2, q3⟩ := hI
  obtain ⟨n, en⟩ : ∃ n, N - (m - B) = n + 1 := ⟨N - (m - B) - 1, by omega⟩
  have hx : f_X2_removeBar_h12 N (n + 1) (nt (m : Nat)) s = some (nt (m : Nat), s) := by
    have g1 : gI s 2 1 = nt (m : Nat) := by
      unfold gI; rw [q2 2 (by omega) (by omega) (by omega)]
      exact gI_sI_at σ1 2 1 _
    rw [f_X2_removeBar_h12, g1, le_t (by omega) (by omega) (by omega)]
  have es : f_X2_removeBar_h12 N N (nt (B : Nat)) (sI σ1 2 1 (nt (m : Nat))) = f_X2_removeBar_h12 N (N - (m - B)) (nt (m : Nat)) s := es
  rw [es, en, hx, obd_some]
  have hd : ((delB φ B).2.2 : Nat) = m := by show nb φ - 1 = m; omega
  have ho : ∀ c, c ≠ 23 → c ≠ 24 → c ≠ 25 → c ≠ 2 → s.1 c = σ1.1 c := fun c c1 c2 c3 c4 => by rw [q2 c c1 c2 c3, sI_o c4]
  have ho1 : ∀ c, c ≠ 0 → σ1.1 c = σ.1 c := fun c hc => by rw [e, sI_o hc, sI_o hc]
  refine ⟨s, rfl, ⟨?_, ?_, fun f j hf hj => ?_⟩, WF_delB w (by omega), by rw [q1, e]; rfl, fun c h0 h2 hc _ => ?_, ?_, fun q => absurd q (by simp), fun _ => ⟨?_, ?_⟩, fun q => absurd q (by simp)⟩
  · unfold gI; rw [q2 2 (by omega) (by omega) (by omega)]
    show gI (sI σ1 2 1 _) 2 0 = _
    rw [gI_sI_k (by omega)]; exact h1.1
  · unfold gI; rw [q2 2 (by omega) (by omega) (by omega)]
    show gI (sI σ1 2 1 _) 2 1 = nt (((delB φ B).2.2 : Nat) : Int)
    rw [gI_sI_at, hd]
  · have hj : j < (if f < 3 then nn φ else if f < 6 then nb φ - 1 else 7) := hj
    show gI s (cl 0 f) j = nt (if 3 ≤ f ∧ f < 6 ∧ B ≤ j ∧ j < nb φ - 1 then φ.1 f (j + 1) else φ.1 f j)
    by_cases ef : 3 ≤ f ∧ f < 6
    · rw [if_neg (by omega), if_pos ef.2] at hj
      obtain ⟨f', rfl⟩ : ∃ f', f = 3 + f' := ⟨f - 3, by omega⟩
      rw [show cl 0 (3 + f') = 23 + f' from by unfold cl; rw [if_pos (by omega)]; omega, q3 f' j (by omega) (by omega)]
      by_cases e7 : B ≤ j ∧ j < m
      · rw [if_pos e7, if_pos ⟨by omega, by omega, by omega, by omega⟩]
      · rw [if_neg e7, if_neg (by omega)]
    · rw [if_neg (by omega)]
      have hcl : cl 0 f ≠ 23 ∧ cl 0 f ≠ 24 ∧ cl 0 f ≠ 25 ∧ cl 0 f ≠ 2 := by unfold cl; split <;> omega
      have := h1.2.2 f j hf (by
        show j < (if f < 3 then nn φ else if f < 6 then nb φ else 7)
        split at hj
        · rw [if_pos (by assumption)]; exact hj
        · split at hj
          · omega
          · rw [if_neg (by assumption), if_neg (by assumption)]; exact hj)
      rw [← this]
      unfold gI
      rw [ho _ hcl.1 hcl.2.1 hcl.2.2.1 hcl.2.2.2]
  · rw [ho c (by omega) (by omega) (by omega) h2, ho1 c h0]
  · unfold gI; rw [ho 0 (by omega) (by omega) (by omega) (by omega), e]
    show gI (sI (sI σ 0 7 _) 0 8 _) 0 6 = gI σ 0 6
    rw [gI_sI_k (by omega), gI_sI_k (by omega)]
  · unfold gI; rw [ho 0 (by omega) (by omega) (by omega) (by omega), e]
    show gI (sI (sI σ 0 7 _) 0 8 _) 0 7 = _
    rw [gI_sI_k (by omega), gI_sI_at]
  · unfold gI; rw [ho 0 (by omega) (by omega) (by omega) (by omega), e]
    show gI (sI (sI σ 0 7 _) 0 8 _) 0 8 = _
    rw [gI_sI_at]
end
