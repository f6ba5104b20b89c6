-- ===== the reference: restore; what images hold =====
def Rs (σ : ZS) (K a b c : Nat) (s : ZS) : Prop := s.2 = σ.2 ∧ (∀ c, ¬ (1068 ≤ c ∧ c < 1075) → s.1 c = σ.1 c) ∧ (∀ f n, f < 3 → n < a → gI s (1068 + f) n = gI σ 1104 (83 * K + 3 * n + f)) ∧ (∀ f n, f < 3 → n < b → gI s (1071 + f) n = gI σ 1104 (83 * K + 21 + 3 * n + f)) ∧ ∀ i, i < c → gI s 1074 i = gI σ 1104 (83 * K + 39 + i)
section
variable {N : Nat} {σ : ZS} {φ : FR}
theorem m_restore (hN : 100 ≤ N) {k : Int} (hk : iR k) {kept : Nat} (hkept : ∀ K, K < 2 → gI σ 1105 K = nt (if kept.testBit K = true then 1 else 0)) : (¬ (0 ≤ k ∧ k ≤ 1) → f_X6_restore N (nt k) σ = some (nt (-2), σ)) ∧ (0 ≤ k ∧ k ≤ 1 → kept.testBit k.toNat = false → f_X6_restore N (nt k) σ = some (nt (-5), σ)) ∧ (0 ≤ k ∧ k ≤ 1 → kept.testBit k.toNat = true → ∃ s, Rs σ k.toNat 7 6 42 s ∧ f_X6_restore N (nt k) σ = some (nt 1, wI (sI (sI (sI s 1067 0 (gI σ 1104 (83 * k.toNat + 81))) 1067 4 (gI σ 1104 (83 * k.toNat + 82))) 1067 9 (nt 1)) 1096 3 (fun _ => nt 0))) := by
  unfold f_X6_restore
  rw [n_0, n_1, s_in N k 0 1 hk ⟨by omega, by omega⟩ ⟨by omega, by omega⟩, obd_some, n_0.symm, br_p]
  refine ⟨fun e => by rw [if_neg e]; rfl, fun e h1 => ?_, fun e h1 => ?_⟩
  · obtain ⟨K, rfl⟩ : ∃ K : Nat, k = K := ⟨k.toNat, by omega⟩
    have h1 : kept.testBit K = false := h1
    rw [if_pos e, ck_inb (by omega) (by omega) (by omega), nat_k (by omega), hkept K (by omega), br_p, if_neg (by rw [h1]; simp)]; rfl
  obtain ⟨K, rfl⟩ : ∃ K : Nat, k = K := ⟨k.toNat, by omega⟩
  have h1 : kept.testBit K = true := h1
  rw [if_pos e, ck_inb (by omega) (by omega) (by omega), nat_k (by omega), hkept K (by omega), br_p, if_pos h1, n_83, nt_mul, bd_eq, n_0]
  -- nodes
  obtain ⟨s1, e1, i1⟩ := lp_inv (fun n j s => f_X6_restore_h31 N (nt (83 * (K : Nat))) n (nt (j : Nat)) s) (fun j s => Rs σ K j 0 0 s) 7 (fun n j s hj q => by
    obtain ⟨q1, q2, q4, q5, q6⟩ := q
    have rI : ∀ p, gI s 1104 p = gI σ 1104 p := fun p => by unfold gI; rw [q2 _ (by omega)]
    refine ⟨sI (sI (sI s 1068 j (gI σ 1104 (83 * K + 3 * j))) 1069 j (gI σ 1104 (83 * K + 3 * j + 1))) 1070 j (gI σ 1104 (83 * K + 3 * j + 2)), ?_, q1, fun c hc => by rw [sI_o (by omega), sI_o (by omega), sI_o (by omega)]; exact q2 c hc, fun f m hf hm => ?_, fun f m hf hm => by omega, fun i hi => by omega⟩
    · rw [f_X6_restore_h31, n_7, le_f (by omega) (by omega) (by omega), n_1, n_2, n_3, nt_mul, nt_add, nt_add, nt_add, nt_add, ck_inb (by omega) (by omega) (by omega), nat_k (by omega), nat_nt (by omega) (by omega), show ((83 : Int) * (K : Nat) + 3 * (j : Nat)).toNat = 83 * K + 3 * j by omega, rI, bd_eq, ck_inb (by omega) (by omega) (by omega), bd_eq, ck_inb (by omega) (by omega) (by omega), nat_nt (by omega) (by omega), show ((83 : Int) * (K : Nat) + 3 * (j : Nat) + 1).toNat = 83 * K + 3 * j + 1 by omega, gI_sI_c (by omega), rI, bd_eq, ck_inb (by omega) (by omega) (by omega), bd_eq, ck_inb (by omega) (by omega) (by omega), nat_nt (by omega) (by omega), show ((83 : Int) * (K : Nat) + 3 * (j : Nat) + 2).toNat = 83 * K + 3 * j + 2 by omega, gI_sI_c (by omega), gI_sI_c (by omega), rI, bd_eq, ck_inb (by omega) (by omega) (by omega), bd_eq, bd_eq]
      rfl
    · have hz : gI (sI (sI (sI s 1068 j (gI σ 1104 (83 * K + 3 * j))) 1069 j (gI σ 1104 (83 * K + 3 * j + 1))) 1070 j (gI σ 1104 (83 * K + 3 * j + 2))) (1068 + f) m = if m = j then gI σ 1104 (83 * K + 3 * j + f) else gI s (1068 + f) m := by
        rcases (show f = 0 ∨ f = 1 ∨ f = 2 by omega) with rfl | rfl | rfl
        · rw [gI_sI_c (by omega), gI_sI_c (by omega), gI_sI]; simp
        · rw [gI_sI_c (by omega), gI_sI, gI_sI_c (by omega)]; simp
        · rw [gI_sI, gI_sI_c (by omega), gI_sI_c (by omega)]; simp
      rw [hz]
      by_cases em : m = j
      · rw [if_pos em, em]
      · rw [if_neg em]; exact q4 f m hf (by omega)) 7 0 N σ (by omega) (by omega) ⟨rfl, fun _ _ => rfl, fun f m _ hm => by omega, fun f m _ hm => by omega, fun i hi => by omega⟩
  obtain ⟨n1, en1⟩ : ∃ n, N - 7 = n + 1 := ⟨N - 7 - 1, by omega⟩
  have e1 : f_X6_restore_h31 N (nt (83 * (K : Nat))) N (nt 0) σ = f_X6_restore_h31 N (nt (83 * (K : Nat))) (N - 7) (nt 7) s1 := e1
  -- bars
  obtain ⟨s2, e2, i2⟩ := lp_inv (fun n j s => f_X6_restore_h97 N (nt (83 * (K : Nat))) n (nt (j : Nat)) s) (fun j s => Rs σ K 7 j 0 s) 6 (fun n j s hj q => by
    obtain ⟨q1, q2, q4, q5, q6⟩ := q
    have rI : ∀ p, gI s 1104 p = gI σ 1104 p := fun p => by unfold gI; rw [q2 _ (by omega)]
    refine ⟨sI (sI (sI s 1071 j (gI σ 1104 (83 * K + 21 + 3 * j))) 1072 j (gI σ 1104 (83 * K + 21 + 3 * j + 1))) 1073 j (gI σ 1104 (83 * K + 21 + 3 * j + 2)), ?_, q1, fun c hc => by rw [sI_o (by omega), sI_o (by omega), sI_o (by omega)]; exact q2 c hc, fun f m hf hm => ?_, fun f m hf hm => ?_, fun i hi => by omega⟩
    · rw [f_X6_restore_h97, n_6, le_f (by omega) (by omega) (by omega), n_1, n_3, n_21, n_22, n_23, nt_mul, nt_add, nt_add, nt_add, nt_add, nt_add, nt_add, nt_add, ck_inb (by omega) (by omega) (by omega), nat_k (by omega), nat_nt (by omega) (by omega), show ((83 : Int) * (K : Nat) + 21 + 3 * (j : Nat)).toNat = 83 * K + 21 + 3 * j by omega, rI, bd_eq, ck_inb (by omega) (by omega) (by omega), bd_eq, ck_inb (by omega) (by omega) (by omega), nat_nt (by omega) (by omega), show ((83 : Int) * (K : Nat) + 22 + 3 * (j : Nat)).toNat = 83 * K + 21 + 3 * j + 1 by omega, gI_sI_c (by omega), rI, bd_eq, ck_inb (by omega) (by omega) (by omega), bd_eq, ck_inb (by omega) (by omega) (by omega), nat_nt (by omega) (by omega), show ((83 : Int) * (K : Nat) + 23 + 3 * (j : Nat)).toNat = 83 * K + 21 + 3 * j + 2 by omega, gI_sI_c (by omega), gI_sI_c (by omega), rI, bd_eq, ck_inb (by omega) (by omega) (by omega), bd_eq, bd_eq]
      rfl
    · rw [gI_sI_c (by omega), gI_sI_c (by omega), gI_sI_c (by omega)]; exact q4 f m hf hm
    · have hz : gI (sI (sI (sI s 1071 j (gI σ 1104 (83 * K + 21 + 3 * j))) 1072 j (gI σ 1104 (83 * K + 21 + 3 * j + 1))) 1073 j (gI σ 1104 (83 * K + 21 + 3 * j + 2))) (1071 + f) m = if m = j then gI σ 1104 (83 * K + 21 + 3 * j + f) else gI s (1071 + f) m := by
        rcases (show f = 0 ∨ f = 1 ∨ f = 2 by omega) with rfl | rfl | rfl
        · rw [gI_sI_c (by omega), gI_sI_c (by omega), gI_sI]; simp
        · rw [gI_sI_c (by omega), gI_sI, gI_sI_c (by omega)]; simp
        · rw [gI_sI, gI_sI_c (by omega), gI_sI_c (by omega)]; simp
      rw [hz]
      by_cases em : m = j
      · rw [if_pos em, em]
      · rw [if_neg em]; exact q5 f m hf (by omega)) 6 0 N s1 (by omega) (by omega) i1
  obtain ⟨n2, en2⟩ : ∃ n, N - 6 = n + 1 := ⟨N - 6 - 1, by omega⟩
  have e2 : f_X6_restore_h97 N (nt (83 * (K : Nat))) N (nt 0) s1 = f_X6_restore_h97 N (nt (83 * (K : Nat))) (N - 6) (nt 6) s2 := e2
  -- loads
  obtain ⟨s3, e3, i3⟩ := lp_inv (fun n j s => f_X6_restore_h168 N (nt (83 * (K : Nat))) n (nt (j : Nat)) s) (fun j s => Rs σ K 7 6 j s) 42 (fun n j s hj q => by
    obtain ⟨q1, q2, q4, q5, q6⟩ := q
    have rI : ∀ p, gI s 1104 p = gI σ 1104 p := fun p => by unfold gI; rw [q2 _ (by omega)]
    refine ⟨sI s 1074 j (gI σ 1104 (83 * K + 39 + j)), ?_, q1, fun c hc => by rw [sI_o (by omega)]; exact q2 c hc, fun f m hf hm => ?_, fun f m hf hm => ?_, fun i hi => ?_⟩
    · rw [f_X6_restore_h168, n_42, le_f (by omega) (by omega) (by omega), n_1, show (39 : Int32) = nt 39 from rfl, nt_add, nt_add, nt_add, ck_inb (by omega) (by omega) (by omega), nat_k (by omega), nat_nt (by omega) (by omega), show ((83 : Int) * (K : Nat) + 39 + (j : Nat)).toNat = 83 * K + 39 + j by omega, rI, bd_eq, ck_inb (by omega) (by omega) (by omega), bd_eq, bd_eq]
      rfl
    · rw [gI_sI_c (by omega)]; exact q4 f m hf hm
    · rw [gI_sI_c (by omega)]; exact q5 f m hf hm
    · rw [gI_sI]
      by_cases em : i = j
      · subst em; rw [if_pos ⟨rfl, rfl⟩]
      · rw [if_neg (by omega)]; exact q6 i (by omega)) 42 0 N s2 (by omega) (by omega) i2
  obtain ⟨n3, en3⟩ : ∃ n, N - 42 = n + 1 := ⟨N - 42 - 1, by omega⟩
  have e3 : f_X6_restore_h168 N (nt (83 * (K : Nat))) N (nt 0) s2 = f_X6_restore_h168 N (nt (83 * (K : Nat))) (N - 42) (nt 42) s3 := e3
  refine ⟨s3, i3, ?_⟩
  have rI : ∀ p, gI s3 1104 p = gI σ 1104 p := fun p => by unfold gI; rw [i3.2.1 _ (by omega)]
  rw [e1, en1, f_X6_restore_h31, n_7, le_t (by omega) (by omega) (by omega), n_0, e2, en2, f_X6_restore_h97, n_6, le_t (by omega) (by omega) (by omega), n_0, e3, en3, f_X6_restore_h168, n_42, le_t (by omega) (by omega) (by omega), show (81 : Int32) = nt 81 from rfl, show (82 : Int32) = nt 82 from rfl, nt_add, nt_add, ck_inb (by omega) (by omega) (by omega), nat_nt (by omega) (by omega), nat_nt (by omega) (by omega), rI, bd_eq, bd_eq, ck_inb (by omega) (by omega) (by omega), gI_sI_c (by omega), rI, bd_eq, bd_eq, bd_eq, m_forget hN, obd_some, show ((83 : Int) * (K : Nat) + 81).toNat = 83 * K + 81 by omega, show ((83 : Int) * (K : Nat) + 82).toNat = 83 * K + 82 by omega]
  rfl
end
theorem MI_same {σ τ : ZS} {K : Nat} {φ : FR} (h : MI σ K φ) (hw : WF φ) (hs : ∀ p, 83 * K ≤ p → p < 83 * K + 83 → gI τ 1104 p = gI σ 1104 p) : MI τ K φ := by
  have h1 := hw.1
  have h2 := hw.2.1
  exact ⟨by rw [hs _ (by omega) (by omega)]; exact h.1, by rw [hs _ (by omega) (by omega)]; exact h.2.1, fun f n hf hn => by rw [hs _ (by omega) (by omega)]; exact h.2.2.1 f n hf hn, fun f n hf hn => by rw [hs _ (by omega) (by omega)]; exact h.2.2.2.1 f n hf hn, fun c v n hc hv hn => by rw [hs _ (by omega) (by omega)]; exact h.2.2.2.2 c v n hc hv hn⟩
theorem Im_MI {σ s : ZS} {K : Nat} {φ : FR} (hw : WF φ) (h : MFr σ φ) (i : Im σ K 7 6 42 s) : MI (sI (sI (sI s 1104 (83 * K + 81) (gI σ 1067 0)) 1104 (83 * K + 82) (gI σ 1067 4)) 1105 K (nt 1)) K φ := by
  have h1 := hw.1
  have h2 := hw.2.1
  obtain ⟨q1, q2, q3, q4, q5, q6⟩ := i
  refine ⟨?_, ?_, fun f n hf hn => ?_, fun f n hf hn => ?_, fun c v n hc hv hn => ?_⟩
  · rw [gI_sI_c (by omega), gI_sI_k (by omega), gI_sI_at]; exact h.1
  · rw [gI_sI_c (by omega), gI_sI_at]; exact h.2.1
  · rw [gI_sI_c (by omega), gI_sI_k (by omega), gI_sI_k (by omega), q4 f n hf (by omega)]
    exact h.2.2.1 f n (by omega) (by unfold lf; rw [if_pos hf]; exact hn)
  · rw [gI_sI_c (by omega), gI_sI_k (by omega), gI_sI_k (by omega), q5 f n hf (by omega)]
    have := h.2.2.1 (3 + f) n (by omega) (by unfold lf; rw [if_neg (by omega), if_pos (by omega)]; exact hn)
    rwa [show 1068 + (3 + f) = 1071 + f by omega] at this
  · rw [gI_sI_c (by omega), gI_sI_k (by omega), gI_sI_k (by omega), q6 _ (by omega)]
    exact h.2.2.2 c v n hc hv hn
theorem Rs_MFr {σ s : ZS} {K : Nat} {φ : FR} (hw : WF φ) (h : MI σ K φ) (i : Rs σ K 7 6 42 s) : MFr (wI (sI (sI (sI s 1067 0 (gI σ 1104 (83 * K + 81))) 1067 4 (gI σ 1104 (83 * K + 82))) 1067 9 (nt 1)) 1096 3 (fun _ => nt 0)) φ := by
  have h1 := hw.1
  have h2 := hw.2.1
  obtain ⟨q1, q2, q4, q5, q6⟩ := i
  refine ⟨?_, ?_, fun f n hf hn => ?_, fun c v n hc hv hn => ?_⟩
  · rw [gI_wI_c (by omega), gI_sI_k (by omega), gI_sI_k (by omega), gI_sI_at]; exact h.1
  · rw [gI_wI_c (by omega), gI_sI_k (by omega), gI_sI_at]; exact h.2.1
  · rw [gI_wI_c (by omega), gI_sI_c (by omega), gI_sI_c (by omega), gI_sI_c (by omega)]
    by_cases ef : f < 3
    · have hn : n < nn φ := by unfold lf at hn; rwa [if_pos ef] at hn
      rw [q4 f n ef (by omega)]; exact h.2.2.1 f n ef hn
    · obtain ⟨f', rfl⟩ : ∃ f', f = 3 + f' := ⟨f - 3, by omega⟩
      have hn : n < nb φ := by unfold lf at hn; rwa [if_neg ef, if_pos hf] at hn
      rw [show 1068 + (3 + f') = 1071 + f' by omega, q5 f' n (by omega) (by omega)]; exact h.2.2.2.1 f' n (by omega) hn
  · rw [gI_wI_c (by omega), gI_sI_c (by omega), gI_sI_c (by omega), gI_sI_c (by omega), q6 _ (by omega)]
    exact h.2.2.2.2 c v n hc hv hn
