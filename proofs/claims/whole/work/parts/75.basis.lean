-- ===== the class's first basis =====
section
variable {φ : FR}
/-- one entry of the row of a number -/
noncomputable def rwX (φ : FR) (j : Nat) (k : Nat) : Int := 12 / lenB φ (k / 2) * Rz φ k j
theorem dl_hd (w : WF φ) {v n0 j x : Nat} (hn0 : n0 < nn φ) (hj : num φ v n0 = (j : Int)) (hx : x < nn φ) : dl (num φ v x) j = if hdF φ v x = hdF φ v n0 then 1 else 0 := by
  unfold dl
  by_cases e : hdF φ v x = hdF φ v n0
  · rw [if_pos e, if_pos (by rw [num_eq e, hj])]
  · rw [if_neg e, if_neg (fun q => e (num_inj w hx hn0 (by omega) (q.trans hj.symm)).2)]
theorem dl_ot (w : WF φ) {v v' n0 j x : Nat} (hn0 : n0 < nn φ) (hj : num φ v n0 = (j : Int)) (hx : x < nn φ) (hv : v' ≠ v) : dl (num φ v' x) j = 0 := by
  unfold dl
  rw [if_neg (fun q => hv (num_inj w hx hn0 (by omega) (q.trans hj.symm)).1)]
theorem Rz_sh (w : WF φ) {v n0 j e : Nat} (hv : v < 2) (hn0 : n0 < nn φ) (hj : num φ v n0 = (j : Int)) (he : e < 2 * nb φ) : Rz φ e j = if srt φ v (e / 2) = true then 0 else if v = 1 then (if hdF φ v (ba φ (e / 2)) = hdF φ v n0 then 1 else 0) - (if hdF φ v (bz φ (e / 2)) = hdF φ v n0 then 1 else 0) else (if hdF φ v (bz φ (e / 2)) = hdF φ v n0 then 1 else 0) - (if hdF φ v (ba φ (e / 2)) = hdF φ v n0 then 1 else 0) := by
  have hb : e / 2 < nb φ := by omega
  have ha := ba_lt w hb
  have hz := bz_lt w hb
  have hnode : (if e % 2 = 0 then ba φ (e / 2) else bz φ (e / 2)) < nn φ := by split <;> assumption
  unfold Rz
  rw [dl_ot w hn0 hj hnode (by omega)]
  rcases (show v = 0 ∨ v = 1 by omega) with rfl | rfl
  · cases h : vt φ (e / 2) with
    | true =>
      have hs : ¬ srt φ 0 (e / 2) = true := by unfold srt; rw [h]; decide
      rw [if_neg hs, if_neg (show ¬ (0 : Nat) = 1 by omega), if_pos rfl, dl_hd w hn0 hj hz, dl_hd w hn0 hj ha, Int.mul_zero, Int.zero_add]
    | false =>
      have hs : srt φ 0 (e / 2) = true := by unfold srt; rw [h]; decide
      rw [if_pos hs, if_neg Bool.false_ne_true, dl_ot w hn0 hj ha (by omega), dl_ot w hn0 hj hz (by omega)]; omega
  · cases h : vt φ (e / 2) with
    | true =>
      have hs : srt φ 1 (e / 2) = true := by unfold srt; rw [h]; decide
      rw [if_pos hs, if_pos rfl, dl_ot w hn0 hj ha (by omega), dl_ot w hn0 hj hz (by omega)]; omega
    | false =>
      have hs : ¬ srt φ 1 (e / 2) = true := by unfold srt; rw [h]; decide
      rw [if_neg hs, if_pos (show (1 : Nat) = 1 from rfl), if_neg Bool.false_ne_true, dl_hd w hn0 hj ha, dl_hd w hn0 hj hz, Int.mul_zero, Int.zero_add]
theorem Rz_tn (w : WF φ) {n0 j e : Nat} (hn0 : n0 < nn φ) (hj : num φ 2 n0 = (j : Int)) (he : e < 2 * nb φ) : Rz φ e j = lenB φ (e / 2) * (if nod φ e = n0 then 1 else 0) := by
  have hb : e / 2 < nb φ := by omega
  have hm := nod_lt w he
  have hd2 : ∀ x, hdF φ 2 x = x := fun x => by unfold hdF; rw [if_pos rfl]
  have h1 := dl_hd w hn0 hj hm
  rw [hd2, hd2] at h1
  unfold Rz
  rw [dl_ot w hn0 hj (ba_lt w hb) (by omega), dl_ot w hn0 hj (bz_lt w hb) (by omega), dl_ot w hn0 hj (ba_lt w hb) (by omega), dl_ot w hn0 hj (bz_lt w hb) (by omega)]
  have h2 : dl (num φ 2 (if e % 2 = 0 then ba φ (e / 2) else bz φ (e / 2))) j = if nod φ e = n0 then 1 else 0 := h1
  rw [h2]
  split <;> split <;> omega
theorem slope_eq {l d : Int} (hl : 1 ≤ l ∧ l ≤ 4) (hd : d = 0 ∨ d = 1 ∨ d = -1) : (12 * d).tdiv l = 12 / l * d := by
  rcases (show l = 1 ∨ l = 2 ∨ l = 3 ∨ l = 4 by omega) with rfl | rfl | rfl | rfl <;> rcases hd with rfl | rfl | rfl <;> decide
end
section
variable {N : Nat} {σ : ZS} {φ : FR}
theorem s_addShift (hN : 200 ≤ N) (h : CFr σ 0 φ) (w : WF φ) {v n0 j m : Nat} (hv : v < 2) (hn0 : n0 < nn φ) (hj : num φ v n0 = (j : Int)) {G : Nat → Nat} (hG : ∀ n, n < nn φ → gI σ 56 n = nt (G n : Nat) ∧ G n < nn φ) (hGe : ∀ n m, n < nn φ → m < nn φ → (G n = G m ↔ eqv φ v n m)) (h3 : gI σ 5 3 = nt (m : Nat)) (h5 : gI σ 5 5 = nt ((2 * nb φ : Nat) : Int)) (h6 : gI σ 5 6 = nt (m : Nat)) (hm : m < 14) : ∃ τ, f_X4_addShift N (nt (G n0 : Nat)) (nt (v : Nat)) σ = some ((), τ) ∧ τ.1 = (sI σ 5 3 (nt ((m : Nat) + 1))).1 ∧ (∀ c, c ≠ 65 + m → τ.2 c = σ.2 c) ∧ ∀ k, k < 26 → gJ τ (65 + m) k = jl (if k < 2 * nb φ then rwX φ j k else if k = 2 * nb φ + m then 12 else 0) := by
  have hw1 := w.1
  have hw2 := w.2.1
  unfold f_X4_addShift
  have hg0 := (hG n0 hn0).2
  rw [h3, show (78 : Int32) = nt 78 from rfl, lt_t (by omega) (by omega) (by omega), bd_eq, n_1, nt_add, bd_eq, bd_eq, ck_inb (by omega) (by omega) (by omega), bd_eq, nat_k (by omega), s_fillJ hN (tg_rows (by omega)) (ln_rows (by omega)) (by omega), obd_some, ck_tg (tg_rows (by omega)), ln_rows (by omega)]
  have g5 : gI (wJ (sI σ 5 3 (nt ((m : Nat) + 1))) (65 + m) 26 fun _ => 0) 5 5 = nt ((2 * nb φ : Nat) : Int) := by rw [gI_wJ, gI_sI_k (by omega)]; exact h5
  have g6 : gI (wJ (sI σ 5 3 (nt ((m : Nat) + 1))) (65 + m) 26 fun _ => 0) 5 6 = nt (m : Nat) := by rw [gI_wJ, gI_sI_k (by omega)]; exact h6
  rw [g5, g6, nt_add, ck_inb (by omega) (by omega) (by omega), nat_nt (by omega) (by omega), show (((2 * nb φ : Nat) : Int) + (m : Nat)).toNat = 2 * nb φ + m by omega, bd_eq]
  obtain ⟨s0, hs0⟩ : ∃ s0, s0 = sJ (wJ (sI σ 5 3 (nt ((m : Nat) + 1))) (65 + m) 26 fun _ => 0) (65 + m) (2 * nb φ + m) 12 := ⟨_, rfl⟩
  rw [← hs0]
  have hs01 : s0.1 = (sI σ 5 3 (nt ((m : Nat) + 1))).1 := by rw [hs0]; rfl
  have hcf : ∀ s : ZS, s.1 = (sI σ 5 3 (nt ((m : Nat) + 1))).1 → CFr s 0 φ := fun s hs => CFr_56 h (fun c hc hc5 => by rw [hs, sI_o hc5])
  have hgr : ∀ s : ZS, s.1 = (sI σ 5 3 (nt ((m : Nat) + 1))).1 → ∀ n, n < nn φ → gI s 56 n = nt (G n : Nat) := fun s hs n hn => by
    unfold gI; rw [hs, sI_o (by omega)]; exact (hG n hn).1
  obtain ⟨s, es, hI⟩ := lp_inv (fun n k s => f_X4_addShift_h52 N (nt (G n0 : Nat)) (nt (v : Nat)) (65 + m) n (nt (k : Nat)) s) (fun t s => s.1 = (sI σ 5 3 (nt ((m : Nat) + 1))).1 ∧ (∀ c, c ≠ 65 + m → s.2 c = σ.2 c) ∧ ∀ k, k < 26 → gJ s (65 + m) k = jl (if k < 2 * t then rwX φ j k else if k = 2 * nb φ + m then 12 else 0)) (nb φ) (fun n t s ht q => by
    obtain ⟨p1, p2, p3⟩ := q
    have ht : t < nb φ := ht
    have hc := hcf s p1
    have ha := ba_lt w ht
    have hz := bz_lt w ht
    have hg := w.2.2.2.1 t ht
    have hl := len_rg w ht
    have hb178 : ∀ s : ZS, f_X4_addShift_b178 N (fun x5_ σ_ => f_X4_addShift_h52 N (nt (G n0 : Nat)) (nt (v : Nat)) (65 + m) n x5_ σ_) (nt (G n0 : Nat)) (nt (v : Nat)) (65 + m) (nt (t : Nat)) s = f_X4_addShift_h52 N (nt (G n0 : Nat)) (nt (v : Nat)) (65 + m) n (nt ((t + 1 : Nat) : Int)) s := fun s => by
      rw [f_X4_addShift_b178, n_1, nt_add, bd_eq]; rfl
    have er1 : rwX φ j (2 * t) = 12 / lenB φ t * Rz φ (2 * t) j := by unfold rwX; rw [show 2 * t / 2 = t by omega]
    have er2 : rwX φ j (2 * t + 1) = 12 / lenB φ t * Rz φ (2 * t) j := by
      unfold rwX
      rw [show (2 * t + 1) / 2 = t by omega, Rz_sh w hv hn0 hj (show 2 * t + 1 < 2 * nb φ by omega), Rz_sh w hv hn0 hj (show 2 * t < 2 * nb φ by omega), show (2 * t + 1) / 2 = t by omega, show 2 * t / 2 = t by omega]
    have hRz := Rz_sh w hv hn0 hj (show 2 * t < 2 * nb φ by omega)
    rw [show 2 * t / 2 = t by omega] at hRz
    rw [f_X4_addShift_h52, CFr_b hc, le_f (by omega) (by omega) (by omega), s_length hc w ht, obd_some, s_isVertical hc w ht, obd_some, s_srt hc w ht hv, hb178]
    have hll : φ.1 0 (φ.1 4 t).toNat - φ.1 0 (φ.1 3 t).toNat + φ.1 1 (φ.1 4 t).toNat - φ.1 1 (φ.1 3 t).toNat = lenB φ t := rfl
    rw [hll]
    by_cases e : srt φ v t = true
    · rw [if_pos e]
      rw [if_pos e] at hRz
      refine ⟨s, rfl, p1, p2, fun k hk => ?_⟩
      rw [p3 k hk]
      by_cases q1 : k < 2 * t
      · rw [if_pos q1, if_pos (by omega)]
      · rw [if_neg q1]
        by_cases q2 : k < 2 * (t + 1)
        · rw [if_pos q2, if_neg (by omega)]
          rcases (show k = 2 * t ∨ k = 2 * t + 1 by omega) with rfl | rfl
          · rw [er1, hRz, Int.mul_zero]
          · rw [er2, hRz, Int.mul_zero]
        · rw [if_neg q2]
    · rw [if_neg e, n_0, le_f (by omega) (by omega) (by omega), ck_inb (by omega) (by omega) (by omega), nat_k (by omega), CFr_f hc ht, ck_inb (by omega) (by omega) (by omega), nat_nt (by omega) (by omega)]
      rw [if_neg e] at hRz
      have hGa : gI s 56 (φ.1 3 t).toNat = nt (G (ba φ t) : Nat) := hgr s p1 _ ha
      have hGz : gI s 56 (φ.1 4 t).toNat = nt (G (bz φ t) : Nat) := hgr s p1 _ hz
      have ga2 := (hG _ ha).2
      have gz2 := (hG _ hz).2
      -- the two writes
      have h149 : ∀ d : Int, (d = 0 ∨ d = 1 ∨ d = -1) → f_X4_addShift_b149 N (fun x5_ σ_ => f_X4_addShift_h52 N (nt (G n0 : Nat)) (nt (v : Nat)) (65 + m) n x5_ σ_) (nt (G n0 : Nat)) (nt (v : Nat)) (65 + m) (nt (t : Nat)) (nt (lenB φ t)) (nt (12 * d)) s = f_X4_addShift_h52 N (nt (G n0 : Nat)) (nt (v : Nat)) (65 + m) n (nt ((t + 1 : Nat) : Int)) (sJ (sJ s (65 + m) (2 * t) (jl (12 / lenB φ t * -d))) (65 + m) (2 * t + 1) (jl (12 / lenB φ t * -d))) := fun d hd => by
        have hl12 := (len_12 w ht).2
        have hsm : -12 ≤ 12 / lenB φ t * d ∧ 12 / lenB φ t * d ≤ 12 := by rcases hd with rfl | rfl | rfl <;> omega
        rw [f_X4_addShift_b149, ck_n0 (by omega) (by omega) (by omega), nt_div ⟨by omega, by omega⟩ ⟨by omega, by omega⟩, slope_eq hl hd, bd_eq, nt_neg, long_nt (by omega) (by omega), bd_eq, ck_tg (tg_rows (by omega)), ln_rows (by omega), n_2, n_1, nt_mul, nt_add, ck_inb (by omega) (by omega) (by omega), nat_nt (by omega) (by omega), nat_nt (by omega) (by omega), show ((2 : Int) * (t : Nat)).toNat = 2 * t by omega, show ((2 : Int) * (t : Nat) + 1).toNat = 2 * t + 1 by omega, bd_eq, bd_eq, ck_tg (tg_rows (by omega)), ck_inb (by omega) (by omega) (by omega), bd_eq, hb178, Int.mul_neg]
      have hx : ∀ x : Nat, x < nn φ → (G x = G n0 ↔ hdF φ v x = hdF φ v n0) := fun x hx => (hGe x n0 hx hn0).trans (hdF_iff (by omega)).symm
      -- what is written
      have h106 : ∀ a : Int, (a = 0 ∨ a = 1) → f_X4_addShift_b106 N (fun x5_ σ_ => f_X4_addShift_h52 N (nt (G n0 : Nat)) (nt (v : Nat)) (65 + m) n x5_ σ_) (nt (G n0 : Nat)) (nt (v : Nat)) (65 + m) (nt (t : Nat)) (nt (lenB φ t)) (nt (12 * a)) s = f_X4_addShift_h52 N (nt (G n0 : Nat)) (nt (v : Nat)) (65 + m) n (nt ((t + 1 : Nat) : Int)) (sJ (sJ s (65 + m) (2 * t) (jl (12 / lenB φ t * (if v = 1 then a - (if hdF φ v (bz φ t) = hdF φ v n0 then 1 else 0) else (if hdF φ v (bz φ t) = hdF φ v n0 then 1 else 0) - a)))) (65 + m) (2 * t + 1) (jl (12 / lenB φ t * (if v = 1 then a - (if hdF φ v (bz φ t) = hdF φ v n0 then 1 else 0) else (if hdF φ v (bz φ t) = hdF φ v n0 then 1 else 0) - a)))) := fun a ha2 => by
        have h130 : ∀ z : Int, (z = 0 ∨ z = 1) → f_X4_addShift_b130 N (fun x5_ σ_ => f_X4_addShift_h52 N (nt (G n0 : Nat)) (nt (v : Nat)) (65 + m) n x5_ σ_) (nt (G n0 : Nat)) (nt (v : Nat)) (65 + m) (nt (t : Nat)) (nt (lenB φ t)) (nt (12 * a)) (nt (12 * z)) s = f_X4_addShift_h52 N (nt (G n0 : Nat)) (nt (v : Nat)) (65 + m) n (nt ((t + 1 : Nat) : Int)) (sJ (sJ s (65 + m) (2 * t) (jl (12 / lenB φ t * (if v = 1 then a - z else z - a)))) (65 + m) (2 * t + 1) (jl (12 / lenB φ t * (if v = 1 then a - z else z - a)))) := fun z hz2 => by
          rw [f_X4_addShift_b130, nt_sub, nt_sub, show (12 : Int) * a - 12 * z = 12 * (a - z) by omega, show (12 : Int) * z - 12 * a = 12 * (z - a) by omega, h149 _ (by omega), h149 _ (by omega), n_0]
          rcases (show v = 0 ∨ v = 1 by omega) with rfl | rfl
          · rw [eq_t (by rfl), if_neg (by omega), show -(a - z) = z - a by omega]
          · rw [eq_f (by omega) (by omega) (by omega) (by omega) (by omega), if_pos rfl, show -(z - a) = a - z by omega]
        rw [f_X4_addShift_b106, ck_inb (by omega) (by omega) (by omega), nat_k (by omega), CFr_g hc ht, ck_inb (by omega) (by omega) (by omega), nat_nt (by omega) (by omega), hGz]
        by_cases q : G (bz φ t) = G n0
        · have := h130 1 (by omega)
          rw [eq_t (by omega), n_12, if_pos ((hx _ hz).mp q)]
          exact this
        · have := h130 0 (by omega)
          rw [eq_f (by omega) (by omega) (by omega) (by omega) (by omega), n_0, if_neg (fun q2 => q ((hx _ hz).mpr q2))]
          exact this
      have hall : (if gI s 56 (φ.1 3 t).toNat = nt (G n0 : Nat) then f_X4_addShift_b106 N (fun x5_ σ_ => f_X4_addShift_h52 N (nt (G n0 : Nat)) (nt (v : Nat)) (65 + m) n x5_ σ_) (nt (G n0 : Nat)) (nt (v : Nat)) (65 + m) (nt (t : Nat)) (nt (lenB φ t)) (12 : Int32) s else f_X4_addShift_b106 N (fun x5_ σ_ => f_X4_addShift_h52 N (nt (G n0 : Nat)) (nt (v : Nat)) (65 + m) n x5_ σ_) (nt (G n0 : Nat)) (nt (v : Nat)) (65 + m) (nt (t : Nat)) (nt (lenB φ t)) (nt 0) s) = f_X4_addShift_h52 N (nt (G n0 : Nat)) (nt (v : Nat)) (65 + m) n (nt ((t + 1 : Nat) : Int)) (sJ (sJ s (65 + m) (2 * t) (jl (rwX φ j (2 * t)))) (65 + m) (2 * t + 1) (jl (rwX φ j (2 * t + 1)))) := by
        rw [er1, er2, hRz, hGa]
        by_cases q : G (ba φ t) = G n0
        · rw [eq_t (by omega), if_pos ((hx _ ha).mp q)]
          exact h106 1 (by omega)
        · rw [eq_f (by omega) (by omega) (by omega) (by omega) (by omega), if_neg (fun q2 => q ((hx _ ha).mpr q2))]
          exact h106 0 (by omega)
      rw [hall]
      refine ⟨_, rfl, p1, fun c hc => ?_, fun k hk => ?_⟩
      · show (if c = 65 + m then _ else (if c = 65 + m then _ else s.2 c)) = σ.2 c
        rw [if_neg hc, if_neg hc]; exact p2 c hc
      · rw [gJ_sJ, gJ_sJ]
        by_cases q1 : k = 2 * t + 1
        · subst q1; rw [if_pos ⟨rfl, rfl⟩, if_pos (by omega)]
        · rw [if_neg (fun q => q1 q.2)]
          by_cases q2 : k = 2 * t
          · subst q2; rw [if_pos ⟨rfl, rfl⟩, if_pos (by omega)]
          · rw [if_neg (fun q => q2 q.2), p3 k hk]
            by_cases q3 : k < 2 * t
            · rw [if_pos q3, if_pos (show k < 2 * (t + 1) by omega)]
            · rw [if_neg q3, if_neg (show ¬ k < 2 * (t + 1) by omega)]) (nb φ) 0 N s0 (by omega) (by omega) ⟨hs01, fun c hc => by
        rw [hs0]
        show (if c = 65 + m then _ else (wJ (sI σ 5 3 (nt ((m : Nat) + 1))) (65 + m) 26 fun _ => 0).2 c) = σ.2 c
        rw [if_neg hc, wJ_o hc]; rfl, fun k hk => by
        rw [hs0, gJ_sJ, if_neg (show ¬ k < 2 * 0 by omega)]
        by_cases q : k = 2 * nb φ + m
        · rw [if_pos ⟨rfl, q⟩, if_pos q]; rfl
        · rw [if_neg (show ¬ (65 + m = 65 + m ∧ k = 2 * nb φ + m) from fun q2 => q q2.2), if_neg q, gJ_wJ, if_pos ⟨rfl, hk⟩]; rfl⟩
  obtain ⟨p1, p2, p3⟩ := hI
  have es : f_X4_addShift_h52 N (nt (G n0 : Nat)) (nt (v : Nat)) (65 + m) N (0 : Int32) s0 = f_X4_addShift_h52 N (nt (G n0 : Nat)) (nt (v : Nat)) (65 + m) (N - nb φ) (nt (nb φ : Nat)) s := es
  obtain ⟨n, en⟩ : ∃ n, N - nb φ = n + 1 := ⟨N - nb φ - 1, by omega⟩
  refine ⟨s, ?_, p1, p2, fun k hk => p3 k hk⟩
  rw [es, en, f_X4_addShift_h52, CFr_b (hcf s p1), le_t (by omega) (by omega) (by omega)]
end
