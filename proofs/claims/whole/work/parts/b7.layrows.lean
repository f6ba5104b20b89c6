-- ===== the reference lays the rows =====
section
variable {N : Nat} {σ : ZS} {φ : FR}
theorem m_layRows (w : WF φ) (hN : 600 ≤ N) (h : MFr σ φ) (hn : ∀ v n, v < 3 → n < nn φ → gI σ 1076 (7 * v + n) = nt (num φ v n)) : ∃ τ, f_X6_layRows N σ = some ((), τ) ∧ (∀ e j, e < 2 * nb φ → j < 21 → gJ τ 1077 (21 * e + j) = jl (Rz φ e j)) ∧ τ.1 = σ.1 ∧ ∀ c, c ≠ 1077 → τ.2 c = σ.2 c := by
  have hw1 := w.1
  have hw2 := w.2.1
  have n252 : (252 : Int32) = nt 252 := rfl
  -- all 0 first
  have k0 := lp_go (fun m k (s : ZS) => f_X6_layRows_h2 N m (nt (k : Nat)) s) (fun k => wJ σ 1077 k (fun _ => jl 0)) 252 (fun m k hk => by
    rw [f_X6_layRows_h2, n252, le_f (by omega) (by omega) (by omega), ck_inb (by omega) (by omega) (by omega), nat_k (by omega), bd_eq, n_1, nt_add, bd_eq]
    have : sJ (wJ σ 1077 k (fun _ => jl 0)) 1077 k (0 : Int64) = wJ σ 1077 (k + 1) (fun _ => jl 0) := wJ_s σ 1077 k (fun _ => jl 0)
    rw [this]; rfl) 252 0 N (by omega) (by omega)
  obtain ⟨m0, em0⟩ : ∃ m, N - 252 = m + 1 := ⟨N - 252 - 1, by omega⟩
  have k0 : f_X6_layRows_h2 N N (0 : Int32) (wJ σ 1077 0 (fun _ => jl 0)) = f_X6_layRows_h2 N (N - 252) (nt 252) (wJ σ 1077 252 (fun _ => jl 0)) := k0
  rw [wJ_0] at k0
  -- end after end
  obtain ⟨s, es, h1, h2, h3, _⟩ := lp_inv (fun m e s => f_X6_layRows_h24 N m (nt (e : Nat)) s) (fun e s => s.1 = σ.1 ∧ (∀ c, c ≠ 1077 → s.2 c = σ.2 c) ∧ (∀ e' j, e' < e → j < 21 → gJ s 1077 (21 * e' + j) = jl (Rz φ e' j)) ∧ ∀ k, 21 * e ≤ k → k < 252 → gJ s 1077 k = jl 0) (2 * nb φ) (fun m e s he hs => by
    obtain ⟨s1, s2, s3, s4⟩ := hs
    have he : e < 2 * nb φ := he
    have hb : e / 2 < nb φ := by omega
    have hm : MFr s φ := MFr_same h (by unfold gI; rw [s1]) (by unfold gI; rw [s1]) (fun c _ _ => by rw [s1])
    have hns : ∀ v n, v < 3 → n < nn φ → gI s 1076 (7 * v + n) = nt (num φ v n) := fun v n a b => by unfold gI; rw [s1]; exact hn v n a b
    have ha := ba_lt w hb
    have hz := bz_lt w hb
    have hlen := len_rg w hb
    obtain ⟨q3, q4, q5, q6, _, _, q7⟩ := w.2.2.2.1 (e / 2) hb
    have e1 : φ.1 3 (e / 2) = (ba φ (e / 2) : Nat) := by unfold ba; omega
    have e2 : φ.1 4 (e / 2) = (bz φ (e / 2) : Nat) := by unfold bz; omega
    have key : ∀ nd : Nat, nd = (if e % 2 = 0 then ba φ (e / 2) else bz φ (e / 2)) → ∃ s', f_X6_layRows_b62 N (fun x1_ σ_ => f_X6_layRows_h24 N m x1_ σ_) (nt (e : Nat)) (nt ((e / 2 : Nat) : Int)) (nt (e : Nat)) (2 : Int32) (nt (nd : Nat)) s = f_X6_layRows_h24 N m (nt ((e + 1 : Nat) : Int)) s' ∧ RoS s e (Rz φ e) s' := fun nd hnd => by
      have hndl : nd < nn φ := by rw [hnd]; split <;> assumption
      obtain ⟨t1, f1, f2⟩ := m_addTo (N := N) w hns (e := e) (v := 2) (n := nd) (by omega) (by omega) hndl (x := lenB φ (e / 2)) ⟨by omega, by omega⟩ (r := fun _ => 0) (s := s) ⟨rfl, fun j hj => s4 _ (by omega) (by omega), fun _ _ => rfl, fun _ _ => rfl⟩
      have g1 : ∀ t : ZS, t.1 = s.1 → gI t 1071 (e / 2) = nt (ba φ (e / 2) : Nat) ∧ gI t 1072 (e / 2) = nt (bz φ (e / 2) : Nat) ∧ MFr t φ := fun t ht => ⟨by unfold gI; rw [ht, ← e1]; exact MFr_f hm hb, by unfold gI; rw [ht, ← e2]; exact MFr_g hm hb, MFr_same hm (by unfold gI; rw [ht]) (by unfold gI; rw [ht]) (fun c _ _ => by rw [ht])⟩
      have hl := m_lies (N := N) (g1 t1 f2.1).2.2 w hb
      have f1 : f_X6_addTo N (nt (e : Nat)) (2 : Int32) (nt (nd : Nat)) (nt (lenB φ (e / 2))) s = some ((), t1) := f1
      have b133 : ∀ t, f_X6_layRows_b133 N (fun x1_ σ_ => f_X6_layRows_h24 N m x1_ σ_) (nt (e : Nat)) t = f_X6_layRows_h24 N m (nt ((e + 1 : Nat) : Int)) t := fun t => by
        rw [f_X6_layRows_b133, n_1, nt_add, bd_eq]; rfl
      unfold f_X6_layRows_b62
      rw [m_length hm w hb, obd_some, f1, obd_some, hl, obd_some, br_p]
      by_cases ev : φ.1 1 (φ.1 3 (e / 2)).toNat = φ.1 1 (φ.1 4 (e / 2)).toNat
      · have hvt : ¬ vt φ (e / 2) = true := by unfold vt; rw [decide_eq_true_eq]; unfold bOK at q7; omega
        obtain ⟨t2, u1, u2⟩ := m_addTo (N := N) w hns (e := e) (v := 1) (n := bz φ (e / 2)) (by omega) (by omega) hz (x := -1) ⟨by omega, by omega⟩ f2
        obtain ⟨t3, v1, v2⟩ := m_addTo (N := N) w hns (e := e) (v := 1) (n := ba φ (e / 2)) (by omega) (by omega) ha (x := 1) ⟨by omega, by omega⟩ u2
        have u1 : f_X6_addTo N (nt (e : Nat)) (1 : Int32) (nt (bz φ (e / 2) : Nat)) (-1 : Int32) t1 = some ((), t2) := u1
        have v1 : f_X6_addTo N (nt (e : Nat)) (1 : Int32) (nt (ba φ (e / 2) : Nat)) (1 : Int32) t2 = some ((), t3) := v1
        rw [if_pos ev, ck_inb (by omega) (by omega) (by omega), nat_k (by omega), (g1 t1 f2.1).2.1, u1, obd_some, ck_inb (by omega) (by omega) (by omega), (g1 t2 u2.1).1, v1, obd_some, b133]
        refine ⟨t3, rfl, v2.1, fun j hj => ?_, v2.2.2⟩
        rw [v2.2.1 j hj]
        unfold Rz
        rw [if_neg hvt, ← hnd]
        exact congrArg jl (by dsimp only; omega)
      · have hvt : vt φ (e / 2) = true := by unfold vt; rw [decide_eq_true_eq]; unfold bOK at q7; omega
        obtain ⟨t2, u1, u2⟩ := m_addTo (N := N) w hns (e := e) (v := 0) (n := ba φ (e / 2)) (by omega) (by omega) ha (x := -1) ⟨by omega, by omega⟩ f2
        obtain ⟨t3, v1, v2⟩ := m_addTo (N := N) w hns (e := e) (v := 0) (n := bz φ (e / 2)) (by omega) (by omega) hz (x := 1) ⟨by omega, by omega⟩ u2
        have u1 : f_X6_addTo N (nt (e : Nat)) (0 : Int32) (nt (ba φ (e / 2) : Nat)) (-1 : Int32) t1 = some ((), t2) := u1
        have v1 : f_X6_addTo N (nt (e : Nat)) (0 : Int32) (nt (bz φ (e / 2) : Nat)) (1 : Int32) t2 = some ((), t3) := v1
        rw [if_neg ev, ck_inb (by omega) (by omega) (by omega), nat_k (by omega), (g1 t1 f2.1).1, u1, obd_some, ck_inb (by omega) (by omega) (by omega), (g1 t2 u2.1).2.1, v1, obd_some, b133]
        refine ⟨t3, rfl, v2.1, fun j hj => ?_, v2.2.2⟩
        rw [v2.2.1 j hj]
        unfold Rz
        rw [if_pos hvt, ← hnd]
        exact congrArg jl (by dsimp only; omega)
    have hfin : ∀ s', RoS s e (Rz φ e) s' → s'.1 = σ.1 ∧ (∀ c, c ≠ 1077 → s'.2 c = σ.2 c) ∧ (∀ e' j, e' < e + 1 → j < 21 → gJ s' 1077 (21 * e' + j) = jl (Rz φ e' j)) ∧ ∀ k, 21 * (e + 1) ≤ k → k < 252 → gJ s' 1077 k = jl 0 := fun s' ⟨r1, r2, r3, r4⟩ => by
      refine ⟨r1.trans s1, fun c hc => (r4 c hc).trans (s2 c hc), fun e' j he' hj => ?_, fun k hk hk2 => ?_⟩
      · by_cases q : e' = e
        · subst q; exact r2 j hj
        · rw [r3 _ (by omega)]; exact s3 e' j (by omega) hj
      · rw [r3 _ (by omega)]; exact s4 k (by omega) hk2
    have hdiv : ((e : Nat) : Int).tdiv 2 = ((e / 2 : Nat) : Int) := by
      rw [Int.tdiv_eq_ediv_of_nonneg (by omega)]; omega
    have hmod : ((e : Nat) : Int).tmod 2 = ((e % 2 : Nat) : Int) := by
      rw [Int.tmod_eq_emod_of_nonneg (by omega)]; omega
    have i1 : ∀ x : Option (Unit × ZS), ck (inb (nt ((e / 2 : Nat) : Int)) 6) x = x := fun x => ck_inb (by omega) (by omega) (by omega)
    have hst : ∀ nd : Nat, nd = (if e % 2 = 0 then ba φ (e / 2) else bz φ (e / 2)) → f_X6_layRows_h24 N (m + 1) (nt (e : Nat)) s = f_X6_layRows_b62 N (fun x1_ σ_ => f_X6_layRows_h24 N m x1_ σ_) (nt (e : Nat)) (nt ((e / 2 : Nat) : Int)) (nt (e : Nat)) (2 : Int32) (nt (nd : Nat)) s := fun nd hnd => by
      rw [f_X6_layRows_h24, MFr_b hm, n_2, nt_mul, le_f (by omega) (by omega) (by omega), nt_div ⟨by omega, by omega⟩ ⟨by omega, by omega⟩, hdiv, bd_eq, nt_rem ⟨by omega, by omega⟩ ⟨by omega, by omega⟩, hmod, i1, i1, nat_k (by omega), MFr_f hm hb, MFr_g hm hb, e1, e2, n_0, hnd]
      by_cases q : e % 2 = 0
      · rw [if_pos q, q, eq_t (show ((0 : Nat) : Int) = 0 by omega)]
      · rw [if_neg q, eq_f (by omega) (by omega) (by omega) (by omega) (by omega)]
    obtain ⟨s', f1, f2⟩ := key _ rfl
    exact ⟨s', (hst _ rfl).trans f1, hfin s' f2⟩) (2 * nb φ) 0 N (wJ σ 1077 252 (fun _ => jl 0)) (by omega) (by omega) ⟨rfl, fun c hc => by
      funext k
      show (if c = 1077 ∧ k < 252 then _ else σ.2 c k) = _
      rw [if_neg (fun q => hc q.1)], fun e' j he' _ => by omega, fun k _ hk => by rw [gJ_wJ, if_pos ⟨rfl, hk⟩]⟩
  obtain ⟨m1, em1⟩ : ∃ m, N - 2 * nb φ = m + 1 := ⟨N - 2 * nb φ - 1, by omega⟩
  have es : f_X6_layRows_h24 N N (0 : Int32) (wJ σ 1077 252 (fun _ => jl 0)) = f_X6_layRows_h24 N (N - 2 * nb φ) (nt (2 * nb φ : Nat)) s := es
  refine ⟨s, ?_, fun e j he hj => h3 e j he hj, h1, h2⟩
  unfold f_X6_layRows
  have hgb : gI s 1067 4 = nt (nb φ) := by unfold gI; rw [h1]; exact MFr_b h
  rw [k0, em0, f_X6_layRows_h2, n252, le_t (by omega) (by omega) (by omega), es, em1, f_X6_layRows_h24, hgb, n_2, nt_mul, le_t (by omega) (by omega) (by omega)]
end
