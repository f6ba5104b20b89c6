-- ===== the reference keeps a way =====
/-- what keeping leaves -/
def frK (σ τ : ZS) : Prop := (∀ c, c ≠ 1067 → c ≠ 1080 → c ≠ 1082 → τ.1 c = σ.1 c) ∧ (∀ k, k ≠ 17 → gI τ 1067 k = gI σ 1067 k) ∧ ∀ c, c ≠ 1081 → c ≠ 1084 → τ.2 c = σ.2 c
section
variable {N : Nat} {σ : ZS} {φ : FR}
theorem m_keepWay (w : WF φ) (hNL : NLF φ) (hN : 1200 ≤ N) (h : MFr σ φ) (h10 : gI σ 1067 10 = nt (dd φ : Nat)) (hR : ∀ e j, e < 2 * nb φ → j < 21 → gJ σ 1077 (21 * e + j) = jl (Rz φ e j)) (hd12 : dd φ ≤ 12) {l : Nat} {E P : Nat → Nat} {V : Nat → Nat → Int} (hS : STR φ σ l E P V) (hl : l + 1 = dd φ) {seen : Nat → Bool} {M : Nat → Nat → Int} (hK : KM φ σ seen M) (hc : cn 4096 (fun s => cd (IsM φ s)) ≤ 924) : ∃ τ seen' M', f_X6_keepWay N (nt (l : Nat)) σ = some ((), τ) ∧ KM φ τ seen' M' ∧ (∀ k, seen k = true → seen' k = true) ∧ (∀ q : Nat → Rat, (∃ j, j < dd φ ∧ q j ≠ 0) → (∀ k, k < l → dq (dd φ) (Rq φ (E k)) q = 0) → seen' (mq φ q) = true) ∧ frK σ τ := by
  have hw2 := w.2.1
  obtain ⟨f, u, hf, hfu, hu1, hu2, e1⟩ := m_layWay (N := N) w (by omega) h10 hS hl hd12
  obtain ⟨hM, hkE, hker⟩ := way_mech w hNL hS.1 hl hf hfu hu1 hu2
  obtain ⟨s0, hs0⟩ : ∃ s0, s0 = mq φ (fun j => (u j : Rat)) := ⟨_, rfl⟩
  rw [← hs0] at hM
  have hs0b : s0 < 4096 := by
    have h1 := mq_lt φ (fun j => (u j : Rat))
    rw [← hs0] at h1
    exact Nat.lt_of_lt_of_le h1 (Nat.pow_le_pow_right (by decide) (show 2 * nb φ ≤ 12 by omega))
  obtain ⟨σ2, hσ2⟩ : ∃ σ2, σ2 = oJ σ 1084 0 (dd φ) (fun j => jl (u j)) := ⟨_, rfl⟩
  rw [← hσ2] at e1
  have g2 : σ2.1 = σ.1 := by rw [hσ2]; rfl
  have g2J : ∀ c, c ≠ 1084 → σ2.2 c = σ.2 c := fun c hc => by rw [hσ2]; exact oJ_o hc
  have hm2 : MFr σ2 φ := MFr_same h (by unfold gI; rw [g2]) (by unfold gI; rw [g2]) (fun c _ _ => by rw [g2])
  have h102 : gI σ2 1067 10 = nt (dd φ : Nat) := by unfold gI; rw [g2]; exact h10
  have hR2 : ∀ e j, e < 2 * nb φ → j < 21 → gJ σ2 1077 (21 * e + j) = jl (Rz φ e j) := fun e j a b => by
    unfold gJ; rw [g2J 1077 (by decide)]; exact hR e j a b
  have hu84 : ∀ j, j < dd φ → gJ σ2 1084 (0 + j) = jl (u j) := fun j hj => by
    rw [hσ2, Nat.zero_add]; exact gJ_oJ0 hj
  have hK2 : KM φ σ2 seen M := by
    obtain ⟨a1, a2, a3⟩ := hK
    refine ⟨by unfold gI; rw [g2]; exact a1, fun k hk => by unfold gI; rw [g2]; exact a2 k hk, fun k hk hks => ?_⟩
    obtain ⟨b1, b2, b3⟩ := a3 k hk hks
    exact ⟨b1, by unfold gI; rw [g2]; exact b2, fun j hj => by unfold gJ; rw [g2J 1081 (by decide)]; exact b3 j hj⟩
  -- which ends twist
  obtain ⟨Y, hY⟩ : ∃ Y, Y = sup (2 * nb φ) (dd φ) (Rq φ) (fun j => (u j : Rat)) := ⟨_, rfl⟩
  have hYe : ∀ e, Y e = true ↔ tw φ e u ≠ 0 := fun e => by
    rw [hY, sup_t, ne_eq, tw_q0]
  have hbits : s0 = mkd Y 0 (2 * nb φ) := by rw [hs0, hY]; rfl
  have k1 := lp_go (fun n e (x : Int32) => f_X6_keepWay_h9 N n x (nt (e : Nat)) σ2) (fun e => nt (mkd Y 0 e : Nat)) (2 * nb φ) (fun n e he => by
    have ht := m_twistBy (N := N) w (by omega) hm2 h102 hR2 (a := 1084) (b := 0) (by decide) (by show 0 + dd φ ≤ 21; omega) (by decide) hu84 he
    have ht : f_X6_twistBy N 1084 (0 : Int32) (nt (e : Nat)) σ2 = some (jl (tw φ e u * (12 / lenB φ (e / 2))), σ2) := ht
    have h12 := (len_12 w (b := e / 2) (by omega)).2
    have htb := hM.2.2.2.2 e he
    obtain ⟨o1, o2⟩ := mkd_or Y e
    have b42 : ∀ x : Nat, f_X6_keepWay_b42 N (fun x2_ x3_ σ_ => f_X6_keepWay_h9 N n x2_ x3_ σ_) (nt (e : Nat)) (nt (mkd Y 0 e : Nat)) (nt (x : Nat)) σ2 = f_X6_keepWay_h9 N n (nt ((mkd Y 0 e ||| x : Nat) : Int)) (nt ((e + 1 : Nat) : Int)) σ2 := fun x => by
      rw [f_X6_keepWay_b42, nt_or, bd_eq, n_1, nt_add, bd_eq]; rfl
    show f_X6_keepWay_h9 N (n + 1) (nt (mkd Y 0 e : Nat)) (nt (e : Nat)) σ2 = f_X6_keepWay_h9 N n (nt (mkd Y 0 (e + 1) : Nat)) (nt ((e + 1 : Nat) : Int)) σ2
    rw [f_X6_keepWay_h9, MFr_b hm2, n_2, nt_mul, le_f (by omega) (by omega) (by omega), ht, obd_some, j_0]
    by_cases q : tw φ e u = 0
    · have hYf : Y e = false := by
        cases hc : Y e with
        | false => rfl
        | true => exact absurd q ((hYe e).mp hc)
      rw [jeq_t (by rw [q, Int.zero_mul])]
      have := b42 0
      rw [Nat.or_zero] at this
      rw [← o2 hYf]
      exact this
    · have hYt : Y e = true := (hYe e).mpr q
      have hp : tw φ e u * (12 / lenB φ (e / 2)) ≠ 0 := Int.mul_ne_zero q (by omega)
      have hpb : (tw φ e u * (12 / lenB φ (e / 2))).natAbs ≤ 524288 * 12 := mul_bd htb (by omega)
      rw [jeq_f hp (by omega) (by omega) (by omega) (by omega), n_1, nt_pow (by omega), b42, o1 hYt]) (2 * nb φ) 0 N (by omega) (by omega)
  have k1 : f_X6_keepWay_h9 N N (0 : Int32) (0 : Int32) σ2 = f_X6_keepWay_h9 N (N - 2 * nb φ) (nt (mkd Y 0 (2 * nb φ) : Nat)) (nt (2 * nb φ : Nat)) σ2 := k1
  obtain ⟨n1, en1⟩ : ∃ m, N - 2 * nb φ = m + 1 := ⟨N - 2 * nb φ - 1, by omega⟩
  have h82 := hK2.2.1 s0 hs0b
  rw [← hbits, en1, f_X6_keepWay_h9, MFr_b hm2, n_2, nt_mul, le_t (by omega) (by omega) (by omega), ck_inb (by omega) (by omega) (by omega), nat_k (by omega)] at k1
  -- other motions of the stair are multiples
  have hmul : ∀ q : Nat → Rat, (∃ j, j < dd φ ∧ q j ≠ 0) → (∀ k, k < l → dq (dd φ) (Rq φ (E k)) q = 0) → mq φ q = s0 := fun q ⟨j, hj, hqj⟩ hq => by
    obtain ⟨r, hr⟩ := hker q hq
    have hr0 : r ≠ 0 := fun q2 => hqj (by rw [hr j hj, q2, Rat.zero_mul])
    rw [hs0]
    exact mq_mul hr0 hr
  unfold f_X6_keepWay
  rw [e1, obd_some]
  cases hsn : seen s0 with
  | true =>
    have h82' : gI σ2 1082 s0 = nt 1 := by rw [h82, hsn]; rfl
    rw [h82', if_neg (by decide)] at k1
    exact ⟨σ2, seen, M, k1, hK2, fun k hk => hk, fun q h1 h2 => by rw [hmul q h1 h2]; exact hsn, fun c _ _ _ => by rw [g2], fun k _ => by unfold gI; rw [g2], fun c _ hc2 => g2J c hc2⟩
  | false =>
    have hlt : cn 4096 seen < 924 := by
      refine Nat.lt_of_lt_of_le (cn_lt (fun i hi hi2 => cd_iff.mpr ?_) ⟨s0, hs0b, hsn, cd_iff.mpr ?_⟩) hc
      · obtain ⟨b1, _⟩ := hK2.2.2 i hi hi2
        exact ⟨_, b1.1, b1.2.1⟩
      · exact ⟨_, hM.1, hM.2.1⟩
    have h82' : gI σ2 1082 s0 = nt 0 := by rw [h82, hsn]; rfl
    rw [h82', if_pos (show nt 0 = 0 from rfl), hK2.1, show (924 : Int32) = nt 924 from rfl, eq_f (by omega) (by omega) (by omega) (by omega) (by omega), ck_inb (by omega) (by omega) (by omega), bd_eq, bd_eq, gI_sI_c (by decide), hK2.1, n_1, nt_add, bd_eq, bd_eq] at k1
    obtain ⟨t0, ht0⟩ : ∃ t0, t0 = sI (sI σ2 1082 s0 (nt 1)) 1067 17 (nt ((cn 4096 seen : Nat) + 1)) := ⟨_, rfl⟩
    rw [← ht0] at k1
    have t1 : ∀ c, c ≠ 1067 → c ≠ 1082 → t0.1 c = σ2.1 c := fun c a b => by rw [ht0, sI_o a, sI_o b]
    have t2 : t0.2 = σ2.2 := by rw [ht0]; rfl
    obtain ⟨t', ⟨i1, i2, i3⟩, f1⟩ := m_gap (N := N) (t0 := t0) (M := M) (s0 := s0) hN hd12 hs0b hsn hlt (cn 4096 seen - cn s0 seen) (cn 4096 seen) N t0 (by have := cn_mono seen (show s0 ≤ 4096 by omega); omega) (Nat.le_refl _) (by omega) (φ := φ) ⟨fun _ _ => rfl, fun _ _ => rfl, fun k hk hks => ⟨fun _ => by
      obtain ⟨b1, b2, b3⟩ := hK2.2.2 k hk hks
      exact ⟨by unfold gI; rw [t1 1080 (by decide) (by decide)]; exact b2, fun j hj => by unfold gJ; rw [t2]; exact b3 j hj⟩, fun hge => by
      have := cn_up (s := seen) hk hks
      omega⟩⟩
    have hpos : cn s0 seen < 924 := by have := cn_mono seen (show s0 ≤ 4096 by omega); omega
    have h10' : ∀ c k v, c ≠ 1067 → gI (sI t' c k v) 1067 10 = nt (dd φ : Nat) := fun c k v hc => by
      rw [gI_sI_c (fun q => hc q.symm)]
      unfold gI
      rw [i1 1067 (by decide), ht0]
      show gI (sI (sI σ2 1082 s0 (nt 1)) 1067 17 (nt ((cn 4096 seen : Nat) + 1))) 1067 10 = _
      rw [gI_sI_k (by decide), gI_sI_c (by decide)]
      exact h102
    have q1 := lp_go (fun m j (s : ZS) => f_X6_keepWay_h178 N (nt (cn s0 seen : Nat)) m (nt (j : Nat)) s) (fun j => oJ (sI t' 1080 (cn s0 seen) (nt (s0 : Nat))) 1081 (12 * cn s0 seen) j (fun j => jl (u j))) (dd φ) (fun m j hj => by
      have h10'' : gI (oJ (sI t' 1080 (cn s0 seen) (nt (s0 : Nat))) 1081 (12 * cn s0 seen) j (fun j => jl (u j))) 1067 10 = nt (dd φ : Nat) := h10' 1080 (cn s0 seen) (nt (s0 : Nat)) (by decide)
      have hr : gJ (oJ (sI t' 1080 (cn s0 seen) (nt (s0 : Nat))) 1081 (12 * cn s0 seen) j (fun j => jl (u j))) 1084 j = jl (u j) := by
        rw [gJ_oJ, if_neg (by omega)]
        show gJ t' 1084 j = _
        unfold gJ
        rw [i2 1084 (by decide), t2]
        have := hu84 j hj
        rw [Nat.zero_add] at this
        exact this
      rw [f_X6_keepWay_h178, h10'', le_f (by omega) (by omega) (by omega), ck_inb (by omega) (by omega) (by omega), nat_k (by omega), hr, bd_eq, n_12, nt_mul, nt_add, ck_inb (by omega) (by omega) (by omega), nat_nt (by omega) (by omega), show ((12 : Int) * (cn s0 seen : Nat) + (j : Nat)).toNat = 12 * cn s0 seen + j by omega, bd_eq, n_1, nt_add, bd_eq, oJ_s (sI t' 1080 (cn s0 seen) (nt (s0 : Nat))) 1081 (12 * cn s0 seen) j (fun j => jl (u j))]
      rfl) (dd φ) 0 N (by omega) (by omega)
    have q1 : f_X6_keepWay_h178 N (nt (cn s0 seen : Nat)) N (0 : Int32) (oJ (sI t' 1080 (cn s0 seen) (nt (s0 : Nat))) 1081 (12 * cn s0 seen) 0 (fun j => jl (u j))) = f_X6_keepWay_h178 N (nt (cn s0 seen : Nat)) (N - dd φ) (nt (dd φ : Nat)) (oJ (sI t' 1080 (cn s0 seen) (nt (s0 : Nat))) 1081 (12 * cn s0 seen) (dd φ) (fun j => jl (u j))) := q1
    rw [oJ_0] at q1
    obtain ⟨n2, en2⟩ : ∃ m, N - dd φ = m + 1 := ⟨N - dd φ - 1, by omega⟩
    have h10'' : gI (oJ (sI t' 1080 (cn s0 seen) (nt (s0 : Nat))) 1081 (12 * cn s0 seen) (dd φ) (fun j => jl (u j))) 1067 10 = nt (dd φ : Nat) := h10' 1080 (cn s0 seen) (nt (s0 : Nat)) (by decide)
    rw [en2, f_X6_keepWay_h178, h10'', le_t (by omega) (by omega) (by omega)] at q1
    obtain ⟨τ, hτ⟩ : ∃ τ, τ = oJ (sI t' 1080 (cn s0 seen) (nt (s0 : Nat))) 1081 (12 * cn s0 seen) (dd φ) (fun j => jl (u j)) := ⟨_, rfl⟩
    rw [← hτ] at q1
    have f1 : f_X6_keepWay_h89 N (nt (s0 : Nat)) N (nt (cn 4096 seen : Nat)) t0 = some ((), τ) := by
      rw [f1, f_X6_keepWay_b168, ck_inb (by omega) (by omega) (by omega), nat_k (by omega), bd_eq]
      exact q1
    have gI' : ∀ c k, c ≠ 1080 → gI τ c k = gI t0 c k := fun c k hc => by
      rw [hτ, gI_oJ, gI_sI_c hc]
      unfold gI
      rw [i1 c hc]
    refine ⟨τ, fun k => seen k || k == s0, fun k => if k = s0 then u else M k, k1.trans f1, ⟨?_, fun k hk => ?_, fun k hk hks => ?_⟩, fun k hk => by
      show (seen k || k == s0) = true
      rw [hk]; rfl, fun q h1 h2 => by
      rw [hmul q h1 h2]
      show (seen s0 || s0 == s0) = true
      rw [beq_self_eq_true, Bool.or_true], fun c c1 c2 c3 => ?_, fun k hk => ?_, fun c c1 c2 => ?_⟩
    · rw [gI' _ _ (by decide), ht0, gI_sI_at, cn_ins hsn, if_pos hs0b]; rfl
    · rw [gI' _ _ (by decide), ht0, gI_sI_c (by decide)]
      try dsimp only
      by_cases q : k = s0
      · rw [q, gI_sI_at, if_pos (show (seen s0 || s0 == s0) = true by rw [beq_self_eq_true, Bool.or_true])]
      · have e : (seen k || k == s0) = seen k := by
          have : (k == s0) = false := by rw [beq_eq_false_iff_ne]; exact q
          rw [this, Bool.or_false]
        rw [gI_sI_k q, hK2.2.1 k hk]
        by_cases z : seen k = true
        · rw [if_pos z, if_pos (show (seen k || k == s0) = true by rw [e]; exact z)]
        · rw [if_neg z, if_neg (show ¬ (seen k || k == s0) = true by rw [e]; exact z)]
    · try dsimp only at hks
      rw [cn_ins hsn]
      try dsimp only
      by_cases q : k = s0
      · rw [if_pos q, if_neg (by omega), Nat.add_zero, q]
        refine ⟨hM, ?_, fun j hj => ?_⟩
        · rw [hτ, gI_oJ, gI_sI_at]
        · rw [hτ, gJ_oJ, if_pos ⟨rfl, by omega, by omega⟩, show 12 * cn s0 seen + j - 12 * cn s0 seen = j by omega]
      · have hks' : seen k = true := by
          have : (k == s0) = false := by rw [beq_eq_false_iff_ne]; exact q
          rw [this, Bool.or_false] at hks
          exact hks
        obtain ⟨b1, b2, b3⟩ := hK2.2.2 k hk hks'
        rw [if_neg q]
        by_cases q2 : s0 < k
        · have hge := cn_mono seen (show s0 ≤ k by omega)
          obtain ⟨a1, a2⟩ := (i3 k hk hks').2 hge
          rw [if_pos q2]
          refine ⟨b1, ?_, fun j hj => ?_⟩
          · rw [hτ, gI_oJ, gI_sI_k (by omega)]; exact a1
          · rw [hτ, gJ_oJ, if_neg (by omega)]; exact a2 j hj
        · have hlt2 := cn_up (s := seen) (show k < s0 by omega) hks'
          obtain ⟨a1, a2⟩ := (i3 k hk hks').1 hlt2
          rw [if_neg q2, Nat.add_zero]
          refine ⟨b1, ?_, fun j hj => ?_⟩
          · rw [hτ, gI_oJ, gI_sI_k (by omega)]; exact a1
          · rw [hτ, gJ_oJ, if_neg (by omega)]; exact a2 j hj
    · rw [hτ]
      show (sI t' 1080 (cn s0 seen) (nt (s0 : Nat))).1 c = σ.1 c
      rw [sI_o c2, i1 c c2, t1 c c1 c3, g2]
    · rw [gI' _ _ (by decide), ht0, gI_sI_k hk, gI_sI_c (by decide)]
      unfold gI
      rw [g2]
    · rw [hτ, oJ_o c1]
      show t'.2 c = σ.2 c
      rw [i2 c c1, t2, g2J c c2]
end
