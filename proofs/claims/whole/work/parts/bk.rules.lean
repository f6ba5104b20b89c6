-- ===== the reference lays the rules =====
/-- a column of the rules -/
noncomputable def rcl (φ : FR) (col : Nat) : Nat → Int := fun j => if col < 12 then (if col < 2 * nb φ then Rz φ col j else 0) else pz φ (col - 12) j
/-- a case's loads, the first so many -/
noncomputable def pk (φ : FR) (c j k : Nat) : Int := sZ k (fun k => φ.1 (6 + 2 * c + k % 2) (k / 2) * dl (num φ (k % 2) (k / 2)) j)
theorem pk_pz (φ : FR) (c j : Nat) : pk φ c j (2 * nn φ) = pz φ c j := by
  unfold pk pz
  generalize nn φ = n
  induction n with
  | zero => rfl
  | succ n ih =>
    rw [show 2 * (n + 1) = 2 * n + 1 + 1 by omega, sZ_s, sZ_s, ih, sZ_s, show 2 * n % 2 = 0 by omega, show 2 * n / 2 = n by omega, show (2 * n + 1) % 2 = 1 by omega, show (2 * n + 1) / 2 = n by omega, show 6 + 2 * c + 1 = 7 + 2 * c by omega, Nat.add_zero, Int.add_assoc]
section
variable {N : Nat} {σ : ZS} {φ : FR}
/-- rules with so many rows of ends -/
def RuA (φ : FR) (σ : ZS) (j e : Nat) (s : ZS) : Prop := s.1 = σ.1 ∧ (∀ c, c ≠ 1087 → s.2 c = σ.2 c) ∧ ∀ j' e', j' < dd φ → e' < 15 → gJ s 1087 (15 * j' + e') = jl (if (j' < j ∧ e' < 2 * nb φ) ∨ (j' = j ∧ e' < e) then Rz φ e' j' else 0)
/-- rules with so many loads -/
def RuB (φ : FR) (σ : ZS) (c k : Nat) (s : ZS) : Prop := s.1 = σ.1 ∧ (∀ c, c ≠ 1087 → s.2 c = σ.2 c) ∧ ∀ j' e', j' < dd φ → e' < 15 → gJ s 1087 (15 * j' + e') = jl (if e' < 12 then (if e' < 2 * nb φ then Rz φ e' j' else 0) else if e' - 12 < c then pz φ (e' - 12) j' else if e' - 12 = c then pk φ c j' k else 0)
theorem m_layRules (w : WF φ) (hN : 600 ≤ N) (h : MFr σ φ) (hk : RSp φ σ) (hd12 : dd φ ≤ 12) : ∃ τ, f_X6_layRules N σ = some ((), τ) ∧ (∀ j col, j < dd φ → col < 15 → gJ τ 1087 (15 * j + col) = jl (rcl φ col j)) ∧ τ.1 = σ.1 ∧ ∀ c, c ≠ 1087 → τ.2 c = σ.2 c := by
  have hw1 := w.1
  have hw2 := w.2.1
  have n7 : (7 : Int32) = nt 7 := rfl
  have n14 : (14 : Int32) = nt 14 := rfl
  have n15 : (15 : Int32) = nt 15 := rfl
  -- all 0 first
  have k0 := lp_go (fun m x (s : ZS) => f_X6_layRules_h2 N m (nt (x : Nat)) s) (fun x => oJ σ 1087 0 x (fun _ => jl 0)) 180 (fun m x hx => by
    rw [f_X6_layRules_h2, n_180, le_f (by omega) (by omega) (by omega), ck_inb (by omega) (by omega) (by omega), nat_k (by omega), bd_eq, n_1, nt_add, bd_eq, j_0, oJ_s0 σ 1087 x (fun _ => jl 0)]
    rfl) 180 0 N (by omega) (by omega)
  have k0 : f_X6_layRules_h2 N N (0 : Int32) (oJ σ 1087 0 0 (fun _ => jl 0)) = f_X6_layRules_h2 N (N - 180) (nt 180) (oJ σ 1087 0 180 (fun _ => jl 0)) := k0
  rw [oJ_0] at k0
  obtain ⟨m0, em0⟩ : ∃ m, N - 180 = m + 1 := ⟨N - 180 - 1, by omega⟩
  rw [em0, f_X6_layRules_h2, n_180, le_t (by omega) (by omega) (by omega), n_0] at k0
  have i0 : RuA φ σ 0 0 (oJ σ 1087 0 180 (fun _ => jl 0)) := ⟨rfl, fun c hc => oJ_o hc, fun j' e' hj he => by
    rw [gJ_oJ0 (by omega), if_neg (by omega)]⟩
  -- the rows of ends
  obtain ⟨s, es, hs⟩ := lp_inv (fun n j s => f_X6_layRules_h24 N n (nt (j : Nat)) s) (fun j s => RuA φ σ j 0 s) (dd φ) (fun n j s hj hs => by
    have hj : j < dd φ := hj
    obtain ⟨t, et, ht⟩ := lp_inv (fun m e t => f_X6_layRules_h34 N (fun x1_ σ_ => f_X6_layRules_h24 N n x1_ σ_) (nt (j : Nat)) m (nt (e : Nat)) t) (fun e t => RuA φ σ j e t) (2 * nb φ) (fun m e t he ht => by
      obtain ⟨a1, a2, a3⟩ := ht
      have he : e < 2 * nb φ := he
      have hb : gI t 1067 4 = nt (nb φ : Nat) := by unfold gI; rw [a1]; exact MFr_b h
      have hr : gJ t 1077 (21 * e + j) = jl (Rz φ e j) := by unfold gJ; rw [a2 1077 (by decide)]; exact hk.2.2.2.1 e j he (by omega)
      refine ⟨sJ t 1087 (15 * j + e) (jl (Rz φ e j)), ?_, a1, fun c hc => by rw [sJ_o hc]; exact a2 c hc, fun j' e' hj' he' => ?_⟩
      · show f_X6_layRules_h34 N (fun x1_ σ_ => f_X6_layRules_h24 N n x1_ σ_) (nt (j : Nat)) (m + 1) (nt (e : Nat)) t = _
        rw [f_X6_layRules_h34, hb, n_2, nt_mul, le_f (by omega) (by omega) (by omega), n_21, nt_mul, nt_add, ck_inb (by omega) (by omega) (by omega), nat_nt (by omega) (by omega), show ((21 : Int) * (e : Nat) + (j : Nat)).toNat = 21 * e + j by omega, hr, bd_eq, n15, nt_mul, nt_add, ck_inb (by omega) (by omega) (by omega), nat_nt (by omega) (by omega), show ((15 : Int) * (j : Nat) + (e : Nat)).toNat = 15 * j + e by omega, bd_eq, n_1, nt_add, bd_eq]
        rfl
      · by_cases q : j' = j ∧ e' = e
        · obtain ⟨rfl, rfl⟩ := q
          rw [gJ_sJ_at, if_pos (Or.inr ⟨rfl, by omega⟩)]
        · rw [gJ_sJ_k (by omega), a3 j' e' hj' he']
          by_cases q2 : (j' < j ∧ e' < 2 * nb φ) ∨ (j' = j ∧ e' < e)
          · rw [if_pos q2, if_pos (by omega)]
          · rw [if_neg q2, if_neg (by omega)]) (2 * nb φ) 0 N s (by omega) (by omega) hs
    obtain ⟨m1, em1⟩ : ∃ m, N - 2 * nb φ = m + 1 := ⟨N - 2 * nb φ - 1, by omega⟩
    have et : f_X6_layRules_h34 N (fun x1_ σ_ => f_X6_layRules_h24 N n x1_ σ_) (nt (j : Nat)) N (0 : Int32) s = f_X6_layRules_h34 N (fun x1_ σ_ => f_X6_layRules_h24 N n x1_ σ_) (nt (j : Nat)) (N - 2 * nb φ) (nt (2 * nb φ : Nat)) t := et
    have hbt : gI t 1067 4 = nt (nb φ : Nat) := by unfold gI; rw [ht.1]; exact MFr_b h
    rw [em1, f_X6_layRules_h34, hbt, n_2, nt_mul, le_t (by omega) (by omega) (by omega), n_1, nt_add, bd_eq] at et
    refine ⟨t, ?_, ht.1, ht.2.1, fun j' e' hj' he' => ?_⟩
    · have h10 : gI s 1067 10 = nt (dd φ : Nat) := by unfold gI; rw [hs.1]; exact hk.1
      show f_X6_layRules_h24 N (n + 1) (nt (j : Nat)) s = _
      rw [f_X6_layRules_h24, h10, le_f (by omega) (by omega) (by omega), et]
      rfl
    · rw [ht.2.2 j' e' hj' he']
      by_cases q2 : (j' < j ∧ e' < 2 * nb φ) ∨ (j' = j ∧ e' < 2 * nb φ)
      · rw [if_pos q2, if_pos (by omega)]
      · rw [if_neg q2, if_neg (by omega)]) (dd φ) 0 N (oJ σ 1087 0 180 (fun _ => jl 0)) (by omega) (by omega) i0
  obtain ⟨m2, em2⟩ : ∃ m, N - dd φ = m + 1 := ⟨N - dd φ - 1, by omega⟩
  have es : f_X6_layRules_h24 N N (nt 0) (oJ σ 1087 0 180 (fun _ => jl 0)) = f_X6_layRules_h24 N (N - dd φ) (nt (dd φ : Nat)) s := es
  have h10s : gI s 1067 10 = nt (dd φ : Nat) := by unfold gI; rw [hs.1]; exact hk.1
  rw [em2, f_X6_layRules_h24, h10s, le_t (by omega) (by omega) (by omega), n_0] at es
  have i1 : RuB φ σ 0 0 s := ⟨hs.1, hs.2.1, fun j' e' hj' he' => by
    rw [hs.2.2 j' e' hj' he']
    by_cases q : e' < 12
    · rw [if_pos q]
      by_cases q2 : e' < 2 * nb φ
      · rw [if_pos (Or.inl ⟨hj', q2⟩), if_pos q2]
      · rw [if_neg (by omega), if_neg q2]
    · rw [if_neg q, if_neg (by omega), if_neg (by omega)]
      by_cases q2 : e' - 12 = 0
      · rw [if_pos q2]; rfl
      · rw [if_neg q2]⟩
  -- the loads
  obtain ⟨t, et, ht⟩ := lp_inv (fun n c t => f_X6_layRules_h80 N n (nt (c : Nat)) t) (fun c t => RuB φ σ c 0 t) 3 (fun n c t hc ht => by
    have hc : c < 3 := hc
    obtain ⟨u, eu, hu⟩ := lp_inv (fun m k u => f_X6_layRules_h87 N (fun x1_ σ_ => f_X6_layRules_h80 N n x1_ σ_) (nt (c : Nat)) m (nt (k : Nat)) u) (fun k u => RuB φ σ c k u) (2 * nn φ) (fun m k u hk2 hu => by
      obtain ⟨a1, a2, a3⟩ := hu
      have hk2 : k < 2 * nn φ := hk2
      have hmu : MFr u φ := MFr_same h (by unfold gI; rw [a1]) (by unfold gI; rw [a1]) (fun c _ _ => by rw [a1])
      have hrem : ((k : Nat) : Int).tmod 2 = ((k % 2 : Nat) : Int) := by
        rw [Int.tmod_eq_emod_of_nonneg (by omega)]; omega
      have hdiv : ((k : Nat) : Int).tdiv 2 = ((k / 2 : Nat) : Int) := by
        rw [Int.tdiv_eq_ediv_of_nonneg (by omega)]; omega
      have hv : k % 2 < 2 := Nat.mod_lt _ (by decide)
      have hnn : k / 2 < nn φ := by omega
      have hnum : gI u 1076 (7 * (k % 2) + k / 2) = nt (num φ (k % 2) (k / 2)) := by unfold gI; rw [a1]; exact hk.2.2.1 _ _ (by omega) hnn
      have hl := MFr_l hmu (c := c) (v := k % 2) (n := k / 2) hc hv hnn
      have hlb := w.2.2.2.2 (6 + 2 * c + k % 2) (k / 2) (by omega) (by omega) (by omega)
      have b146 : ∀ x : ZS, f_X6_layRules_b146 N (fun x2_ σ_ => f_X6_layRules_h87 N (fun x1_ σ_ => f_X6_layRules_h80 N n x1_ σ_) (nt (c : Nat)) m x2_ σ_) (nt (c : Nat)) (nt (k : Nat)) x = f_X6_layRules_h87 N (fun x1_ σ_ => f_X6_layRules_h80 N n x1_ σ_) (nt (c : Nat)) m (nt ((k + 1 : Nat) : Int)) x := fun x => by
        rw [f_X6_layRules_b146, n_1, nt_add, bd_eq]; rfl
      show ∃ s', f_X6_layRules_h87 N (fun x1_ σ_ => f_X6_layRules_h80 N n x1_ σ_) (nt (c : Nat)) (m + 1) (nt (k : Nat)) u = f_X6_layRules_h87 N (fun x1_ σ_ => f_X6_layRules_h80 N n x1_ σ_) (nt (c : Nat)) m (nt ((k + 1 : Nat) : Int)) s' ∧ RuB φ σ c (k + 1) s'
      rw [f_X6_layRules_h87, MFr_n hmu, n_2, nt_mul, le_f (by omega) (by omega) (by omega), nt_rem ⟨by omega, by omega⟩ ⟨by omega, by omega⟩, nt_div ⟨by omega, by omega⟩ ⟨by omega, by omega⟩, hrem, hdiv, n7, nt_mul, nt_add, ck_inb (by omega) (by omega) (by omega), nat_nt (by omega) (by omega), show ((7 : Int) * (k % 2 : Nat) + (k / 2 : Nat)).toNat = 7 * (k % 2) + k / 2 by omega, hnum, bd_eq, n_0]
      have hpk : ∀ j', pk φ c j' (k + 1) = pk φ c j' k + φ.1 (6 + 2 * c + k % 2) (k / 2) * dl (num φ (k % 2) (k / 2)) j' := fun j' => rfl
      rcases num_rg w (v := k % 2) (n := k / 2) (by omega) hnn with ⟨h1, _⟩ | ⟨h1, h2, _⟩
      · rw [h1, lt_t (by omega) (by omega) (by omega), b146]
        refine ⟨u, rfl, a1, a2, fun j' e' hj' he' => ?_⟩
        rw [a3 j' e' hj' he', hpk, dl_neg (by omega), Int.mul_zero, Int.add_zero]
      · obtain ⟨a, ha⟩ : ∃ a : Nat, num φ (k % 2) (k / 2) = (a : Int) := ⟨(num φ (k % 2) (k / 2)).toNat, by omega⟩
        have hold := a3 a (12 + c) (by omega) (by omega)
        rw [if_neg (by omega), show 12 + c - 12 = c by omega, if_neg (by omega), if_pos rfl] at hold
        rw [lt_f (by omega) (by omega) (by omega), ha, n15, nt_mul, n_12, nt_add, nt_add, bd_eq, ck_inb (by omega) (by omega) (by omega), n14, nt_mul, nt_add, ck_inb (by omega) (by omega) (by omega), nat_nt (by omega) (by omega), nat_nt (by omega) (by omega), show ((15 : Int) * (a : Nat) + 12 + (c : Nat)).toNat = 15 * a + (12 + c) by omega, show ((14 : Int) * (c : Nat) + (k : Nat)).toNat = 14 * c + 2 * (k / 2) + k % 2 by omega, hold, hl, long_nt (by omega) (by omega), jl_add, bd_eq, ck_inb (by omega) (by omega) (by omega), bd_eq, b146]
        refine ⟨_, rfl, a1, fun c' hc' => by rw [sJ_o hc']; exact a2 c' hc', fun j' e' hj' he' => ?_⟩
        by_cases q : j' = a ∧ e' = 12 + c
        · obtain ⟨rfl, rfl⟩ := q
          have hd1 : dl (num φ (k % 2) (k / 2)) j' = 1 := by rw [ha]; exact if_pos rfl
          rw [gJ_sJ_at, if_neg (by omega), show 12 + c - 12 = c by omega, if_neg (by omega), if_pos rfl, hpk, hd1, Int.mul_one]
        · rw [gJ_sJ_k (by omega), a3 j' e' hj' he']
          by_cases q2 : e' < 12
          · rw [if_pos q2, if_pos q2]
          · rw [if_neg q2, if_neg q2]
            by_cases q3 : e' - 12 < c
            · rw [if_pos q3, if_pos q3]
            · rw [if_neg q3, if_neg q3]
              by_cases q4 : e' - 12 = c
              · have hd0 : dl (num φ (k % 2) (k / 2)) j' = 0 := by rw [ha]; exact if_neg (by omega)
                rw [if_pos q4, if_pos q4, hpk, hd0, Int.mul_zero, Int.add_zero]
              · rw [if_neg q4, if_neg q4]) (2 * nn φ) 0 N t (by omega) (by omega) ht
    obtain ⟨m3, em3⟩ : ∃ m, N - 2 * nn φ = m + 1 := ⟨N - 2 * nn φ - 1, by omega⟩
    have eu : f_X6_layRules_h87 N (fun x1_ σ_ => f_X6_layRules_h80 N n x1_ σ_) (nt (c : Nat)) N (0 : Int32) t = f_X6_layRules_h87 N (fun x1_ σ_ => f_X6_layRules_h80 N n x1_ σ_) (nt (c : Nat)) (N - 2 * nn φ) (nt (2 * nn φ : Nat)) u := eu
    have hnu : gI u 1067 0 = nt (nn φ : Nat) := by unfold gI; rw [hu.1]; exact MFr_n h
    rw [em3, f_X6_layRules_h87, hnu, n_2, nt_mul, le_t (by omega) (by omega) (by omega), n_1, nt_add, bd_eq] at eu
    refine ⟨u, ?_, hu.1, hu.2.1, fun j' e' hj' he' => ?_⟩
    · have n3 : (3 : Int32) = nt 3 := rfl
      show f_X6_layRules_h80 N (n + 1) (nt (c : Nat)) t = _
      rw [f_X6_layRules_h80, n3, le_f (by omega) (by omega) (by omega), eu]
      rfl
    · rw [hu.2.2 j' e' hj' he']
      by_cases q2 : e' < 12
      · rw [if_pos q2, if_pos q2]
      · rw [if_neg q2, if_neg q2]
        by_cases q3 : e' - 12 < c
        · rw [if_pos q3, if_pos (by omega)]
        · rw [if_neg q3]
          by_cases q4 : e' - 12 = c
          · rw [if_pos q4, if_pos (by omega), pk_pz, q4]
          · rw [if_neg q4, if_neg (by omega)]
            by_cases q5 : e' - 12 = c + 1
            · rw [if_pos q5]; rfl
            · rw [if_neg q5]) 3 0 N s (by omega) (by omega) i1
  obtain ⟨m4, em4⟩ : ∃ m, N - 3 = m + 1 := ⟨N - 3 - 1, by omega⟩
  have et : f_X6_layRules_h80 N N (nt 0) s = f_X6_layRules_h80 N (N - 3) (nt (3 : Nat)) t := et
  rw [em4, f_X6_layRules_h80, show (3 : Int32) = nt ((3 : Nat) : Int) from rfl, le_t (by omega) (by omega) (by omega)] at et
  refine ⟨t, ?_, fun j col hj hcol => ?_, ht.1, ht.2.1⟩
  · unfold f_X6_layRules
    exact k0.trans (es.trans et)
  · rw [ht.2.2 j col hj hcol]
    unfold rcl
    by_cases q : col < 12
    · rw [if_pos q, if_pos q]
    · rw [if_neg q, if_neg q, if_pos (by omega)]
end
