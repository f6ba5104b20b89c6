-- ===== the frame's motions: which number tells how a node goes one way =====
noncomputable def cd (p : Prop) : Bool := @decide p (Classical.propDecidable p)
theorem cd_iff {p : Prop} : cd p = true ↔ p := by unfold cd; exact @decide_eq_true_iff p (Classical.propDecidable p)
theorem cd_f {p : Prop} : cd p = false ↔ ¬ p := by unfold cd; exact @decide_eq_false_iff_not p (Classical.propDecidable p)
/-- the least place up to one that has it -/
def lst (s : Nat → Bool) : Nat → Nat
  | 0 => 0
  | n + 1 => if an s (n + 1) = true then lst s n else n + 1
theorem an_s {s : Nat → Bool} {n : Nat} : an s (n + 1) = true ↔ an s n = true ∨ s n = true := by
  rw [an_iff, an_iff]
  constructor
  · rintro ⟨k, hk, h⟩
    by_cases e : k = n
    · subst e; exact Or.inr h
    · exact Or.inl ⟨k, by omega, h⟩
  · rintro (⟨k, hk, h⟩ | h)
    · exact ⟨k, by omega, h⟩
    · exact ⟨n, by omega, h⟩
theorem lst_ok {s : Nat → Bool} : ∀ n : Nat, (an s n = true ∨ s n = true) → s (lst s n) = true ∧ lst s n ≤ n ∧ ∀ k, k < lst s n → s k = false := by
  intro n
  induction n with
  | zero =>
    intro h
    have h0 : s 0 = true := by
      rcases h with h | h
      · obtain ⟨k, hk, _⟩ := an_iff.mp h; omega
      · exact h
    exact ⟨h0, Nat.le_refl _, fun k hk => by exact absurd hk (Nat.not_lt_zero k)⟩
  | succ n ih =>
    intro h
    show s (if an s (n + 1) = true then lst s n else n + 1) = true ∧ (if an s (n + 1) = true then lst s n else n + 1) ≤ n + 1 ∧ ∀ k, k < (if an s (n + 1) = true then lst s n else n + 1) → s k = false
    by_cases e : an s (n + 1) = true
    · rw [if_pos e]
      obtain ⟨h1, h2, h3⟩ := ih (an_s.mp e)
      exact ⟨h1, by omega, h3⟩
    · rw [if_neg e]
      refine ⟨h.resolve_left e, Nat.le_refl _, fun k hk => ?_⟩
      cases q : s k with
      | false => rfl
      | true => exact absurd (an_iff.mpr ⟨k, hk, q⟩) e
/-- vertical -/
def vt (φ : FR) (b : Nat) : Bool := decide (φ.1 0 (φ.1 3 b).toNat = φ.1 0 (φ.1 4 b).toNat)
def ba (φ : FR) (b : Nat) : Nat := (φ.1 3 b).toNat
def bz (φ : FR) (b : Nat) : Nat := (φ.1 4 b).toNat
/-- a bar keeps its nodes alike one way: 0 to the right, 1 upward -/
def srt (φ : FR) (v b : Nat) : Bool := vt φ b == (v == 1)
/-- nodes that go alike -/
def eqv (φ : FR) (v n m : Nat) : Prop := ∀ h : Nat → Nat, (∀ b, b < nb φ → srt φ v b = true → h (ba φ b) = h (bz φ b)) → h n = h m
theorem eqv_rf (φ : FR) (v n : Nat) : eqv φ v n n := fun _ _ => rfl
theorem eqv_sy {φ : FR} {v n m : Nat} (h : eqv φ v n m) : eqv φ v m n := fun g hg => (h g hg).symm
theorem eqv_tr {φ : FR} {v n m k : Nat} (h : eqv φ v n m) (h2 : eqv φ v m k) : eqv φ v n k := fun g hg => (h g hg).trans (h2 g hg)
theorem eqv_bar {φ : FR} {v b : Nat} (hb : b < nb φ) (h : srt φ v b = true) : eqv φ v (ba φ b) (bz φ b) := fun g hg => hg b hb h
/-- the least node that goes like one -/
noncomputable def hdF (φ : FR) (v n : Nat) : Nat := if v = 2 then n else lst (fun k => cd (eqv φ v k n)) n
theorem hdF_le (φ : FR) (v n : Nat) : hdF φ v n ≤ n := by
  unfold hdF
  split
  · exact Nat.le_refl _
  · exact (lst_ok (s := fun k => cd (eqv φ v k n)) n (Or.inr (cd_iff.mpr (eqv_rf φ v n)))).2.1
theorem hdF_eqv {φ : FR} {v : Nat} (hv : v ≠ 2) (n : Nat) : eqv φ v (hdF φ v n) n := by
  unfold hdF
  rw [if_neg hv]
  exact cd_iff.mp (lst_ok (s := fun k => cd (eqv φ v k n)) n (Or.inr (cd_iff.mpr (eqv_rf φ v n)))).1
theorem hdF_min {φ : FR} {v n k : Nat} (hv : v ≠ 2) (h : eqv φ v k n) : hdF φ v n ≤ k := by
  unfold hdF
  rw [if_neg hv]
  apply Classical.byContradiction
  intro w
  have := (lst_ok (s := fun k => cd (eqv φ v k n)) n (Or.inr (cd_iff.mpr (eqv_rf φ v n)))).2.2 k (by omega)
  rw [cd_f] at this
  exact this h
theorem hdF_iff {φ : FR} {v n m : Nat} (hv : v ≠ 2) : hdF φ v n = hdF φ v m ↔ eqv φ v n m := by
  constructor
  · intro h
    have h1 := hdF_eqv (φ := φ) hv n
    have h2 := hdF_eqv (φ := φ) hv m
    rw [h] at h1
    exact eqv_tr (eqv_sy h1) h2
  · intro h
    have h1 := hdF_eqv (φ := φ) hv n
    have h2 := hdF_eqv (φ := φ) hv m
    have a := hdF_min hv (eqv_tr h1 h)
    have b := hdF_min hv (eqv_tr h2 (eqv_sy h))
    omega
theorem hdF_hd (φ : FR) (v n : Nat) : hdF φ v (hdF φ v n) = hdF φ v n := by
  by_cases hv : v = 2
  · unfold hdF; rw [if_pos hv, if_pos hv]
  · exact (hdF_iff hv).mpr (hdF_eqv hv n)
/-- a node is held one way -/
def hkd (φ : FR) (n v : Nat) : Bool := if v = 0 then decide (φ.1 2 n = 1 ∨ φ.1 2 n = 2) else if v = 1 then decide (φ.1 2 n ≠ 0) else decide (φ.1 2 n = 2)
noncomputable def hld (φ : FR) (v n : Nat) : Bool := an (fun k => hkd φ k v && (hdF φ v k == hdF φ v n)) (nn φ)
theorem hld_hd {φ : FR} {v n m : Nat} (h : hdF φ v n = hdF φ v m) : hld φ v n = hld φ v m := by unfold hld; rw [h]
/-- places of numbers: heads that are not held -/
noncomputable def isH (φ : FR) (i : Nat) : Bool := decide (i % 7 < nn φ) && (hdF φ (i / 7) (i % 7) == i % 7) && !hld φ (i / 7) (i % 7)
noncomputable def num (φ : FR) (v n : Nat) : Int := if hld φ v n = true then -1 else (cn (7 * v + hdF φ v n) (isH φ) : Int)
noncomputable def dd (φ : FR) : Nat := cn 21 (isH φ)
noncomputable def ds (φ : FR) : Nat := cn 14 (isH φ)
theorem cn_mono (s : Nat → Bool) : ∀ {m n : Nat}, m ≤ n → cn m s ≤ cn n s := by
  intro m n h
  induction n with
  | zero => obtain rfl : m = 0 := by omega
            exact Nat.le_refl _
  | succ n ih =>
    by_cases e : m = n + 1
    · subst e; exact Nat.le_refl _
    · have := ih (by omega)
      rw [cn_s]; omega
theorem cn_up {s : Nat → Bool} {m n : Nat} (h : m < n) (hs : s m = true) : cn m s < cn n s := by
  have h1 := cn_mono s (show m + 1 ≤ n by omega)
  rw [cn_s, if_pos hs] at h1
  omega
theorem cn_inj {s : Nat → Bool} {m n : Nat} (hm : s m = true) (hn : s n = true) (h : cn m s = cn n s) : m = n := by
  rcases Nat.lt_trichotomy m n with q | q | q
  · have := cn_up q hm; omega
  · exact q
  · have := cn_up q hn; omega
theorem cn_at (s : Nat → Bool) : ∀ (n j : Nat), j < cn n s → ∃ i, i < n ∧ s i = true ∧ cn i s = j := by
  intro n
  induction n with
  | zero => intro j h; exact absurd h (Nat.not_lt_zero j)
  | succ n ih =>
    intro j h
    by_cases e : j < cn n s
    · obtain ⟨i, h1, h2⟩ := ih j e
      exact ⟨i, by omega, h2⟩
    · rw [cn_s] at h
      by_cases q : s n = true
      · rw [if_pos q] at h
        exact ⟨n, by omega, q, by omega⟩
      · rw [if_neg q] at h; omega
section
variable {φ : FR}
theorem hd_slot (w : WF φ) {v n : Nat} (hn : n < nn φ) (hh : hld φ v n = false) : isH φ (7 * v + hdF φ v n) = true := by
  have h1 := hdF_le φ v n
  have h7 := w.1
  have e1 : (7 * v + hdF φ v n) / 7 = v := by omega
  have e2 : (7 * v + hdF φ v n) % 7 = hdF φ v n := by omega
  unfold isH
  rw [e1, e2, hdF_hd, hld_hd (hdF_hd φ v n), hh]
  simp; omega
theorem num_rg (w : WF φ) {v n : Nat} (hv : v < 3) (hn : n < nn φ) : (num φ v n = -1 ∧ hld φ v n = true) ∨ (0 ≤ num φ v n ∧ num φ v n < dd φ ∧ hld φ v n = false) := by
  unfold num
  cases e : hld φ v n with
  | true => rw [if_pos rfl]; exact Or.inl ⟨rfl, rfl⟩
  | false =>
    rw [if_neg (by simp)]
    have h1 := hdF_le φ v n
    have h7 := w.1
    have := cn_up (s := isH φ) (m := 7 * v + hdF φ v n) (n := 21) (by omega) (hd_slot w hn e)
    right
    unfold dd
    exact ⟨by omega, by omega, rfl⟩
theorem num_inj (w : WF φ) {v n v' n' : Nat} (hn : n < nn φ) (hn' : n' < nn φ) (h0 : 0 ≤ num φ v n) (h : num φ v n = num φ v' n') : v = v' ∧ hdF φ v n = hdF φ v' n' := by
  unfold num at h h0
  have h7 := w.1
  have l1 := hdF_le φ v n
  have l2 := hdF_le φ v' n'
  cases e : hld φ v n with
  | true => rw [e, if_pos rfl] at h0; omega
  | false =>
    cases e' : hld φ v' n' with
    | true => rw [e, e', if_pos rfl, if_neg (by simp)] at h; omega
    | false =>
      rw [e, e', if_neg (by simp), if_neg (by simp)] at h
      have := cn_inj (hd_slot w hn e) (hd_slot w hn' e') (by omega)
      have hv : v = v' := by omega
      subst hv
      exact ⟨rfl, by omega⟩
theorem num_eq {v n m : Nat} (h : hdF φ v n = hdF φ v m) : num φ v n = num φ v m := by
  unfold num; rw [hld_hd h, h]
theorem num_at (w : WF φ) {j : Nat} (hj : j < dd φ) : ∃ v n, v < 3 ∧ n < nn φ ∧ num φ v n = j ∧ hdF φ v n = n := by
  obtain ⟨i, hi, hs, hc⟩ := cn_at (isH φ) 21 j hj
  have hs2 := hs
  unfold isH at hs
  simp only [Bool.and_eq_true, decide_eq_true_eq, beq_iff_eq, Bool.not_eq_true'] at hs
  refine ⟨i / 7, i % 7, by omega, hs.1.1, ?_, hs.1.2⟩
  unfold num
  rw [hs.2, if_neg (by simp), hs.1.2, show 7 * (i / 7) + i % 7 = i by omega, hc]
theorem num_s (w : WF φ) {v n : Nat} (hv : v < 3) (hn : n < nn φ) (h0 : 0 ≤ num φ v n) : num φ v n < ds φ ↔ v < 2 := by
  have h7 := w.1
  have l1 := hdF_le φ v n
  unfold num at h0 ⊢
  cases e : hld φ v n with
  | true => rw [e, if_pos rfl] at h0; omega
  | false =>
    rw [if_neg (by simp)]
    unfold ds
    constructor
    · intro h
      apply Classical.byContradiction
      intro q
      have := cn_mono (isH φ) (show 14 ≤ 7 * v + hdF φ v n by omega)
      omega
    · intro h
      have := cn_up (s := isH φ) (m := 7 * v + hdF φ v n) (n := 14) (by omega) (hd_slot w hn e)
      omega
theorem ds_le : ds φ ≤ dd φ := cn_mono _ (by omega)
theorem dd_le : dd φ ≤ 21 := cn_bd _ 21
/-- 1 at a number -/
def dl (a : Int) (j : Nat) : Int := if a = (j : Int) then 1 else 0
theorem dl_neg {a : Int} {j : Nat} (h : a < 0) : dl a j = 0 := if_neg (by omega)
/-- an end's row: its length times its twist -/
noncomputable def Rz (φ : FR) (e : Nat) : Nat → Int := fun j => lenB φ (e / 2) * dl (num φ 2 (if e % 2 = 0 then ba φ (e / 2) else bz φ (e / 2))) j + (if vt φ (e / 2) = true then dl (num φ 0 (bz φ (e / 2))) j - dl (num φ 0 (ba φ (e / 2))) j else dl (num φ 1 (ba φ (e / 2))) j - dl (num φ 1 (bz φ (e / 2))) j)
/-- a case's loads -/
noncomputable def pz (φ : FR) (c : Nat) : Nat → Int := fun j => sZ (nn φ) (fun n => φ.1 (6 + 2 * c) n * dl (num φ 0 n) j + φ.1 (7 + 2 * c) n * dl (num φ 1 n) j)
theorem len_rg (w : WF φ) {b : Nat} (hb : b < nb φ) : 1 ≤ lenB φ b ∧ lenB φ b ≤ 4 := by
  have h := (w.2.2.2.1 b hb).2.2.2.2.2.2
  unfold bOK at h
  unfold lenB
  omega
theorem len_12 (w : WF φ) {b : Nat} (hb : b < nb φ) : 12 / lenB φ b * lenB φ b = 12 ∧ (3 ≤ 12 / lenB φ b ∧ 12 / lenB φ b ≤ 12) := by
  have := len_rg w hb
  rcases (show lenB φ b = 1 ∨ lenB φ b = 2 ∨ lenB φ b = 3 ∨ lenB φ b = 4 by omega) with h | h | h | h <;> rw [h] <;> decide
theorem ba_lt (w : WF φ) {b : Nat} (hb : b < nb φ) : ba φ b < nn φ := by
  have h := w.2.2.2.1 b hb
  unfold ba; omega
theorem bz_lt (w : WF φ) {b : Nat} (hb : b < nb φ) : bz φ b < nn φ := by
  have h := w.2.2.2.1 b hb
  unfold bz; omega
/-- by the shifts, a row is that of a graph -/
theorem Rz_gr (w : WF φ) {e : Nat} (he : e < 2 * nb φ) : gr (ds φ) (Rz φ e) := by
  have hb : e / 2 < nb φ := by omega
  have ha := ba_lt w hb
  have hz := bz_lt w hb
  have ht : ∀ n, n < nn φ → ∀ j, j < ds φ → dl (num φ 2 n) j = 0 := by
    intro n hn j hj
    unfold dl
    rw [if_neg (fun q => ?_)]
    have := (num_s w (v := 2) (by omega) hn (by omega)).mp (by omega)
    omega
  have hu : ∀ v n, v < 2 → n < nn φ → ∃ x, ∀ j, j < ds φ → dl (num φ v n) j = un x j := by
    intro v n hv hn
    by_cases h0 : 0 ≤ num φ v n
    · refine ⟨(num φ v n).toNat, fun j hj => ?_⟩
      unfold dl un
      by_cases q : num φ v n = j
      · rw [if_pos q, if_pos (by omega)]
      · rw [if_neg q, if_neg (by omega)]
    · refine ⟨ds φ, fun j hj => ?_⟩
      rw [dl_neg (by omega), show un (ds φ) j = 0 from if_neg (by omega)]
  have hnode : (if e % 2 = 0 then ba φ (e / 2) else bz φ (e / 2)) < nn φ := by split <;> assumption
  cases hv : vt φ (e / 2) with
  | true =>
    obtain ⟨x, hx⟩ := hu 0 _ (by omega) hz
    obtain ⟨y, hy⟩ := hu 0 _ (by omega) ha
    refine ⟨1, x, y, by omega, fun j hj => ?_⟩
    unfold Rz
    rw [ht _ hnode j hj, hv, if_pos rfl, hx j hj, hy j hj]; omega
  | false =>
    obtain ⟨x, hx⟩ := hu 1 _ (by omega) ha
    obtain ⟨y, hy⟩ := hu 1 _ (by omega) hz
    refine ⟨1, x, y, by omega, fun j hj => ?_⟩
    unfold Rz
    rw [ht _ hnode j hj, hv, if_neg (by simp), hx j hj, hy j hj]; omega
/-- at a turn, a row has its length, if its node is that one -/
theorem Rz_turn (w : WF φ) {e j : Nat} (he : e < 2 * nb φ) (hj : ds φ ≤ j) : Rz φ e j = lenB φ (e / 2) * dl (num φ 2 (if e % 2 = 0 then ba φ (e / 2) else bz φ (e / 2))) j := by
  have hb : e / 2 < nb φ := by omega
  have hu : ∀ v n, v < 2 → n < nn φ → dl (num φ v n) j = 0 := by
    intro v n hv hn
    unfold dl
    rw [if_neg (fun q => ?_)]
    have := (num_s w (v := v) (by omega) hn (by omega)).mpr hv
    omega
  unfold Rz
  rw [hu 0 _ (by omega) (ba_lt w hb), hu 0 _ (by omega) (bz_lt w hb), hu 1 _ (by omega) (ba_lt w hb), hu 1 _ (by omega) (bz_lt w hb)]
  split <;> omega
theorem pz_turn (w : WF φ) {c j : Nat} (hj : ds φ ≤ j) : pz φ c j = 0 := by
  refine sZ_zero (fun n hn => ?_)
  have hu : ∀ v, v < 2 → dl (num φ v n) j = 0 := by
    intro v hv
    unfold dl
    rw [if_neg (fun q => ?_)]
    have := (num_s w (v := v) (by omega) hn (by omega)).mpr hv
    omega
  rw [hu 0 (by omega), hu 1 (by omega)]; omega
end
