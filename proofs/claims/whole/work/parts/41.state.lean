-- ===== reading a written state =====
theorem gI_sI (σ : ZS) (c k : Nat) (v : Int32) (c' k' : Nat) : gI (sI σ c k v) c' k' = if c' = c ∧ k' = k then v else gI σ c' k' := by
  unfold gI sI
  by_cases h : c' = c
  · subst h
    by_cases h2 : k' = k
    · simp [upd, h2]
    · simp [upd, h2]
  · simp [h]
theorem gJ_sJ (σ : ZS) (c k : Nat) (v : Int64) (c' k' : Nat) : gJ (sJ σ c k v) c' k' = if c' = c ∧ k' = k then v else gJ σ c' k' := by
  unfold gJ sJ
  by_cases h : c' = c
  · subst h
    by_cases h2 : k' = k
    · simp [vp_updL, h2]
    · simp [vp_updL, h2]
  · simp [h]
theorem gI_sJ (σ : ZS) (c k : Nat) (v : Int64) (c' k' : Nat) : gI (sJ σ c k v) c' k' = gI σ c' k' := rfl
theorem gJ_sI (σ : ZS) (c k : Nat) (v : Int32) (c' k' : Nat) : gJ (sI σ c k v) c' k' = gJ σ c' k' := rfl
theorem gJ_cpI (σ : ZS) (a b sp dp n c' k' : Nat) : gJ (cpI σ a b sp dp n) c' k' = gJ σ c' k' := rfl
theorem gI_cpI (σ : ZS) (a b sp dp n c' k' : Nat) : gI (cpI σ a b sp dp n) c' k' = if c' = b then (if dp ≤ k' ∧ k' < dp + n then gI σ a (sp + (k' - dp)) else gI σ b k') else gI σ c' k' := by
  unfold gI cpI va_cpy
  by_cases h : c' = b
  · simp [h]
  · simp [h]
theorem gI_sI_at (σ : ZS) (c k : Nat) (v : Int32) : gI (sI σ c k v) c k = v := by rw [gI_sI, if_pos ⟨rfl, rfl⟩]
theorem gJ_sJ_at (σ : ZS) (c k : Nat) (v : Int64) : gJ (sJ σ c k v) c k = v := by rw [gJ_sJ, if_pos ⟨rfl, rfl⟩]
theorem gI_sI_c {c c' : Nat} (h : c' ≠ c) (σ : ZS) (k : Nat) (v : Int32) (k' : Nat) : gI (sI σ c k v) c' k' = gI σ c' k' := by rw [gI_sI, if_neg (fun q => h q.1)]
theorem gI_sI_k {k k' : Nat} (h : k' ≠ k) (σ : ZS) (c c' : Nat) (v : Int32) : gI (sI σ c k v) c' k' = gI σ c' k' := by rw [gI_sI, if_neg (fun q => h q.2)]
theorem gJ_sJ_c {c c' : Nat} (h : c' ≠ c) (σ : ZS) (k : Nat) (v : Int64) (k' : Nat) : gJ (sJ σ c k v) c' k' = gJ σ c' k' := by rw [gJ_sJ, if_neg (fun q => h q.1)]
theorem gJ_sJ_k {k k' : Nat} (h : k' ≠ k) (σ : ZS) (c c' : Nat) (v : Int64) : gJ (sJ σ c k v) c' k' = gJ σ c' k' := by rw [gJ_sJ, if_neg (fun q => h q.2)]
theorem ck_true {β : Type} (x : Option β) : ck true x = x := rfl
theorem ck_false {β : Type} (x : Option β) : ck false x = none := rfl
theorem obd_some {α β : Type} (a : α) (s : ZS) (k : α → ZS → Option β) : obd (some (a, s)) k = k a s := rfl
theorem bd_eq {α β : Type} (v : α) (k : α → β) : bd v k = k v := rfl
theorem ck_of {β : Type} {b : Bool} (h : b = true) (x : Option β) : ck b x = x := by rw [h]; rfl
