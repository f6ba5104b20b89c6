-- ===== the pure state: what every cell holds, by the cell's number and the place in it =====
abbrev ZS : Type := (Nat → Nat → Int32) × (Nat → Nat → Int64)
def gI (σ : ZS) (c k : Nat) : Int32 := σ.1 c k
def gJ (σ : ZS) (c k : Nat) : Int64 := σ.2 c k
def sI (σ : ZS) (c k : Nat) (v : Int32) : ZS := (fun a => if a = c then upd (σ.1 a) k v else σ.1 a, σ.2)
def sJ (σ : ZS) (c k : Nat) (v : Int64) : ZS := (σ.1, fun a => if a = c then vp_updL (σ.2 a) k v else σ.2 a)
def cpI (σ : ZS) (a b sp dp n : Nat) : ZS := (fun q => if q = b then va_cpy (σ.1 a) (σ.1 b) sp dp n else σ.1 q, σ.2)
-- the topology, printed by program: tg: 0 object, 1 int[], 2 long[], 3 boolean[], 4 Frame[], 5 int[][], 6 long[][], 9 no cell; ln: length (of an object: its class's number)
def zN : Nat := 1106
def tg (c : Nat) : Nat := if c < 1106 then (if c < 1071 then (if c < 20 then (if c < 8 then (if c < 5 then (if c < 1 then 0 else (if c < 2 then 4 else 0)) else (if c < 6 then 0 else (if c < 7 then 0 else 0))) else (if c < 17 then (if c < 13 then 0 else (if c < 16 then 5 else 6)) else (if c < 18 then 5 else (if c < 19 then 6 else 6)))) else (if c < 38 then (if c < 29 then (if c < 23 then 1 else (if c < 26 then 1 else 1)) else (if c < 32 then 1 else (if c < 35 then 1 else 1))) else (if c < 61 then (if c < 59 then 1 else (if c < 60 then 1 else 1)) else (if c < 1067 then (if c < 65 then 2 else 2) else (if c < 1068 then 0 else 1))))) else (if c < 1087 then (if c < 1080 then (if c < 1076 then (if c < 1074 then 1 else (if c < 1075 then 1 else 1)) else (if c < 1077 then 1 else (if c < 1079 then 2 else 1))) else (if c < 1083 then (if c < 1081 then 1 else (if c < 1082 then 2 else 3)) else (if c < 1085 then (if c < 1084 then 1 else 2) else (if c < 1086 then 2 else 2)))) else (if c < 1094 then (if c < 1091 then (if c < 1089 then 2 else (if c < 1090 then 1 else 2)) else (if c < 1092 then 1 else (if c < 1093 then 2 else 2))) else (if c < 1098 then (if c < 1096 then 2 else (if c < 1097 then 3 else 1)) else (if c < 1104 then (if c < 1100 then 2 else 2) else (if c < 1105 then 1 else 3)))))) else 9
def ln (c : Nat) : Nat := (if c < 1071 then (if c < 20 then (if c < 8 then (if c < 5 then (if c < 1 then 5 else (if c < 2 then 2 else 2)) else (if c < 6 then 4 else (if c < 7 then 3 else 0))) else (if c < 17 then (if c < 13 then 1 else (if c < 16 then 6 else 78)) else (if c < 18 then 2 else (if c < 19 then 924 else 3)))) else (if c < 38 then (if c < 29 then (if c < 23 then 7 else (if c < 26 then 6 else 7)) else (if c < 32 then 6 else (if c < 35 then 7 else 6))) else (if c < 61 then (if c < 59 then 7 else (if c < 60 then 924 else 6)) else (if c < 1067 then (if c < 65 then 924 else 26) else (if c < 1068 then 6 else 7))))) else (if c < 1087 then (if c < 1080 then (if c < 1076 then (if c < 1074 then 6 else (if c < 1075 then 42 else 14)) else (if c < 1077 then 21 else (if c < 1079 then 252 else 12))) else (if c < 1083 then (if c < 1081 then 924 else (if c < 1082 then 11088 else 4096)) else (if c < 1085 then (if c < 1084 then 13 else 21) else (if c < 1086 then 12 else 3)))) else (if c < 1094 then (if c < 1091 then (if c < 1089 then 180 else (if c < 1090 then 15 else 3)) else (if c < 1092 then 12 else (if c < 1093 then 180 else 15))) else (if c < 1098 then (if c < 1096 then 2 else (if c < 1097 then 3 else 3)) else (if c < 1104 then (if c < 1100 then 6 else 12) else (if c < 1105 then 166 else 2))))))
def ft (k j : Nat) : Nat := if k = 0 then 5417610 / 4 ^ j % 4 else if k = 1 then 5 / 4 ^ j % 4 else if k = 2 then 174752 / 4 ^ j % 4 else if k = 3 then 42 / 4 ^ j % 4 else if k = 4 then 42 / 4 ^ j % 4 else if k = 5 then 2730 / 4 ^ j % 4 else 54086422577302604436870401271976 / 4 ^ j % 4
def nf (k : Nat) : Nat := if k = 0 then 12 else if k = 1 then 2 else if k = 2 then 9 else if k = 3 then 4 else if k = 4 then 7 else if k = 5 then 9 else 53
def rf (c j : Nat) : Nat := if c = 0 then 288353573014603778 / 2048 ^ j % 2048 else if c = 2 then 4027084792580262225711726592 / 2048 ^ j % 2048 else if c = 3 then 4337476939704454422141599744 / 2048 ^ j % 2048 else if c = 4 then 4647869086828646618571472896 / 2048 ^ j % 2048 else if c = 5 then 71417872 / 2048 ^ j % 2048 else if c = 6 then 75618309 / 2048 ^ j % 2048 else if c = 7 then 3715483129053206347922923526 / 2048 ^ j % 2048 else if c = 1067 then 17089592827872106042118165179981951934745346556599059714394313776519901751753275188568887769691063205157400546292977329494229361324656676959142175412078034252362011121901723648 / 2048 ^ j % 2048 else 0
def rr (c j : Nat) : Nat := if c = 1 then 3 + j else if c = 13 then 38 + j else if c = 14 then 44 + j else if c = 15 then 50 + j else if c = 16 then 65 + j else if c = 17 then 57 + j else if c = 18 then 143 + j else 62 + j
def inb (j : Int32) (n : Nat) : Bool := !(decide (j < 0) || decide (n ≤ j.toNatClampNeg))
def nn32 (r : UInt32) : Bool := decide (r &&& 0x7fffffff ≤ 0x7f800000)
def irm (x y : Int32) : Int32 := x - x / y * y
def lrm (x y : Int64) : Int64 := x - x / y * y
def bb (v : Int32) : Bool := v == 0 || v == 1
def bd {α β : Type} (v : α) (k : α → β) : β := k v
def obd {α β : Type} (x : Option (α × ZS)) (k : α → ZS → Option β) : Option β := match x with
  | none => none
  | some q => k q.1 q.2
def ck {β : Type} (b : Bool) (x : Option β) : Option β := match b with
  | true => x
  | false => none
def isc (c k : Nat) : Bool := tg c == 0 && ln c == k
def isa (c : Nat) : Bool := Nat.ble 1 (tg c) && Nat.ble (tg c) 6
def isr (c : Nat) : Bool := Nat.ble 4 (tg c) && Nat.ble (tg c) 6
def cpg (sp dp n : Int32) (a b : Nat) : Bool := decide (¬ sp < 0) && (decide (¬ dp < 0) && (decide (¬ n < 0) && (decide (sp.toNatClampNeg + n.toNatClampNeg ≤ a) && decide (dp.toNatClampNeg + n.toNatClampNeg ≤ b))))
theorem isc_tg {c k : Nat} (h : isc c k = true) : tg c = 0 := by unfold isc at h; rw [Bool.and_eq_true] at h; exact eq_of_beq h.1
theorem isc_ln {c k : Nat} (h : isc c k = true) : ln c = k := by unfold isc at h; rw [Bool.and_eq_true] at h; exact eq_of_beq h.2
theorem isa_of {c : Nat} (h : isa c = true) : (Nat.ble 1 (tg c) && Nat.ble (tg c) 6) = true := h
theorem isr_of {c : Nat} (h : isr c = true) : (Nat.ble 4 (tg c) && Nat.ble (tg c) 6) = true := h
theorem nz_of {α : Type} [BEq α] [LawfulBEq α] {x y : α} (h : (!(x == y)) = true) : ¬ x = y := by
  intro q
  subst q
  simp at h
theorem bb_nar {v : Int32} (h : bb v = true) : narrow .boolean (.int v) = .int v := by
  unfold bb at h
  rw [Bool.or_eq_true, beq_iff_eq, beq_iff_eq] at h
  rcases h with rfl | rfl <;> rfl
theorem bb_fit {v : Int32} (h : bb v = true) : fits .boolean (.int v) = true := by
  unfold bb at h
  rw [Bool.or_eq_true, beq_iff_eq, beq_iff_eq] at h
  rcases h with rfl | rfl <;> rfl
theorem ble2 {a b c d : Nat} (h1 : a ≤ b) (h2 : c ≤ d) : (Nat.ble a b && Nat.ble c d) = true := by rw [Bool.and_eq_true]; exact ⟨Nat.ble_eq.mpr h1, Nat.ble_eq.mpr h2⟩
theorem bd_to {α β : Type} {v w : α} {k : α → Option β} {o : β} (e : w = v) (h : bd v k = some o) : k w = some o := by subst e; exact h
theorem bd_ex {α β : Type} {v : α} {k : α → Option β} {o : β} (h : bd v k = some o) : ∃ w, w = v ∧ k w = some o := ⟨v, rfl, h⟩
theorem ck_out {β : Type} {b : Bool} {x : Option β} {o : β} (h : ck b x = some o) : b = true ∧ x = some o := by
  cases b
  · cases h
  · exact ⟨rfl, h⟩
theorem obd_out {α β : Type} {x : Option (α × ZS)} {k : α → ZS → Option β} {o : β} (h : obd x k = some o) : ∃ (a : α) (s : ZS), x = some (a, s) ∧ k a s = some o := by
  cases x with
  | none => cases h
  | some q => exact ⟨q.1, q.2, rfl, h⟩
theorem it_pos {c : Prop} {β : Type} {d : Decidable c} {x y : Option β} {o : β} (h : c) (q : (@ite _ c d x y) = some o) : x = some o := by rwa [if_pos h] at q
theorem it_neg {c : Prop} {β : Type} {d : Decidable c} {x y : Option β} {o : β} (h : ¬ c) (q : (@ite _ c d x y) = some o) : y = some o := by rwa [if_neg h] at q
theorem inb_vp {j : Int32} {n : Nat} (h : inb j n = true) : vp_in j n := by
  unfold inb at h
  unfold vp_in
  simpa using h
theorem tg_lt {c t : Nat} (h : tg c = t) (ht : t ≤ 6) : c < zN := by
  unfold tg at h
  unfold zN
  by_cases hc : c < 1106
  · exact hc
  · rw [if_neg hc] at h
    omega
-- ===== the world of the cells =====
abbrev ZG : Type := (Nat → Nat) × va_G × (Nat → ClassId)
def fv (G : ZG) (σ : ZS) (c j : Nat) : Value := if ft (ln c) j = 0 then .int (σ.1 c j) else if ft (ln c) j = 1 then .long (σ.2 c j) else .ref (G.1 (rf c j))
def flds (G : ZG) (σ : ZS) (c : Nat) : List Value := (List.range (nf (ln c))).map (fv G σ c)
def ent (G : ZG) (σ : ZS) (c : Nat) : va_E :=
  if tg c = 0 then .inr (ln c, flds G σ c) else if tg c = 1 then .inl (G.2.2 1, ln c, .inl (σ.1 c)) else if tg c = 2 then .inl (G.2.2 2, ln c, .inr (.inl (σ.2 c))) else if tg c = 3 then .inl (G.2.2 3, ln c, .inl (σ.1 c)) else .inl (G.2.2 (tg c), ln c, .inr (.inr (.inr (.inr (fun j => some (G.1 (rr c j)))))))
def zW (G : ZG) (σ : ZS) : va_W := (List.range zN).map (fun c => (G.1 c, ent G σ c))
def zT (G : ZG) : List (ClassId × FieldType) := [(G.2.2 1, .int), (G.2.2 2, .long), (G.2.2 3, .boolean), (G.2.2 4, .object "FrameCollapse$Frame"), (G.2.2 5, .array .int), (G.2.2 6, .array .long)]
def zI (G : ZG) : Prop := ∀ i j : Nat, i < zN → j < zN → G.1 i = G.1 j → i = j
def zA (G : ZG) (sz : Nat) : Nat → Prop := fun q => (∃ c : Nat, c < zN ∧ q = G.1 c) ∨ sz ≤ q
def zNF : List Cond := [.fieldLinkNest "FrameCollapse" 106 "FrameCollapse$Frame" "x" "[I" "FrameCollapse", .fieldLinkNest "FrameCollapse" 109 "FrameCollapse$Frame" "y" "[I" "FrameCollapse", .fieldLinkNest "FrameCollapse" 112 "FrameCollapse$Frame" "first" "[I" "FrameCollapse", .fieldLinkNest "FrameCollapse" 115 "FrameCollapse$Frame" "second" "[I" "FrameCollapse", .fieldLinkNest "FrameCollapse" 131 "FrameCollapse$Motions" "size" "I" "FrameCollapse", .fieldLinkNest "FrameCollapse" 140 "FrameCollapse$Mechanisms" "found" "I" "FrameCollapse", .fieldLinkNest "FrameCollapse" 149 "FrameCollapse$Mechanisms" "sets" "[I" "FrameCollapse", .fieldLinkNest "FrameCollapse" 27 "FrameCollapse$Balance" "mechanisms" "LFrameCollapse$Mechanisms;" "FrameCollapse", .fieldLinkNest "FrameCollapse" 32 "FrameCollapse$Mechanisms" "motions" "LFrameCollapse$Motions;" "FrameCollapse", .fieldLinkNest "FrameCollapse" 54 "FrameCollapse$Frame" "nodes" "I" "FrameCollapse", .fieldLinkNest "FrameCollapse" 69 "FrameCollapse$Frame" "kind" "[I" "FrameCollapse", .fieldLinkNest "FrameCollapse" 79 "FrameCollapse$Frame" "bars" "I" "FrameCollapse", .fieldLinkNest "FrameCollapse" 92 "FrameCollapse$Frame" "strength" "[I" "FrameCollapse", .fieldLinkNest "FrameCollapse" 99 "FrameCollapse$Frame" "loads" "[[I" "FrameCollapse", .fieldLinkNest "FrameCollapse$Balance" 47 "FrameCollapse$Frame" "bars" "I" "FrameCollapse", .fieldLinkNest "FrameCollapse$Balance" 54 "FrameCollapse$Frame" "strength" "[I" "FrameCollapse", .fieldLinkNest "FrameCollapse$Balance" 61 "FrameCollapse$Mechanisms" "found" "I" "FrameCollapse", .fieldLinkNest "FrameCollapse$Mechanisms" 35 "FrameCollapse$Motions" "ends" "I" "FrameCollapse", .fieldLinkNest "FrameCollapse$Mechanisms" 38 "FrameCollapse$Motions" "size" "I" "FrameCollapse", .fieldLinkNest "FrameCollapse$Mechanisms" 45 "FrameCollapse$Motions" "rows" "[[J" "FrameCollapse", .fieldLinkNest "FrameCollapse$Mechanisms" 79 "FrameCollapse$Frame" "loads" "[[I" "FrameCollapse", .fieldLinkNest "FrameCollapse$Mechanisms" 85 "FrameCollapse$Motions" "shiftOf" "[[I" "FrameCollapse", .fieldLinkNest "FrameCollapse$Mechanisms" 88 "FrameCollapse$Frame" "nodes" "I" "FrameCollapse", .fieldLinkNest "FrameCollapse$Motions" 38 "FrameCollapse$Frame" "bars" "I" "FrameCollapse", .fieldLinkNest "FrameCollapse$Motions" 67 "FrameCollapse$Frame" "nodes" "I" "FrameCollapse", .fieldLinkNest "FrameCollapse$Motions" 82 "FrameCollapse$Frame" "second" "[I" "FrameCollapse", .fieldLinkNest "FrameCollapse$Motions" 85 "FrameCollapse$Frame" "first" "[I" "FrameCollapse"]
def zNM : List Cond := [.methodLinkNest "FrameCollapse$Fraction" 16 ⟨"FrameCollapse", "gcd", "(JJ)J"⟩ "FrameCollapse", .methodLinkNest "FrameCollapse$Frame" 48 ⟨"FrameCollapse", "within", "(III)Z"⟩ "FrameCollapse", .methodLinkNest "FrameCollapse$Motions" 119 ⟨"FrameCollapse", "gcd", "(JJ)J"⟩ "FrameCollapse"]
def zNW (U : State) : Prop := (∀ w ∈ zNF, va_Nw w U) ∧ ∀ w ∈ zNM, va_Nw w U
def zB (G : ZG) (σ : ZS) (U : State) : Prop := va_P G.2.1 vwCl (zW G σ) U.heap ∧ va_K G.2.1 vwCl (zT G) U ∧ zI G ∧ zNW U
theorem zNW.warm {s U : State} (hW : s.WarmedH U.vm) (h : zNW s) : zNW U := by
  refine ⟨fun w hw => ?_, fun w hw => ?_⟩
  · have h1 := h.1 w hw
    simp only [zNF, List.mem_cons, List.not_mem_nil, or_false] at hw
    rcases hw with rfl | rfl | rfl | rfl | rfl | rfl | rfl | rfl | rfl | rfl | rfl | rfl | rfl | rfl | rfl | rfl | rfl | rfl | rfl | rfl | rfl | rfl | rfl | rfl | rfl | rfl | rfl <;> exact va_Nw.warmF hW h1
  · have h1 := h.2 w hw
    simp only [zNM, List.mem_cons, List.not_mem_nil, or_false] at hw
    rcases hw with rfl | rfl | rfl <;> exact va_Nw.warmM hW h1
theorem zNW.same {s U : State} (hv : s.vm = U.vm) (h : zNW s) : zNW U := by
  refine ⟨fun w hw => ?_, fun w hw => ?_⟩
  · have h1 := h.1 w hw
    simp only [zNF, List.mem_cons, List.not_mem_nil, or_false] at hw
    rcases hw with rfl | rfl | rfl | rfl | rfl | rfl | rfl | rfl | rfl | rfl | rfl | rfl | rfl | rfl | rfl | rfl | rfl | rfl | rfl | rfl | rfl | rfl | rfl | rfl | rfl | rfl | rfl <;> exact va_Nw.same rfl hv h1
  · have h1 := h.2 w hw
    simp only [zNM, List.mem_cons, List.not_mem_nil, or_false] at hw
    rcases hw with rfl | rfl | rfl <;> exact va_Nw.same rfl hv h1
theorem zW_at (G : ZG) (σ : ZS) {c : Nat} (h : c < zN) : (zW G σ)[c]? = some (G.1 c, ent G σ c) := by
  unfold zW
  rw [List.getElem?_map, List.getElem?_range h]
  rfl
theorem zW_inv {G : ZG} {σ : ZS} {c : Nat} {q : Nat × va_E} (h : (zW G σ)[c]? = some q) : c < zN ∧ q = (G.1 c, ent G σ c) := by
  unfold zW at h
  rw [List.getElem?_map] at h
  by_cases hc : c < zN
  · rw [List.getElem?_range hc] at h
    cases h
    exact ⟨hc, rfl⟩
  · rw [List.getElem?_eq_none (by rw [List.length_range]; omega)] at h
    cases h
theorem zW_D {G : ZG} {A : Nat → Prop} (hI : zI G) (hA : ∀ c : Nat, c < zN → A (G.1 c)) (σ : ZS) : va_D A (zW G σ) := by
  refine ⟨fun i j p q hi hj e => ?_, fun k q hk => ?_⟩
  · obtain ⟨h1, rfl⟩ := zW_inv hi
    obtain ⟨h2, rfl⟩ := zW_inv hj
    exact hI i j h1 h2 e
  · obtain ⟨h1, rfl⟩ := zW_inv hk
    exact hA k h1
theorem zW_set {G : ZG} {σ σ' : ZS} {c : Nat} (hc : c < zN) (ho : ∀ d : Nat, d ≠ c → ent G σ' d = ent G σ d) : (zW G σ).set c (G.1 c, ent G σ' c) = zW G σ' := by
  apply List.ext_getElem?
  intro k
  by_cases hk : k < zN
  · rw [zW_at G σ' hk]
    by_cases e : k = c
    · subst e
      rw [List.getElem?_set_self (by unfold zW; rw [List.length_map, List.length_range]; exact hk)]
    · rw [List.getElem?_set_ne (Ne.symm e), zW_at G σ hk, ho k e]
  · rw [List.getElem?_eq_none (by rw [List.length_set]; unfold zW; rw [List.length_map, List.length_range]; omega), List.getElem?_eq_none (by unfold zW; rw [List.length_map, List.length_range]; omega)]
theorem ent_obj {G : ZG} {σ : ZS} {c : Nat} (h : tg c = 0) : ent G σ c = .inr (ln c, flds G σ c) := by unfold ent; rw [if_pos h]
theorem ent_int {G : ZG} {σ : ZS} {c : Nat} (h : tg c = 1) : ent G σ c = .inl (G.2.2 1, ln c, .inl (σ.1 c)) := by unfold ent; rw [if_neg (by omega), if_pos h]
theorem ent_long {G : ZG} {σ : ZS} {c : Nat} (h : tg c = 2) : ent G σ c = .inl (G.2.2 2, ln c, .inr (.inl (σ.2 c))) := by unfold ent; rw [if_neg (by omega), if_neg (by omega), if_pos h]
theorem ent_bool {G : ZG} {σ : ZS} {c : Nat} (h : tg c = 3) : ent G σ c = .inl (G.2.2 3, ln c, .inl (σ.1 c)) := by unfold ent; rw [if_neg (by omega), if_neg (by omega), if_neg (by omega), if_pos h]
theorem ent_refs {G : ZG} {σ : ZS} {c : Nat} (h : 4 ≤ tg c) : ent G σ c = .inl (G.2.2 (tg c), ln c, .inr (.inr (.inr (.inr (fun j => some (G.1 (rr c j))))))) := by unfold ent; rw [if_neg (by omega), if_neg (by omega), if_neg (by omega), if_neg (by omega)]
theorem ent_congr {G : ZG} {σ σ' : ZS} {d : Nat} (h1 : σ'.1 d = σ.1 d) (h2 : σ'.2 d = σ.2 d) : ent G σ' d = ent G σ d := by
  unfold ent flds
  have h3 : fv G σ' d = fv G σ d := by
    funext j
    unfold fv
    rw [h1, h2]
  rw [h1, h2, h3]
theorem sI_at (σ : ZS) (c k : Nat) (v : Int32) : (sI σ c k v).1 c = upd (σ.1 c) k v := by simp [sI]
theorem sI_ne {c d : Nat} (h : d ≠ c) (σ : ZS) (k : Nat) (v : Int32) : (sI σ c k v).1 d = σ.1 d := by simp [sI, h]
theorem sJ_at (σ : ZS) (c k : Nat) (v : Int64) : (sJ σ c k v).2 c = vp_updL (σ.2 c) k v := by simp [sJ]
theorem sJ_ne {c d : Nat} (h : d ≠ c) (σ : ZS) (k : Nat) (v : Int64) : (sJ σ c k v).2 d = σ.2 d := by simp [sJ, h]
theorem zW_sI {G : ZG} {σ : ZS} {c k : Nat} {v : Int32} (hc : c < zN) : (zW G σ).set c (G.1 c, ent G (sI σ c k v) c) = zW G (sI σ c k v) := zW_set hc fun d hd => ent_congr (sI_ne hd σ k v) rfl
theorem zW_sJ {G : ZG} {σ : ZS} {c k : Nat} {v : Int64} (hc : c < zN) : (zW G σ).set c (G.1 c, ent G (sJ σ c k v) c) = zW G (sJ σ c k v) := zW_set hc fun d hd => ent_congr rfl (sJ_ne hd σ k v)
theorem flds_set {G : ZG} {σ σ' : ZS} {c j : Nat} {v : Value} (hj : fv G σ' c j = v) (ho : ∀ i : Nat, i ≠ j → fv G σ' c i = fv G σ c i) : (flds G σ c).set j v = flds G σ' c := by
  unfold flds
  apply List.ext_getElem?
  intro i
  by_cases e : i = j
  · subst e
    by_cases hl : i < nf (ln c)
    · rw [List.getElem?_set_self (by rw [List.length_map, List.length_range]; exact hl), List.getElem?_map, List.getElem?_range hl]
      exact congrArg some hj.symm
    · rw [List.getElem?_eq_none (by rw [List.length_set, List.length_map, List.length_range]; omega), List.getElem?_eq_none (by rw [List.length_map, List.length_range]; omega)]
  · rw [List.getElem?_set_ne (Ne.symm e), List.getElem?_map, List.getElem?_map]
    by_cases hl : i < nf (ln c)
    · rw [List.getElem?_range hl]
      exact congrArg some (ho i e).symm
    · rw [List.getElem?_eq_none (by rw [List.length_range]; omega)]
      rfl
theorem flds_sI {G : ZG} {σ : ZS} {c j : Nat} {v : Int32} (hf : ft (ln c) j = 0) : (flds G σ c).set j (.int v) = flds G (sI σ c j v) c := flds_set (by unfold fv; rw [if_pos hf, sI_at]; simp [upd]) fun i hi => by
  unfold fv
  rw [sI_at]
  simp [upd, hi, sI]
theorem flds_sJ {G : ZG} {σ : ZS} {c j : Nat} {v : Int64} (hf : ft (ln c) j = 1) : (flds G σ c).set j (.long v) = flds G (sJ σ c j v) c := flds_set (by unfold fv; rw [if_neg (by omega), if_pos hf, sJ_at]; simp [vp_updL]) fun i hi => by
  unfold fv
  rw [sJ_at]
  simp [vp_updL, hi, sJ]
-- ===== the walk: the machine at pc with these locals, this stack, the cells as σ says =====
abbrev ZY : Type := Program × Env × State × MethodId × Array Value × List Frame × Method × Code × (Nat → Prop) × (State → Prop)
abbrev ZE : Type := Launch × Room × Nat × Nat × Nat
def Z (E : ZE) (Y : ZY) (G : ZG) (σ : ZS) (lv : List (Nat × Value)) (st : List Value) (pc : Nat) : Prop :=
  match E, Y with
  | (l, R, nL, cells, slots), (p, e, s, m, args, below, meth, c, A, Q) => ∀ (H : Heap) (locs : List Loc) (ls : Array Slot), va_P G.2.1 vwCl (zW G σ) H → va_S A s.heap H locs → lv_has ls nL lv → W p l e R s m args below meth c H locs cells slots Q (F0 m pc ls st)
def zOk (E : ZE) (Y : ZY) (G : ZG) (cc : ByteArray) (own : String) (ret : Option FieldType) : Prop :=
  match E, Y with
  | (_, _, nL, _, _), (p, _, s, m, args, _, meth, c, A, _) => p.tables.exec = Jvm.exec ∧ c.code = cc ∧ c.maxLocals = nL ∧ s.vm.findClass own = some m.cls ∧ (∀ w ∈ WA, w.before args s = true) ∧ meth.sig.returnType = ret ∧ meth.locks = false ∧ va_K G.2.1 vwCl (zT G) s ∧ zI G ∧ (∀ q : Nat, zA G s.heap.size q → A q) ∧ zNW s
def zRet (E : ZE) (Y : ZY) (G : ZG) (ov : Option Value) (σ' : ZS) : Prop :=
  match E, Y with
  | (_, _, _, cells, slots), (_, _, s, _, args, below, _, _, A, Q) => Q = MQ below (fun _ st oc t => (oc = .returned ov ∧ zB G σ' t) ∧ va_F A st t) args s cells slots A
theorem z_sub {E : ZE} {Y : ZY} {G : ZG} {σ : ZS} {lv lv' : List (Nat × Value)} {st : List Value} {pc : Nat} (ks : List Nat) (hl : lv_pick lv ks = lv') (k : Z E Y G σ lv' st pc) : Z E Y G σ lv st pc := by
  obtain ⟨l, R, nL, cells, slots⟩ := E
  obtain ⟨p, e, s, m, args, below, meth, c, A, Q⟩ := Y
  exact fun H locs ls hP hS h => k H locs ls hP hS (lv_sub h ks hl)
theorem z_iconst {E : ZE} {Y : ZY} {G : ZG} {cc : ByteArray} {own : String} {ret : Option FieldType} (h : zOk E Y G cc own ret) {σ : ZS} {lv : List (Nat × Value)} {st : List Value} {pc : Nat} {n : Int} {v : Int32} (hdg : decode cc pc = .ok (.iconst n, 1)) (hv : Int32.ofInt n = v) (k : Z E Y G σ lv (.int v :: st) (pc + 1)) : Z E Y G σ lv (st) pc := by
  obtain ⟨l, R, nL, cells, slots⟩ := E
  obtain ⟨p, e, s, m, args, below, meth, c, A, Q⟩ := Y
  obtain ⟨hx, hb, hok⟩ := h
  intro H locs ls hP hS hl
  exact lv_iconst hx hb hdg hv (k H locs ls hP hS hl)

theorem z_bipush {E : ZE} {Y : ZY} {G : ZG} {cc : ByteArray} {own : String} {ret : Option FieldType} (h : zOk E Y G cc own ret) {σ : ZS} {lv : List (Nat × Value)} {st : List Value} {pc : Nat} {n : Int} {v : Int32} (hdg : decode cc pc = .ok (.bipush n, 2)) (hv : (Int8.ofInt n).toInt32 = v) (k : Z E Y G σ lv (.int v :: st) (pc + 2)) : Z E Y G σ lv (st) pc := by
  obtain ⟨l, R, nL, cells, slots⟩ := E
  obtain ⟨p, e, s, m, args, below, meth, c, A, Q⟩ := Y
  obtain ⟨hx, hb, hok⟩ := h
  intro H locs ls hP hS hl
  exact lv_bipush hx hb hdg hv (k H locs ls hP hS hl)

theorem z_sipush {E : ZE} {Y : ZY} {G : ZG} {cc : ByteArray} {own : String} {ret : Option FieldType} (h : zOk E Y G cc own ret) {σ : ZS} {lv : List (Nat × Value)} {st : List Value} {pc : Nat} {n : Int} {v : Int32} (hdg : decode cc pc = .ok (.sipush n, 3)) (hv : (Int16.ofInt n).toInt32 = v) (k : Z E Y G σ lv (.int v :: st) (pc + 3)) : Z E Y G σ lv (st) pc := by
  obtain ⟨l, R, nL, cells, slots⟩ := E
  obtain ⟨p, e, s, m, args, below, meth, c, A, Q⟩ := Y
  obtain ⟨hx, hb, hok⟩ := h
  intro H locs ls hP hS hl
  exact lv_sipush hx hb hdg hv (k H locs ls hP hS hl)

theorem z_lconst {E : ZE} {Y : ZY} {G : ZG} {cc : ByteArray} {own : String} {ret : Option FieldType} (h : zOk E Y G cc own ret) {σ : ZS} {lv : List (Nat × Value)} {st : List Value} {pc : Nat} {n : Fin 2} {v : Int64} (hdg : decode cc pc = .ok (.lconst n, 1)) (hv : Int64.ofNat (n : Nat) = v) (k : Z E Y G σ lv (.long v :: st) (pc + 1)) : Z E Y G σ lv (st) pc := by
  obtain ⟨l, R, nL, cells, slots⟩ := E
  obtain ⟨p, e, s, m, args, below, meth, c, A, Q⟩ := Y
  obtain ⟨hx, hb, hok⟩ := h
  intro H locs ls hP hS hl
  exact lv_lconst hx hb hdg hv (k H locs ls hP hS hl)

theorem z_iload_n {E : ZE} {Y : ZY} {G : ZG} {cc : ByteArray} {own : String} {ret : Option FieldType} (h : zOk E Y G cc own ret) {σ : ZS} {lv : List (Nat × Value)} {st : List Value} {pc : Nat} {kk : Fin 4} {i : Nat} {x : Int32} (hdg : decode cc pc = .ok (.iload_n kk, 1)) (hi : (kk : Nat) = i) (q : Nat) (hq : lv[q]? = some (i, .int x)) (k : Z E Y G σ lv (.int x :: st) (pc + 1)) : Z E Y G σ lv (st) pc := by
  obtain ⟨l, R, nL, cells, slots⟩ := E
  obtain ⟨p, e, s, m, args, below, meth, c, A, Q⟩ := Y
  obtain ⟨hx, hb, hok⟩ := h
  intro H locs ls hP hS hl
  exact lv_iload_n hx hb hdg hi (lv_at hl q hq) (k H locs ls hP hS hl)

theorem z_iload {E : ZE} {Y : ZY} {G : ZG} {cc : ByteArray} {own : String} {ret : Option FieldType} (h : zOk E Y G cc own ret) {σ : ZS} {lv : List (Nat × Value)} {st : List Value} {pc : Nat} {i : Nat} {x : Int32} (hdg : decode cc pc = .ok (.iload i, 2)) (q : Nat) (hq : lv[q]? = some (i, .int x)) (k : Z E Y G σ lv (.int x :: st) (pc + 2)) : Z E Y G σ lv (st) pc := by
  obtain ⟨l, R, nL, cells, slots⟩ := E
  obtain ⟨p, e, s, m, args, below, meth, c, A, Q⟩ := Y
  obtain ⟨hx, hb, hok⟩ := h
  intro H locs ls hP hS hl
  exact lv_iload hx hb hdg (lv_at hl q hq) (k H locs ls hP hS hl)

theorem z_lload_n {E : ZE} {Y : ZY} {G : ZG} {cc : ByteArray} {own : String} {ret : Option FieldType} (h : zOk E Y G cc own ret) {σ : ZS} {lv : List (Nat × Value)} {st : List Value} {pc : Nat} {kk : Fin 4} {i : Nat} {x : Int64} (hdg : decode cc pc = .ok (.lload_n kk, 1)) (hi : (kk : Nat) = i) (q : Nat) (hq : lv[q]? = some (i, .long x)) (k : Z E Y G σ lv (.long x :: st) (pc + 1)) : Z E Y G σ lv (st) pc := by
  obtain ⟨l, R, nL, cells, slots⟩ := E
  obtain ⟨p, e, s, m, args, below, meth, c, A, Q⟩ := Y
  obtain ⟨hx, hb, hok⟩ := h
  intro H locs ls hP hS hl
  exact lv_lload_n hx hb hdg hi (lv_at hl q hq) (k H locs ls hP hS hl)

theorem z_lload {E : ZE} {Y : ZY} {G : ZG} {cc : ByteArray} {own : String} {ret : Option FieldType} (h : zOk E Y G cc own ret) {σ : ZS} {lv : List (Nat × Value)} {st : List Value} {pc : Nat} {i : Nat} {x : Int64} (hdg : decode cc pc = .ok (.lload i, 2)) (q : Nat) (hq : lv[q]? = some (i, .long x)) (k : Z E Y G σ lv (.long x :: st) (pc + 2)) : Z E Y G σ lv (st) pc := by
  obtain ⟨l, R, nL, cells, slots⟩ := E
  obtain ⟨p, e, s, m, args, below, meth, c, A, Q⟩ := Y
  obtain ⟨hx, hb, hok⟩ := h
  intro H locs ls hP hS hl
  exact lv_lload hx hb hdg (lv_at hl q hq) (k H locs ls hP hS hl)

theorem z_fload_n {E : ZE} {Y : ZY} {G : ZG} {cc : ByteArray} {own : String} {ret : Option FieldType} (h : zOk E Y G cc own ret) {σ : ZS} {lv : List (Nat × Value)} {st : List Value} {pc : Nat} {kk : Fin 4} {i : Nat} {x : UInt32} (hdg : decode cc pc = .ok (.fload_n kk, 1)) (hi : (kk : Nat) = i) (q : Nat) (hq : lv[q]? = some (i, .float x)) (k : Z E Y G σ lv (.float x :: st) (pc + 1)) : Z E Y G σ lv (st) pc := by
  obtain ⟨l, R, nL, cells, slots⟩ := E
  obtain ⟨p, e, s, m, args, below, meth, c, A, Q⟩ := Y
  obtain ⟨hx, hb, hok⟩ := h
  intro H locs ls hP hS hl
  exact lv_fload_n hx hb hdg hi (lv_at hl q hq) (k H locs ls hP hS hl)

theorem z_fload {E : ZE} {Y : ZY} {G : ZG} {cc : ByteArray} {own : String} {ret : Option FieldType} (h : zOk E Y G cc own ret) {σ : ZS} {lv : List (Nat × Value)} {st : List Value} {pc : Nat} {i : Nat} {x : UInt32} (hdg : decode cc pc = .ok (.fload i, 2)) (q : Nat) (hq : lv[q]? = some (i, .float x)) (k : Z E Y G σ lv (.float x :: st) (pc + 2)) : Z E Y G σ lv (st) pc := by
  obtain ⟨l, R, nL, cells, slots⟩ := E
  obtain ⟨p, e, s, m, args, below, meth, c, A, Q⟩ := Y
  obtain ⟨hx, hb, hok⟩ := h
  intro H locs ls hP hS hl
  exact lv_fload hx hb hdg (lv_at hl q hq) (k H locs ls hP hS hl)

theorem z_aload_n {E : ZE} {Y : ZY} {G : ZG} {cc : ByteArray} {own : String} {ret : Option FieldType} (h : zOk E Y G cc own ret) {σ : ZS} {lv : List (Nat × Value)} {st : List Value} {pc : Nat} {kk : Fin 4} {i : Nat} {x : Nat} (hdg : decode cc pc = .ok (.aload_n kk, 1)) (hi : (kk : Nat) = i) (q : Nat) (hq : lv[q]? = some (i, .ref x)) (k : Z E Y G σ lv (.ref x :: st) (pc + 1)) : Z E Y G σ lv (st) pc := by
  obtain ⟨l, R, nL, cells, slots⟩ := E
  obtain ⟨p, e, s, m, args, below, meth, c, A, Q⟩ := Y
  obtain ⟨hx, hb, hok⟩ := h
  intro H locs ls hP hS hl
  exact lv_aload_n hx hb hdg hi (lv_at hl q hq) (k H locs ls hP hS hl)

theorem z_aload {E : ZE} {Y : ZY} {G : ZG} {cc : ByteArray} {own : String} {ret : Option FieldType} (h : zOk E Y G cc own ret) {σ : ZS} {lv : List (Nat × Value)} {st : List Value} {pc : Nat} {i : Nat} {x : Nat} (hdg : decode cc pc = .ok (.aload i, 2)) (q : Nat) (hq : lv[q]? = some (i, .ref x)) (k : Z E Y G σ lv (.ref x :: st) (pc + 2)) : Z E Y G σ lv (st) pc := by
  obtain ⟨l, R, nL, cells, slots⟩ := E
  obtain ⟨p, e, s, m, args, below, meth, c, A, Q⟩ := Y
  obtain ⟨hx, hb, hok⟩ := h
  intro H locs ls hP hS hl
  exact lv_aload hx hb hdg (lv_at hl q hq) (k H locs ls hP hS hl)

theorem z_iadd {E : ZE} {Y : ZY} {G : ZG} {cc : ByteArray} {own : String} {ret : Option FieldType} (h : zOk E Y G cc own ret) {σ : ZS} {lv : List (Nat × Value)} {st : List Value} {pc : Nat} {x y : Int32} (hdg : decode cc pc = .ok (.iadd, 1)) (k : Z E Y G σ lv (.int (x + y) :: st) (pc + 1)) : Z E Y G σ lv (.int y :: .int x :: st) pc := by
  obtain ⟨l, R, nL, cells, slots⟩ := E
  obtain ⟨p, e, s, m, args, below, meth, c, A, Q⟩ := Y
  obtain ⟨hx, hb, hok⟩ := h
  intro H locs ls hP hS hl
  exact lv_iadd hx hb hdg (k H locs ls hP hS hl)

theorem z_isub {E : ZE} {Y : ZY} {G : ZG} {cc : ByteArray} {own : String} {ret : Option FieldType} (h : zOk E Y G cc own ret) {σ : ZS} {lv : List (Nat × Value)} {st : List Value} {pc : Nat} {x y : Int32} (hdg : decode cc pc = .ok (.isub, 1)) (k : Z E Y G σ lv (.int (x - y) :: st) (pc + 1)) : Z E Y G σ lv (.int y :: .int x :: st) pc := by
  obtain ⟨l, R, nL, cells, slots⟩ := E
  obtain ⟨p, e, s, m, args, below, meth, c, A, Q⟩ := Y
  obtain ⟨hx, hb, hok⟩ := h
  intro H locs ls hP hS hl
  exact lv_isub hx hb hdg (k H locs ls hP hS hl)

theorem z_imul {E : ZE} {Y : ZY} {G : ZG} {cc : ByteArray} {own : String} {ret : Option FieldType} (h : zOk E Y G cc own ret) {σ : ZS} {lv : List (Nat × Value)} {st : List Value} {pc : Nat} {x y : Int32} (hdg : decode cc pc = .ok (.imul, 1)) (k : Z E Y G σ lv (.int (x * y) :: st) (pc + 1)) : Z E Y G σ lv (.int y :: .int x :: st) pc := by
  obtain ⟨l, R, nL, cells, slots⟩ := E
  obtain ⟨p, e, s, m, args, below, meth, c, A, Q⟩ := Y
  obtain ⟨hx, hb, hok⟩ := h
  intro H locs ls hP hS hl
  exact lv_imul hx hb hdg (k H locs ls hP hS hl)

theorem z_iand {E : ZE} {Y : ZY} {G : ZG} {cc : ByteArray} {own : String} {ret : Option FieldType} (h : zOk E Y G cc own ret) {σ : ZS} {lv : List (Nat × Value)} {st : List Value} {pc : Nat} {x y : Int32} (hdg : decode cc pc = .ok (.iand, 1)) (k : Z E Y G σ lv (.int (x &&& y) :: st) (pc + 1)) : Z E Y G σ lv (.int y :: .int x :: st) pc := by
  obtain ⟨l, R, nL, cells, slots⟩ := E
  obtain ⟨p, e, s, m, args, below, meth, c, A, Q⟩ := Y
  obtain ⟨hx, hb, hok⟩ := h
  intro H locs ls hP hS hl
  exact lv_iand hx hb hdg (k H locs ls hP hS hl)

theorem z_ior {E : ZE} {Y : ZY} {G : ZG} {cc : ByteArray} {own : String} {ret : Option FieldType} (h : zOk E Y G cc own ret) {σ : ZS} {lv : List (Nat × Value)} {st : List Value} {pc : Nat} {x y : Int32} (hdg : decode cc pc = .ok (.ior, 1)) (k : Z E Y G σ lv (.int (x ||| y) :: st) (pc + 1)) : Z E Y G σ lv (.int y :: .int x :: st) pc := by
  obtain ⟨l, R, nL, cells, slots⟩ := E
  obtain ⟨p, e, s, m, args, below, meth, c, A, Q⟩ := Y
  obtain ⟨hx, hb, hok⟩ := h
  intro H locs ls hP hS hl
  exact lv_ior hx hb hdg (k H locs ls hP hS hl)

theorem z_ixor {E : ZE} {Y : ZY} {G : ZG} {cc : ByteArray} {own : String} {ret : Option FieldType} (h : zOk E Y G cc own ret) {σ : ZS} {lv : List (Nat × Value)} {st : List Value} {pc : Nat} {x y : Int32} (hdg : decode cc pc = .ok (.ixor, 1)) (k : Z E Y G σ lv (.int (x ^^^ y) :: st) (pc + 1)) : Z E Y G σ lv (.int y :: .int x :: st) pc := by
  obtain ⟨l, R, nL, cells, slots⟩ := E
  obtain ⟨p, e, s, m, args, below, meth, c, A, Q⟩ := Y
  obtain ⟨hx, hb, hok⟩ := h
  intro H locs ls hP hS hl
  exact lv_ixor hx hb hdg (k H locs ls hP hS hl)

theorem z_idiv {E : ZE} {Y : ZY} {G : ZG} {cc : ByteArray} {own : String} {ret : Option FieldType} (h : zOk E Y G cc own ret) {σ : ZS} {lv : List (Nat × Value)} {st : List Value} {pc : Nat} {x y : Int32} (hdg : decode cc pc = .ok (.idiv, 1)) (hne : ¬ y = 0) (k : Z E Y G σ lv (.int (x / y) :: st) (pc + 1)) : Z E Y G σ lv (.int y :: .int x :: st) pc := by
  obtain ⟨l, R, nL, cells, slots⟩ := E
  obtain ⟨p, e, s, m, args, below, meth, c, A, Q⟩ := Y
  obtain ⟨hx, hb, hok⟩ := h
  intro H locs ls hP hS hl
  exact lv_idiv hx hb hdg hne (k H locs ls hP hS hl)

theorem z_irem {E : ZE} {Y : ZY} {G : ZG} {cc : ByteArray} {own : String} {ret : Option FieldType} (h : zOk E Y G cc own ret) {σ : ZS} {lv : List (Nat × Value)} {st : List Value} {pc : Nat} {x y : Int32} (hdg : decode cc pc = .ok (.irem, 1)) (hne : ¬ y = 0) (k : Z E Y G σ lv (.int (irm x y) :: st) (pc + 1)) : Z E Y G σ lv (.int y :: .int x :: st) pc := by
  obtain ⟨l, R, nL, cells, slots⟩ := E
  obtain ⟨p, e, s, m, args, below, meth, c, A, Q⟩ := Y
  obtain ⟨hx, hb, hok⟩ := h
  intro H locs ls hP hS hl
  exact lv_irem hx hb hdg hne (k H locs ls hP hS hl)

theorem z_ineg {E : ZE} {Y : ZY} {G : ZG} {cc : ByteArray} {own : String} {ret : Option FieldType} (h : zOk E Y G cc own ret) {σ : ZS} {lv : List (Nat × Value)} {st : List Value} {pc : Nat} {x : Int32} (hdg : decode cc pc = .ok (.ineg, 1)) (k : Z E Y G σ lv (.int (-x) :: st) (pc + 1)) : Z E Y G σ lv (.int x :: st) pc := by
  obtain ⟨l, R, nL, cells, slots⟩ := E
  obtain ⟨p, e, s, m, args, below, meth, c, A, Q⟩ := Y
  obtain ⟨hx, hb, hok⟩ := h
  intro H locs ls hP hS hl
  exact lv_ineg hx hb hdg (k H locs ls hP hS hl)

theorem z_ladd {E : ZE} {Y : ZY} {G : ZG} {cc : ByteArray} {own : String} {ret : Option FieldType} (h : zOk E Y G cc own ret) {σ : ZS} {lv : List (Nat × Value)} {st : List Value} {pc : Nat} {x y : Int64} (hdg : decode cc pc = .ok (.ladd, 1)) (k : Z E Y G σ lv (.long (x + y) :: st) (pc + 1)) : Z E Y G σ lv (.long y :: .long x :: st) pc := by
  obtain ⟨l, R, nL, cells, slots⟩ := E
  obtain ⟨p, e, s, m, args, below, meth, c, A, Q⟩ := Y
  obtain ⟨hx, hb, hok⟩ := h
  intro H locs ls hP hS hl
  exact lv_ladd hx hb hdg (k H locs ls hP hS hl)

theorem z_lsub {E : ZE} {Y : ZY} {G : ZG} {cc : ByteArray} {own : String} {ret : Option FieldType} (h : zOk E Y G cc own ret) {σ : ZS} {lv : List (Nat × Value)} {st : List Value} {pc : Nat} {x y : Int64} (hdg : decode cc pc = .ok (.lsub, 1)) (k : Z E Y G σ lv (.long (x - y) :: st) (pc + 1)) : Z E Y G σ lv (.long y :: .long x :: st) pc := by
  obtain ⟨l, R, nL, cells, slots⟩ := E
  obtain ⟨p, e, s, m, args, below, meth, c, A, Q⟩ := Y
  obtain ⟨hx, hb, hok⟩ := h
  intro H locs ls hP hS hl
  exact lv_lsub hx hb hdg (k H locs ls hP hS hl)

theorem z_lmul {E : ZE} {Y : ZY} {G : ZG} {cc : ByteArray} {own : String} {ret : Option FieldType} (h : zOk E Y G cc own ret) {σ : ZS} {lv : List (Nat × Value)} {st : List Value} {pc : Nat} {x y : Int64} (hdg : decode cc pc = .ok (.lmul, 1)) (k : Z E Y G σ lv (.long (x * y) :: st) (pc + 1)) : Z E Y G σ lv (.long y :: .long x :: st) pc := by
  obtain ⟨l, R, nL, cells, slots⟩ := E
  obtain ⟨p, e, s, m, args, below, meth, c, A, Q⟩ := Y
  obtain ⟨hx, hb, hok⟩ := h
  intro H locs ls hP hS hl
  exact lv_lmul hx hb hdg (k H locs ls hP hS hl)

theorem z_land {E : ZE} {Y : ZY} {G : ZG} {cc : ByteArray} {own : String} {ret : Option FieldType} (h : zOk E Y G cc own ret) {σ : ZS} {lv : List (Nat × Value)} {st : List Value} {pc : Nat} {x y : Int64} (hdg : decode cc pc = .ok (.land, 1)) (k : Z E Y G σ lv (.long (x &&& y) :: st) (pc + 1)) : Z E Y G σ lv (.long y :: .long x :: st) pc := by
  obtain ⟨l, R, nL, cells, slots⟩ := E
  obtain ⟨p, e, s, m, args, below, meth, c, A, Q⟩ := Y
  obtain ⟨hx, hb, hok⟩ := h
  intro H locs ls hP hS hl
  exact lv_land hx hb hdg (k H locs ls hP hS hl)

theorem z_lor {E : ZE} {Y : ZY} {G : ZG} {cc : ByteArray} {own : String} {ret : Option FieldType} (h : zOk E Y G cc own ret) {σ : ZS} {lv : List (Nat × Value)} {st : List Value} {pc : Nat} {x y : Int64} (hdg : decode cc pc = .ok (.lor, 1)) (k : Z E Y G σ lv (.long (x ||| y) :: st) (pc + 1)) : Z E Y G σ lv (.long y :: .long x :: st) pc := by
  obtain ⟨l, R, nL, cells, slots⟩ := E
  obtain ⟨p, e, s, m, args, below, meth, c, A, Q⟩ := Y
  obtain ⟨hx, hb, hok⟩ := h
  intro H locs ls hP hS hl
  exact lv_lor hx hb hdg (k H locs ls hP hS hl)

theorem z_lxor {E : ZE} {Y : ZY} {G : ZG} {cc : ByteArray} {own : String} {ret : Option FieldType} (h : zOk E Y G cc own ret) {σ : ZS} {lv : List (Nat × Value)} {st : List Value} {pc : Nat} {x y : Int64} (hdg : decode cc pc = .ok (.lxor, 1)) (k : Z E Y G σ lv (.long (x ^^^ y) :: st) (pc + 1)) : Z E Y G σ lv (.long y :: .long x :: st) pc := by
  obtain ⟨l, R, nL, cells, slots⟩ := E
  obtain ⟨p, e, s, m, args, below, meth, c, A, Q⟩ := Y
  obtain ⟨hx, hb, hok⟩ := h
  intro H locs ls hP hS hl
  exact lv_lxor hx hb hdg (k H locs ls hP hS hl)

theorem z_ldiv {E : ZE} {Y : ZY} {G : ZG} {cc : ByteArray} {own : String} {ret : Option FieldType} (h : zOk E Y G cc own ret) {σ : ZS} {lv : List (Nat × Value)} {st : List Value} {pc : Nat} {x y : Int64} (hdg : decode cc pc = .ok (.ldiv, 1)) (hne : ¬ y = 0) (k : Z E Y G σ lv (.long (x / y) :: st) (pc + 1)) : Z E Y G σ lv (.long y :: .long x :: st) pc := by
  obtain ⟨l, R, nL, cells, slots⟩ := E
  obtain ⟨p, e, s, m, args, below, meth, c, A, Q⟩ := Y
  obtain ⟨hx, hb, hok⟩ := h
  intro H locs ls hP hS hl
  exact lv_ldiv hx hb hdg hne (k H locs ls hP hS hl)

theorem z_lrem {E : ZE} {Y : ZY} {G : ZG} {cc : ByteArray} {own : String} {ret : Option FieldType} (h : zOk E Y G cc own ret) {σ : ZS} {lv : List (Nat × Value)} {st : List Value} {pc : Nat} {x y : Int64} (hdg : decode cc pc = .ok (.lrem, 1)) (hne : ¬ y = 0) (k : Z E Y G σ lv (.long (lrm x y) :: st) (pc + 1)) : Z E Y G σ lv (.long y :: .long x :: st) pc := by
  obtain ⟨l, R, nL, cells, slots⟩ := E
  obtain ⟨p, e, s, m, args, below, meth, c, A, Q⟩ := Y
  obtain ⟨hx, hb, hok⟩ := h
  intro H locs ls hP hS hl
  exact lv_lrem hx hb hdg hne (k H locs ls hP hS hl)

theorem z_lneg {E : ZE} {Y : ZY} {G : ZG} {cc : ByteArray} {own : String} {ret : Option FieldType} (h : zOk E Y G cc own ret) {σ : ZS} {lv : List (Nat × Value)} {st : List Value} {pc : Nat} {x : Int64} (hdg : decode cc pc = .ok (.lneg, 1)) (k : Z E Y G σ lv (.long (-x) :: st) (pc + 1)) : Z E Y G σ lv (.long x :: st) pc := by
  obtain ⟨l, R, nL, cells, slots⟩ := E
  obtain ⟨p, e, s, m, args, below, meth, c, A, Q⟩ := Y
  obtain ⟨hx, hb, hok⟩ := h
  intro H locs ls hP hS hl
  exact lv_lneg hx hb hdg (k H locs ls hP hS hl)

theorem z_ishl {E : ZE} {Y : ZY} {G : ZG} {cc : ByteArray} {own : String} {ret : Option FieldType} (h : zOk E Y G cc own ret) {σ : ZS} {lv : List (Nat × Value)} {st : List Value} {pc : Nat} {x y : Int32} (hdg : decode cc pc = .ok (.ishl, 1)) (k : Z E Y G σ lv (.int (x <<< (y &&& 31)) :: st) (pc + 1)) : Z E Y G σ lv (.int y :: .int x :: st) pc := by
  obtain ⟨l, R, nL, cells, slots⟩ := E
  obtain ⟨p, e, s, m, args, below, meth, c, A, Q⟩ := Y
  obtain ⟨hx, hb, hok⟩ := h
  intro H locs ls hP hS hl
  exact lv_ishl hx hb hdg (k H locs ls hP hS hl)

theorem z_ishr {E : ZE} {Y : ZY} {G : ZG} {cc : ByteArray} {own : String} {ret : Option FieldType} (h : zOk E Y G cc own ret) {σ : ZS} {lv : List (Nat × Value)} {st : List Value} {pc : Nat} {x y : Int32} (hdg : decode cc pc = .ok (.ishr, 1)) (k : Z E Y G σ lv (.int (x >>> (y &&& 31)) :: st) (pc + 1)) : Z E Y G σ lv (.int y :: .int x :: st) pc := by
  obtain ⟨l, R, nL, cells, slots⟩ := E
  obtain ⟨p, e, s, m, args, below, meth, c, A, Q⟩ := Y
  obtain ⟨hx, hb, hok⟩ := h
  intro H locs ls hP hS hl
  exact lv_ishr hx hb hdg (k H locs ls hP hS hl)

theorem z_iushr {E : ZE} {Y : ZY} {G : ZG} {cc : ByteArray} {own : String} {ret : Option FieldType} (h : zOk E Y G cc own ret) {σ : ZS} {lv : List (Nat × Value)} {st : List Value} {pc : Nat} {x y : Int32} (hdg : decode cc pc = .ok (.iushr, 1)) (k : Z E Y G σ lv (.int ((x.toUInt32 >>> (y.toUInt32 &&& Int32.toUInt32 31)).toInt32) :: st) (pc + 1)) : Z E Y G σ lv (.int y :: .int x :: st) pc := by
  obtain ⟨l, R, nL, cells, slots⟩ := E
  obtain ⟨p, e, s, m, args, below, meth, c, A, Q⟩ := Y
  obtain ⟨hx, hb, hok⟩ := h
  intro H locs ls hP hS hl
  exact lv_iushr hx hb hdg rfl (k H locs ls hP hS hl)

theorem z_i2l {E : ZE} {Y : ZY} {G : ZG} {cc : ByteArray} {own : String} {ret : Option FieldType} (h : zOk E Y G cc own ret) {σ : ZS} {lv : List (Nat × Value)} {st : List Value} {pc : Nat} {x : Int32} (hdg : decode cc pc = .ok (.i2l, 1)) (k : Z E Y G σ lv (.long x.toInt64 :: st) (pc + 1)) : Z E Y G σ lv (.int x :: st) pc := by
  obtain ⟨l, R, nL, cells, slots⟩ := E
  obtain ⟨p, e, s, m, args, below, meth, c, A, Q⟩ := Y
  obtain ⟨hx, hb, hok⟩ := h
  intro H locs ls hP hS hl
  exact lv_i2l hx hb hdg rfl (k H locs ls hP hS hl)

theorem z_l2i {E : ZE} {Y : ZY} {G : ZG} {cc : ByteArray} {own : String} {ret : Option FieldType} (h : zOk E Y G cc own ret) {σ : ZS} {lv : List (Nat × Value)} {st : List Value} {pc : Nat} {x : Int64} (hdg : decode cc pc = .ok (.l2i, 1)) (k : Z E Y G σ lv (.int x.toInt32 :: st) (pc + 1)) : Z E Y G σ lv (.long x :: st) pc := by
  obtain ⟨l, R, nL, cells, slots⟩ := E
  obtain ⟨p, e, s, m, args, below, meth, c, A, Q⟩ := Y
  obtain ⟨hx, hb, hok⟩ := h
  intro H locs ls hP hS hl
  exact lv_l2i hx hb hdg rfl (k H locs ls hP hS hl)

theorem z_l2f {E : ZE} {Y : ZY} {G : ZG} {cc : ByteArray} {own : String} {ret : Option FieldType} (h : zOk E Y G cc own ret) {σ : ZS} {lv : List (Nat × Value)} {st : List Value} {pc : Nat} {x : Int64} (hdg : decode cc pc = .ok (.l2f, 1)) (k : Z E Y G σ lv (.float (FP.l2f x) :: st) (pc + 1)) : Z E Y G σ lv (.long x :: st) pc := by
  obtain ⟨l, R, nL, cells, slots⟩ := E
  obtain ⟨p, e, s, m, args, below, meth, c, A, Q⟩ := Y
  obtain ⟨hx, hb, hok⟩ := h
  intro H locs ls hP hS hl
  exact lv_l2f hx hb hdg (k H locs ls hP hS hl)

theorem z_i2f {E : ZE} {Y : ZY} {G : ZG} {cc : ByteArray} {own : String} {ret : Option FieldType} (h : zOk E Y G cc own ret) {σ : ZS} {lv : List (Nat × Value)} {st : List Value} {pc : Nat} {x : Int32} (hdg : decode cc pc = .ok (.i2f, 1)) (k : Z E Y G σ lv (.float (FP.i2f x) :: st) (pc + 1)) : Z E Y G σ lv (.int x :: st) pc := by
  obtain ⟨l, R, nL, cells, slots⟩ := E
  obtain ⟨p, e, s, m, args, below, meth, c, A, Q⟩ := Y
  obtain ⟨hx, hb, hok⟩ := h
  intro H locs ls hP hS hl
  exact lv_i2f hx hb hdg (k H locs ls hP hS hl)

theorem z_f2i {E : ZE} {Y : ZY} {G : ZG} {cc : ByteArray} {own : String} {ret : Option FieldType} (h : zOk E Y G cc own ret) {σ : ZS} {lv : List (Nat × Value)} {st : List Value} {pc : Nat} {x : UInt32} (hdg : decode cc pc = .ok (.f2i, 1)) (k : Z E Y G σ lv (.int (FP.f2i x) :: st) (pc + 1)) : Z E Y G σ lv (.float x :: st) pc := by
  obtain ⟨l, R, nL, cells, slots⟩ := E
  obtain ⟨p, e, s, m, args, below, meth, c, A, Q⟩ := Y
  obtain ⟨hx, hb, hok⟩ := h
  intro H locs ls hP hS hl
  exact lv_f2i hx hb hdg (k H locs ls hP hS hl)

theorem z_fconst0 {E : ZE} {Y : ZY} {G : ZG} {cc : ByteArray} {own : String} {ret : Option FieldType} (h : zOk E Y G cc own ret) {σ : ZS} {lv : List (Nat × Value)} {st : List Value} {pc : Nat} (hdg : decode cc pc = .ok (.fconst 0, 1)) (k : Z E Y G σ lv (.float FP.fconst0 :: st) (pc + 1)) : Z E Y G σ lv (st) pc := by
  obtain ⟨l, R, nL, cells, slots⟩ := E
  obtain ⟨p, e, s, m, args, below, meth, c, A, Q⟩ := Y
  obtain ⟨hx, hb, hok⟩ := h
  intro H locs ls hP hS hl
  exact lv_fconst0 hx hb hdg (k H locs ls hP hS hl)

theorem z_fconst1 {E : ZE} {Y : ZY} {G : ZG} {cc : ByteArray} {own : String} {ret : Option FieldType} (h : zOk E Y G cc own ret) {σ : ZS} {lv : List (Nat × Value)} {st : List Value} {pc : Nat} (hdg : decode cc pc = .ok (.fconst 1, 1)) (k : Z E Y G σ lv (.float FP.fconst1 :: st) (pc + 1)) : Z E Y G σ lv (st) pc := by
  obtain ⟨l, R, nL, cells, slots⟩ := E
  obtain ⟨p, e, s, m, args, below, meth, c, A, Q⟩ := Y
  obtain ⟨hx, hb, hok⟩ := h
  intro H locs ls hP hS hl
  exact lv_fconst1 hx hb hdg (k H locs ls hP hS hl)

theorem z_fconst2 {E : ZE} {Y : ZY} {G : ZG} {cc : ByteArray} {own : String} {ret : Option FieldType} (h : zOk E Y G cc own ret) {σ : ZS} {lv : List (Nat × Value)} {st : List Value} {pc : Nat} (hdg : decode cc pc = .ok (.fconst 2, 1)) (k : Z E Y G σ lv (.float FP.fconst2 :: st) (pc + 1)) : Z E Y G σ lv (st) pc := by
  obtain ⟨l, R, nL, cells, slots⟩ := E
  obtain ⟨p, e, s, m, args, below, meth, c, A, Q⟩ := Y
  obtain ⟨hx, hb, hok⟩ := h
  intro H locs ls hP hS hl
  exact lv_fconst2 hx hb hdg (k H locs ls hP hS hl)

theorem z_fadd {E : ZE} {Y : ZY} {G : ZG} {cc : ByteArray} {own : String} {ret : Option FieldType} (h : zOk E Y G cc own ret) {σ : ZS} {lv : List (Nat × Value)} {st : List Value} {pc : Nat} {x y : UInt32} (hdg : decode cc pc = .ok (.fadd, 1)) (hne : nn32 (FP.fadd x y) = true) (k : Z E Y G σ lv (.float (FP.fadd x y) :: st) (pc + 1)) : Z E Y G σ lv (.float y :: .float x :: st) pc := by
  obtain ⟨l, R, nL, cells, slots⟩ := E
  obtain ⟨p, e, s, m, args, below, meth, c, A, Q⟩ := Y
  obtain ⟨hx, hb, hok⟩ := h
  intro H locs ls hP hS hl
  exact lv_fadd hx hb hdg (by unfold nn32 at hne; unfold vf_n32; simpa using hne) (k H locs ls hP hS hl)

theorem z_fsub {E : ZE} {Y : ZY} {G : ZG} {cc : ByteArray} {own : String} {ret : Option FieldType} (h : zOk E Y G cc own ret) {σ : ZS} {lv : List (Nat × Value)} {st : List Value} {pc : Nat} {x y : UInt32} (hdg : decode cc pc = .ok (.fsub, 1)) (hne : nn32 (FP.fsub x y) = true) (k : Z E Y G σ lv (.float (FP.fsub x y) :: st) (pc + 1)) : Z E Y G σ lv (.float y :: .float x :: st) pc := by
  obtain ⟨l, R, nL, cells, slots⟩ := E
  obtain ⟨p, e, s, m, args, below, meth, c, A, Q⟩ := Y
  obtain ⟨hx, hb, hok⟩ := h
  intro H locs ls hP hS hl
  exact lv_fsub hx hb hdg (by unfold nn32 at hne; unfold vf_n32; simpa using hne) (k H locs ls hP hS hl)

theorem z_fmul {E : ZE} {Y : ZY} {G : ZG} {cc : ByteArray} {own : String} {ret : Option FieldType} (h : zOk E Y G cc own ret) {σ : ZS} {lv : List (Nat × Value)} {st : List Value} {pc : Nat} {x y : UInt32} (hdg : decode cc pc = .ok (.fmul, 1)) (hne : nn32 (FP.fmul x y) = true) (k : Z E Y G σ lv (.float (FP.fmul x y) :: st) (pc + 1)) : Z E Y G σ lv (.float y :: .float x :: st) pc := by
  obtain ⟨l, R, nL, cells, slots⟩ := E
  obtain ⟨p, e, s, m, args, below, meth, c, A, Q⟩ := Y
  obtain ⟨hx, hb, hok⟩ := h
  intro H locs ls hP hS hl
  exact lv_fmul hx hb hdg (by unfold nn32 at hne; unfold vf_n32; simpa using hne) (k H locs ls hP hS hl)

theorem z_fdiv {E : ZE} {Y : ZY} {G : ZG} {cc : ByteArray} {own : String} {ret : Option FieldType} (h : zOk E Y G cc own ret) {σ : ZS} {lv : List (Nat × Value)} {st : List Value} {pc : Nat} {x y : UInt32} (hdg : decode cc pc = .ok (.fdiv, 1)) (hne : nn32 (FP.fdiv x y) = true) (k : Z E Y G σ lv (.float (FP.fdiv x y) :: st) (pc + 1)) : Z E Y G σ lv (.float y :: .float x :: st) pc := by
  obtain ⟨l, R, nL, cells, slots⟩ := E
  obtain ⟨p, e, s, m, args, below, meth, c, A, Q⟩ := Y
  obtain ⟨hx, hb, hok⟩ := h
  intro H locs ls hP hS hl
  exact lv_fdiv hx hb hdg (by unfold nn32 at hne; unfold vf_n32; simpa using hne) (k H locs ls hP hS hl)

theorem z_fneg {E : ZE} {Y : ZY} {G : ZG} {cc : ByteArray} {own : String} {ret : Option FieldType} (h : zOk E Y G cc own ret) {σ : ZS} {lv : List (Nat × Value)} {st : List Value} {pc : Nat} {x : UInt32} (hdg : decode cc pc = .ok (.fneg, 1)) (k : Z E Y G σ lv (.float (FP.fneg x) :: st) (pc + 1)) : Z E Y G σ lv (.float x :: st) pc := by
  obtain ⟨l, R, nL, cells, slots⟩ := E
  obtain ⟨p, e, s, m, args, below, meth, c, A, Q⟩ := Y
  obtain ⟨hx, hb, hok⟩ := h
  intro H locs ls hP hS hl
  exact lv_fneg hx hb hdg (k H locs ls hP hS hl)

theorem z_fcmp {E : ZE} {Y : ZY} {G : ZG} {cc : ByteArray} {own : String} {ret : Option FieldType} (h : zOk E Y G cc own ret) {σ : ZS} {lv : List (Nat × Value)} {st : List Value} {pc : Nat} {x y : UInt32} {op : CmpOp} (hdg : decode cc pc = .ok (.fcmp op, 1)) (k : Z E Y G σ lv (.int (Op.cmpValue (FP.fcmp x y) op) :: st) (pc + 1)) : Z E Y G σ lv (.float y :: .float x :: st) pc := by
  obtain ⟨l, R, nL, cells, slots⟩ := E
  obtain ⟨p, e, s, m, args, below, meth, c, A, Q⟩ := Y
  obtain ⟨hx, hb, hok⟩ := h
  intro H locs ls hP hS hl
  exact lv_fcmp hx hb hdg (k H locs ls hP hS hl)

theorem z_lcmp {E : ZE} {Y : ZY} {G : ZG} {cc : ByteArray} {own : String} {ret : Option FieldType} (h : zOk E Y G cc own ret) {σ : ZS} {lv : List (Nat × Value)} {st : List Value} {pc : Nat} {x y : Int64} (hdg : decode cc pc = .ok (.lcmp, 1)) (k : Z E Y G σ lv (.int (lg_cmp x y) :: st) (pc + 1)) : Z E Y G σ lv (.long y :: .long x :: st) pc := by
  obtain ⟨l, R, nL, cells, slots⟩ := E
  obtain ⟨p, e, s, m, args, below, meth, c, A, Q⟩ := Y
  obtain ⟨hx, hb, hok⟩ := h
  intro H locs ls hP hS hl
  exact W.lcmp hx hb hdg (k H locs ls hP hS hl)

theorem z_dup {E : ZE} {Y : ZY} {G : ZG} {cc : ByteArray} {own : String} {ret : Option FieldType} (h : zOk E Y G cc own ret) {σ : ZS} {lv : List (Nat × Value)} {st : List Value} {pc : Nat} {va : Value} (hdg : decode cc pc = .ok (.dup, 1)) (hva : va.category = 1) (k : Z E Y G σ lv (va :: va :: st) (pc + 1)) : Z E Y G σ lv (va :: st) pc := by
  obtain ⟨l, R, nL, cells, slots⟩ := E
  obtain ⟨p, e, s, m, args, below, meth, c, A, Q⟩ := Y
  obtain ⟨hx, hb, hok⟩ := h
  intro H locs ls hP hS hl
  exact lv_dup hx hb hdg hva (k H locs ls hP hS hl)

theorem z_pop {E : ZE} {Y : ZY} {G : ZG} {cc : ByteArray} {own : String} {ret : Option FieldType} (h : zOk E Y G cc own ret) {σ : ZS} {lv : List (Nat × Value)} {st : List Value} {pc : Nat} {va : Value} (hdg : decode cc pc = .ok (.pop, 1)) (hva : va.category = 1) (k : Z E Y G σ lv (st) (pc + 1)) : Z E Y G σ lv (va :: st) pc := by
  obtain ⟨l, R, nL, cells, slots⟩ := E
  obtain ⟨p, e, s, m, args, below, meth, c, A, Q⟩ := Y
  obtain ⟨hx, hb, hok⟩ := h
  intro H locs ls hP hS hl
  exact lv_pop hx hb hdg hva (k H locs ls hP hS hl)

theorem z_pop2 {E : ZE} {Y : ZY} {G : ZG} {cc : ByteArray} {own : String} {ret : Option FieldType} (h : zOk E Y G cc own ret) {σ : ZS} {lv : List (Nat × Value)} {st : List Value} {pc : Nat} {va : Value} (hdg : decode cc pc = .ok (.pop2, 1)) (hva : va.category = 2) (k : Z E Y G σ lv (st) (pc + 1)) : Z E Y G σ lv (va :: st) pc := by
  obtain ⟨l, R, nL, cells, slots⟩ := E
  obtain ⟨p, e, s, m, args, below, meth, c, A, Q⟩ := Y
  obtain ⟨hx, hb, hok⟩ := h
  intro H locs ls hP hS hl
  exact lv_pop2_2 hx hb hdg hva (k H locs ls hP hS hl)

theorem z_dup_x1 {E : ZE} {Y : ZY} {G : ZG} {cc : ByteArray} {own : String} {ret : Option FieldType} (h : zOk E Y G cc own ret) {σ : ZS} {lv : List (Nat × Value)} {st : List Value} {pc : Nat} {va vb : Value} (hdg : decode cc pc = .ok (.dup_x1, 1)) (hva : va.category = 1) (hvb : vb.category = 1) (k : Z E Y G σ lv (va :: vb :: va :: st) (pc + 1)) : Z E Y G σ lv (va :: vb :: st) pc := by
  obtain ⟨l, R, nL, cells, slots⟩ := E
  obtain ⟨p, e, s, m, args, below, meth, c, A, Q⟩ := Y
  obtain ⟨hx, hb, hok⟩ := h
  intro H locs ls hP hS hl
  exact lv_dup_x1 hx hb hdg hva hvb (k H locs ls hP hS hl)

theorem z_dup_x2 {E : ZE} {Y : ZY} {G : ZG} {cc : ByteArray} {own : String} {ret : Option FieldType} (h : zOk E Y G cc own ret) {σ : ZS} {lv : List (Nat × Value)} {st : List Value} {pc : Nat} {va vb vd : Value} (hdg : decode cc pc = .ok (.dup_x2, 1)) (hva : va.category = 1) (hvb : vb.category = 1) (hvd : vd.category = 1) (k : Z E Y G σ lv (va :: vb :: vd :: va :: st) (pc + 1)) : Z E Y G σ lv (va :: vb :: vd :: st) pc := by
  obtain ⟨l, R, nL, cells, slots⟩ := E
  obtain ⟨p, e, s, m, args, below, meth, c, A, Q⟩ := Y
  obtain ⟨hx, hb, hok⟩ := h
  intro H locs ls hP hS hl
  exact lv_dup_x2 hx hb hdg hva hvb hvd (k H locs ls hP hS hl)

theorem z_dup2_11 {E : ZE} {Y : ZY} {G : ZG} {cc : ByteArray} {own : String} {ret : Option FieldType} (h : zOk E Y G cc own ret) {σ : ZS} {lv : List (Nat × Value)} {st : List Value} {pc : Nat} {va vb : Value} (hdg : decode cc pc = .ok (.dup2, 1)) (hva : va.category = 1) (hvb : vb.category = 1) (k : Z E Y G σ lv (va :: vb :: va :: vb :: st) (pc + 1)) : Z E Y G σ lv (va :: vb :: st) pc := by
  obtain ⟨l, R, nL, cells, slots⟩ := E
  obtain ⟨p, e, s, m, args, below, meth, c, A, Q⟩ := Y
  obtain ⟨hx, hb, hok⟩ := h
  intro H locs ls hP hS hl
  exact lv_dup2_11 hx hb hdg hva hvb (k H locs ls hP hS hl)

theorem z_dup2_2 {E : ZE} {Y : ZY} {G : ZG} {cc : ByteArray} {own : String} {ret : Option FieldType} (h : zOk E Y G cc own ret) {σ : ZS} {lv : List (Nat × Value)} {st : List Value} {pc : Nat} {va : Value} (hdg : decode cc pc = .ok (.dup2, 1)) (hva : va.category = 2) (k : Z E Y G σ lv (va :: va :: st) (pc + 1)) : Z E Y G σ lv (va :: st) pc := by
  obtain ⟨l, R, nL, cells, slots⟩ := E
  obtain ⟨p, e, s, m, args, below, meth, c, A, Q⟩ := Y
  obtain ⟨hx, hb, hok⟩ := h
  intro H locs ls hP hS hl
  exact lv_dup2_2 hx hb hdg hva (k H locs ls hP hS hl)

theorem z_dup2_x1 {E : ZE} {Y : ZY} {G : ZG} {cc : ByteArray} {own : String} {ret : Option FieldType} (h : zOk E Y G cc own ret) {σ : ZS} {lv : List (Nat × Value)} {st : List Value} {pc : Nat} {va vb : Value} (hdg : decode cc pc = .ok (.dup2_x1, 1)) (hva : va.category = 2) (hvb : vb.category = 1) (k : Z E Y G σ lv (va :: vb :: va :: st) (pc + 1)) : Z E Y G σ lv (va :: vb :: st) pc := by
  obtain ⟨l, R, nL, cells, slots⟩ := E
  obtain ⟨p, e, s, m, args, below, meth, c, A, Q⟩ := Y
  obtain ⟨hx, hb, hok⟩ := h
  intro H locs ls hP hS hl
  exact lv_dup2_x1_2 hx hb hdg hva hvb (k H locs ls hP hS hl)

theorem z_dup2_x2 {E : ZE} {Y : ZY} {G : ZG} {cc : ByteArray} {own : String} {ret : Option FieldType} (h : zOk E Y G cc own ret) {σ : ZS} {lv : List (Nat × Value)} {st : List Value} {pc : Nat} {va vb vd : Value} (hdg : decode cc pc = .ok (.dup2_x2, 1)) (hva : va.category = 2) (hvb : vb.category = 1) (hvd : vd.category = 1) (k : Z E Y G σ lv (va :: vb :: vd :: va :: st) (pc + 1)) : Z E Y G σ lv (va :: vb :: vd :: st) pc := by
  obtain ⟨l, R, nL, cells, slots⟩ := E
  obtain ⟨p, e, s, m, args, below, meth, c, A, Q⟩ := Y
  obtain ⟨hx, hb, hok⟩ := h
  intro H locs ls hP hS hl
  exact lv_dup2_x2_2 hx hb hdg hva hvb hvd (k H locs ls hP hS hl)

theorem z_istore_n {E : ZE} {Y : ZY} {G : ZG} {cc : ByteArray} {own : String} {ret : Option FieldType} (h : zOk E Y G cc own ret) {σ : ZS} {lv : List (Nat × Value)} {st : List Value} {pc : Nat} {kk : Fin 4} {i : Nat} {x : Int32} {lv' : List (Nat × Value)} (hdg : decode cc pc = .ok (.istore_n kk, 1)) (hi : (kk : Nat) = i) (hn : Nat.ble (i + 1) E.2.2.1 = true) (hl' : (i, .int x) :: lv.filter (fun q => !(q.1 == i) && !(q.1 + 1 == i && q.2.category == 2)) = lv') (k : Z E Y G σ lv' st (pc + 1)) : Z E Y G σ lv (.int x :: st) pc := by
  obtain ⟨l, R, nL, cells, slots⟩ := E
  obtain ⟨p, e, s, m, args, below, meth, c, A, Q⟩ := Y
  obtain ⟨hx, hb, hok⟩ := h
  intro H locs ls hP hS hl
  have hn : i + 1 ≤ nL := Nat.le_of_ble_eq_true hn
  exact lv_istore_n hx hb hdg hi hl (by omega) hl' (fun ls hl => k H locs ls hP hS hl)

theorem z_istore {E : ZE} {Y : ZY} {G : ZG} {cc : ByteArray} {own : String} {ret : Option FieldType} (h : zOk E Y G cc own ret) {σ : ZS} {lv : List (Nat × Value)} {st : List Value} {pc : Nat} {i : Nat} {x : Int32} {lv' : List (Nat × Value)} (hdg : decode cc pc = .ok (.istore i, 2)) (hn : Nat.ble (i + 1) E.2.2.1 = true) (hl' : (i, .int x) :: lv.filter (fun q => !(q.1 == i) && !(q.1 + 1 == i && q.2.category == 2)) = lv') (k : Z E Y G σ lv' st (pc + 2)) : Z E Y G σ lv (.int x :: st) pc := by
  obtain ⟨l, R, nL, cells, slots⟩ := E
  obtain ⟨p, e, s, m, args, below, meth, c, A, Q⟩ := Y
  obtain ⟨hx, hb, hok⟩ := h
  intro H locs ls hP hS hl
  have hn : i + 1 ≤ nL := Nat.le_of_ble_eq_true hn
  exact lv_istore hx hb hdg hl (by omega) hl' (fun ls hl => k H locs ls hP hS hl)

theorem z_lstore_n {E : ZE} {Y : ZY} {G : ZG} {cc : ByteArray} {own : String} {ret : Option FieldType} (h : zOk E Y G cc own ret) {σ : ZS} {lv : List (Nat × Value)} {st : List Value} {pc : Nat} {kk : Fin 4} {i : Nat} {x : Int64} {lv' : List (Nat × Value)} (hdg : decode cc pc = .ok (.lstore_n kk, 1)) (hi : (kk : Nat) = i) (hn : Nat.ble (i + 2) E.2.2.1 = true) (hl' : (i, .long x) :: lv.filter (fun q => !(q.1 == i) && (!(q.1 == i + 1) && !(q.1 + 1 == i && q.2.category == 2))) = lv') (k : Z E Y G σ lv' st (pc + 1)) : Z E Y G σ lv (.long x :: st) pc := by
  obtain ⟨l, R, nL, cells, slots⟩ := E
  obtain ⟨p, e, s, m, args, below, meth, c, A, Q⟩ := Y
  obtain ⟨hx, hb, hok⟩ := h
  intro H locs ls hP hS hl
  have hn : i + 2 ≤ nL := Nat.le_of_ble_eq_true hn
  exact lv_lstore_n hx hb hdg hi hl (by omega) hl' (fun ls hl => k H locs ls hP hS hl)

theorem z_lstore {E : ZE} {Y : ZY} {G : ZG} {cc : ByteArray} {own : String} {ret : Option FieldType} (h : zOk E Y G cc own ret) {σ : ZS} {lv : List (Nat × Value)} {st : List Value} {pc : Nat} {i : Nat} {x : Int64} {lv' : List (Nat × Value)} (hdg : decode cc pc = .ok (.lstore i, 2)) (hn : Nat.ble (i + 2) E.2.2.1 = true) (hl' : (i, .long x) :: lv.filter (fun q => !(q.1 == i) && (!(q.1 == i + 1) && !(q.1 + 1 == i && q.2.category == 2))) = lv') (k : Z E Y G σ lv' st (pc + 2)) : Z E Y G σ lv (.long x :: st) pc := by
  obtain ⟨l, R, nL, cells, slots⟩ := E
  obtain ⟨p, e, s, m, args, below, meth, c, A, Q⟩ := Y
  obtain ⟨hx, hb, hok⟩ := h
  intro H locs ls hP hS hl
  have hn : i + 2 ≤ nL := Nat.le_of_ble_eq_true hn
  exact lv_lstore hx hb hdg hl (by omega) hl' (fun ls hl => k H locs ls hP hS hl)

theorem z_fstore_n {E : ZE} {Y : ZY} {G : ZG} {cc : ByteArray} {own : String} {ret : Option FieldType} (h : zOk E Y G cc own ret) {σ : ZS} {lv : List (Nat × Value)} {st : List Value} {pc : Nat} {kk : Fin 4} {i : Nat} {x : UInt32} {lv' : List (Nat × Value)} (hdg : decode cc pc = .ok (.fstore_n kk, 1)) (hi : (kk : Nat) = i) (hn : Nat.ble (i + 1) E.2.2.1 = true) (hl' : (i, .float x) :: lv.filter (fun q => !(q.1 == i) && !(q.1 + 1 == i && q.2.category == 2)) = lv') (k : Z E Y G σ lv' st (pc + 1)) : Z E Y G σ lv (.float x :: st) pc := by
  obtain ⟨l, R, nL, cells, slots⟩ := E
  obtain ⟨p, e, s, m, args, below, meth, c, A, Q⟩ := Y
  obtain ⟨hx, hb, hok⟩ := h
  intro H locs ls hP hS hl
  have hn : i + 1 ≤ nL := Nat.le_of_ble_eq_true hn
  exact lv_fstore_n hx hb hdg hi hl (by omega) hl' (fun ls hl => k H locs ls hP hS hl)

theorem z_fstore {E : ZE} {Y : ZY} {G : ZG} {cc : ByteArray} {own : String} {ret : Option FieldType} (h : zOk E Y G cc own ret) {σ : ZS} {lv : List (Nat × Value)} {st : List Value} {pc : Nat} {i : Nat} {x : UInt32} {lv' : List (Nat × Value)} (hdg : decode cc pc = .ok (.fstore i, 2)) (hn : Nat.ble (i + 1) E.2.2.1 = true) (hl' : (i, .float x) :: lv.filter (fun q => !(q.1 == i) && !(q.1 + 1 == i && q.2.category == 2)) = lv') (k : Z E Y G σ lv' st (pc + 2)) : Z E Y G σ lv (.float x :: st) pc := by
  obtain ⟨l, R, nL, cells, slots⟩ := E
  obtain ⟨p, e, s, m, args, below, meth, c, A, Q⟩ := Y
  obtain ⟨hx, hb, hok⟩ := h
  intro H locs ls hP hS hl
  have hn : i + 1 ≤ nL := Nat.le_of_ble_eq_true hn
  exact lv_fstore hx hb hdg hl (by omega) hl' (fun ls hl => k H locs ls hP hS hl)

theorem z_astore_n {E : ZE} {Y : ZY} {G : ZG} {cc : ByteArray} {own : String} {ret : Option FieldType} (h : zOk E Y G cc own ret) {σ : ZS} {lv : List (Nat × Value)} {st : List Value} {pc : Nat} {kk : Fin 4} {i : Nat} {x : Nat} {lv' : List (Nat × Value)} (hdg : decode cc pc = .ok (.astore_n kk, 1)) (hi : (kk : Nat) = i) (hn : Nat.ble (i + 1) E.2.2.1 = true) (hl' : (i, .ref x) :: lv.filter (fun q => !(q.1 == i) && !(q.1 + 1 == i && q.2.category == 2)) = lv') (k : Z E Y G σ lv' st (pc + 1)) : Z E Y G σ lv (.ref x :: st) pc := by
  obtain ⟨l, R, nL, cells, slots⟩ := E
  obtain ⟨p, e, s, m, args, below, meth, c, A, Q⟩ := Y
  obtain ⟨hx, hb, hok⟩ := h
  intro H locs ls hP hS hl
  have hn : i + 1 ≤ nL := Nat.le_of_ble_eq_true hn
  exact lv_astore_n hx hb hdg hi hl (by omega) hl' (fun ls hl => k H locs ls hP hS hl)

theorem z_astore {E : ZE} {Y : ZY} {G : ZG} {cc : ByteArray} {own : String} {ret : Option FieldType} (h : zOk E Y G cc own ret) {σ : ZS} {lv : List (Nat × Value)} {st : List Value} {pc : Nat} {i : Nat} {x : Nat} {lv' : List (Nat × Value)} (hdg : decode cc pc = .ok (.astore i, 2)) (hn : Nat.ble (i + 1) E.2.2.1 = true) (hl' : (i, .ref x) :: lv.filter (fun q => !(q.1 == i) && !(q.1 + 1 == i && q.2.category == 2)) = lv') (k : Z E Y G σ lv' st (pc + 2)) : Z E Y G σ lv (.ref x :: st) pc := by
  obtain ⟨l, R, nL, cells, slots⟩ := E
  obtain ⟨p, e, s, m, args, below, meth, c, A, Q⟩ := Y
  obtain ⟨hx, hb, hok⟩ := h
  intro H locs ls hP hS hl
  have hn : i + 1 ≤ nL := Nat.le_of_ble_eq_true hn
  exact lv_astore hx hb hdg hl (by omega) hl' (fun ls hl => k H locs ls hP hS hl)

theorem z_iinc {E : ZE} {Y : ZY} {G : ZG} {cc : ByteArray} {own : String} {ret : Option FieldType} (h : zOk E Y G cc own ret) {σ : ZS} {lv : List (Nat × Value)} {st : List Value} {pc : Nat} {i : Nat} {n : Int} {x v : Int32} {lv' : List (Nat × Value)} (hdg : decode cc pc = .ok (.iinc i n, 3)) (q : Nat) (hq : lv[q]? = some (i, .int x)) (hv : x + Int32.ofInt n = v) (hn : Nat.ble (i + 1) E.2.2.1 = true) (hl' : (i, Value.int v) :: lv.filter (fun q => !(q.1 == i) && !(q.1 + 1 == i && q.2.category == 2)) = lv') (k : Z E Y G σ lv' st (pc + 3)) : Z E Y G σ lv st pc := by
  obtain ⟨l, R, nL, cells, slots⟩ := E
  obtain ⟨p, e, s, m, args, below, meth, c, A, Q⟩ := Y
  obtain ⟨hx, hb, hok⟩ := h
  intro H locs ls hP hS hl
  have hn : i + 1 ≤ nL := Nat.le_of_ble_eq_true hn
  exact lv_iinc hx hb hdg hl (k := q) hq hv (by omega) hl' (fun ls hl => k H locs ls hP hS hl)

theorem z_if_eq {E : ZE} {Y : ZY} {G : ZG} {cc : ByteArray} {own : String} {ret : Option FieldType} (h : zOk E Y G cc own ret) {σ : ZS} {lv : List (Nat × Value)} {st : List Value} {pc : Nat} {x : Int32} {off : Int} {tgt : Nat} (hdg : decode cc pc = .ok (.ifCond .eq off, 3)) (ht : (pc : Int) + off = (tgt : Int)) (kt : x = 0 → Z E Y G σ lv st tgt) (kf : ¬ x = 0 → Z E Y G σ lv st (pc + 3)) : Z E Y G σ lv (.int x :: st) pc := by
  obtain ⟨l, R, nL, cells, slots⟩ := E
  obtain ⟨p, e, s, m, args, below, meth, c, A, Q⟩ := Y
  obtain ⟨hx, hb, hok⟩ := h
  intro H locs ls hP hS hl
  exact lv_if_eq hx hb hdg ht (fun q => kt q H locs ls hP hS hl) (fun q => kf q H locs ls hP hS hl)

theorem z_icmp_eq {E : ZE} {Y : ZY} {G : ZG} {cc : ByteArray} {own : String} {ret : Option FieldType} (h : zOk E Y G cc own ret) {σ : ZS} {lv : List (Nat × Value)} {st : List Value} {pc : Nat} {x y : Int32} {off : Int} {tgt : Nat} (hdg : decode cc pc = .ok (.if_icmp .eq off, 3)) (ht : (pc : Int) + off = (tgt : Int)) (kt : x = y → Z E Y G σ lv st tgt) (kf : ¬ x = y → Z E Y G σ lv st (pc + 3)) : Z E Y G σ lv (.int y :: .int x :: st) pc := by
  obtain ⟨l, R, nL, cells, slots⟩ := E
  obtain ⟨p, e, s, m, args, below, meth, c, A, Q⟩ := Y
  obtain ⟨hx, hb, hok⟩ := h
  intro H locs ls hP hS hl
  exact lv_icmp_eq hx hb hdg ht (fun q => kt q H locs ls hP hS hl) (fun q => kf q H locs ls hP hS hl)

theorem z_if_ne {E : ZE} {Y : ZY} {G : ZG} {cc : ByteArray} {own : String} {ret : Option FieldType} (h : zOk E Y G cc own ret) {σ : ZS} {lv : List (Nat × Value)} {st : List Value} {pc : Nat} {x : Int32} {off : Int} {tgt : Nat} (hdg : decode cc pc = .ok (.ifCond .ne off, 3)) (ht : (pc : Int) + off = (tgt : Int)) (kt : ¬ x = 0 → Z E Y G σ lv st tgt) (kf : x = 0 → Z E Y G σ lv st (pc + 3)) : Z E Y G σ lv (.int x :: st) pc := by
  obtain ⟨l, R, nL, cells, slots⟩ := E
  obtain ⟨p, e, s, m, args, below, meth, c, A, Q⟩ := Y
  obtain ⟨hx, hb, hok⟩ := h
  intro H locs ls hP hS hl
  exact lv_if_ne hx hb hdg ht (fun q => kt q H locs ls hP hS hl) (fun q => kf q H locs ls hP hS hl)

theorem z_icmp_ne {E : ZE} {Y : ZY} {G : ZG} {cc : ByteArray} {own : String} {ret : Option FieldType} (h : zOk E Y G cc own ret) {σ : ZS} {lv : List (Nat × Value)} {st : List Value} {pc : Nat} {x y : Int32} {off : Int} {tgt : Nat} (hdg : decode cc pc = .ok (.if_icmp .ne off, 3)) (ht : (pc : Int) + off = (tgt : Int)) (kt : ¬ x = y → Z E Y G σ lv st tgt) (kf : x = y → Z E Y G σ lv st (pc + 3)) : Z E Y G σ lv (.int y :: .int x :: st) pc := by
  obtain ⟨l, R, nL, cells, slots⟩ := E
  obtain ⟨p, e, s, m, args, below, meth, c, A, Q⟩ := Y
  obtain ⟨hx, hb, hok⟩ := h
  intro H locs ls hP hS hl
  exact lv_icmp_ne hx hb hdg ht (fun q => kt q H locs ls hP hS hl) (fun q => kf q H locs ls hP hS hl)

theorem z_if_lt {E : ZE} {Y : ZY} {G : ZG} {cc : ByteArray} {own : String} {ret : Option FieldType} (h : zOk E Y G cc own ret) {σ : ZS} {lv : List (Nat × Value)} {st : List Value} {pc : Nat} {x : Int32} {off : Int} {tgt : Nat} (hdg : decode cc pc = .ok (.ifCond .lt off, 3)) (ht : (pc : Int) + off = (tgt : Int)) (kt : x < 0 → Z E Y G σ lv st tgt) (kf : ¬ x < 0 → Z E Y G σ lv st (pc + 3)) : Z E Y G σ lv (.int x :: st) pc := by
  obtain ⟨l, R, nL, cells, slots⟩ := E
  obtain ⟨p, e, s, m, args, below, meth, c, A, Q⟩ := Y
  obtain ⟨hx, hb, hok⟩ := h
  intro H locs ls hP hS hl
  exact lv_if_lt hx hb hdg ht (fun q => kt q H locs ls hP hS hl) (fun q => kf q H locs ls hP hS hl)

theorem z_icmp_lt {E : ZE} {Y : ZY} {G : ZG} {cc : ByteArray} {own : String} {ret : Option FieldType} (h : zOk E Y G cc own ret) {σ : ZS} {lv : List (Nat × Value)} {st : List Value} {pc : Nat} {x y : Int32} {off : Int} {tgt : Nat} (hdg : decode cc pc = .ok (.if_icmp .lt off, 3)) (ht : (pc : Int) + off = (tgt : Int)) (kt : x < y → Z E Y G σ lv st tgt) (kf : ¬ x < y → Z E Y G σ lv st (pc + 3)) : Z E Y G σ lv (.int y :: .int x :: st) pc := by
  obtain ⟨l, R, nL, cells, slots⟩ := E
  obtain ⟨p, e, s, m, args, below, meth, c, A, Q⟩ := Y
  obtain ⟨hx, hb, hok⟩ := h
  intro H locs ls hP hS hl
  exact lv_icmp_lt hx hb hdg ht (fun q => kt q H locs ls hP hS hl) (fun q => kf q H locs ls hP hS hl)

theorem z_if_ge {E : ZE} {Y : ZY} {G : ZG} {cc : ByteArray} {own : String} {ret : Option FieldType} (h : zOk E Y G cc own ret) {σ : ZS} {lv : List (Nat × Value)} {st : List Value} {pc : Nat} {x : Int32} {off : Int} {tgt : Nat} (hdg : decode cc pc = .ok (.ifCond .ge off, 3)) (ht : (pc : Int) + off = (tgt : Int)) (kt : 0 ≤ x → Z E Y G σ lv st tgt) (kf : ¬ 0 ≤ x → Z E Y G σ lv st (pc + 3)) : Z E Y G σ lv (.int x :: st) pc := by
  obtain ⟨l, R, nL, cells, slots⟩ := E
  obtain ⟨p, e, s, m, args, below, meth, c, A, Q⟩ := Y
  obtain ⟨hx, hb, hok⟩ := h
  intro H locs ls hP hS hl
  exact lv_if_ge hx hb hdg ht (fun q => kt q H locs ls hP hS hl) (fun q => kf q H locs ls hP hS hl)

theorem z_icmp_ge {E : ZE} {Y : ZY} {G : ZG} {cc : ByteArray} {own : String} {ret : Option FieldType} (h : zOk E Y G cc own ret) {σ : ZS} {lv : List (Nat × Value)} {st : List Value} {pc : Nat} {x y : Int32} {off : Int} {tgt : Nat} (hdg : decode cc pc = .ok (.if_icmp .ge off, 3)) (ht : (pc : Int) + off = (tgt : Int)) (kt : y ≤ x → Z E Y G σ lv st tgt) (kf : ¬ y ≤ x → Z E Y G σ lv st (pc + 3)) : Z E Y G σ lv (.int y :: .int x :: st) pc := by
  obtain ⟨l, R, nL, cells, slots⟩ := E
  obtain ⟨p, e, s, m, args, below, meth, c, A, Q⟩ := Y
  obtain ⟨hx, hb, hok⟩ := h
  intro H locs ls hP hS hl
  exact lv_icmp_ge hx hb hdg ht (fun q => kt q H locs ls hP hS hl) (fun q => kf q H locs ls hP hS hl)

theorem z_if_gt {E : ZE} {Y : ZY} {G : ZG} {cc : ByteArray} {own : String} {ret : Option FieldType} (h : zOk E Y G cc own ret) {σ : ZS} {lv : List (Nat × Value)} {st : List Value} {pc : Nat} {x : Int32} {off : Int} {tgt : Nat} (hdg : decode cc pc = .ok (.ifCond .gt off, 3)) (ht : (pc : Int) + off = (tgt : Int)) (kt : 0 < x → Z E Y G σ lv st tgt) (kf : ¬ 0 < x → Z E Y G σ lv st (pc + 3)) : Z E Y G σ lv (.int x :: st) pc := by
  obtain ⟨l, R, nL, cells, slots⟩ := E
  obtain ⟨p, e, s, m, args, below, meth, c, A, Q⟩ := Y
  obtain ⟨hx, hb, hok⟩ := h
  intro H locs ls hP hS hl
  exact lv_if_gt hx hb hdg ht (fun q => kt q H locs ls hP hS hl) (fun q => kf q H locs ls hP hS hl)

theorem z_icmp_gt {E : ZE} {Y : ZY} {G : ZG} {cc : ByteArray} {own : String} {ret : Option FieldType} (h : zOk E Y G cc own ret) {σ : ZS} {lv : List (Nat × Value)} {st : List Value} {pc : Nat} {x y : Int32} {off : Int} {tgt : Nat} (hdg : decode cc pc = .ok (.if_icmp .gt off, 3)) (ht : (pc : Int) + off = (tgt : Int)) (kt : y < x → Z E Y G σ lv st tgt) (kf : ¬ y < x → Z E Y G σ lv st (pc + 3)) : Z E Y G σ lv (.int y :: .int x :: st) pc := by
  obtain ⟨l, R, nL, cells, slots⟩ := E
  obtain ⟨p, e, s, m, args, below, meth, c, A, Q⟩ := Y
  obtain ⟨hx, hb, hok⟩ := h
  intro H locs ls hP hS hl
  exact lv_icmp_gt hx hb hdg ht (fun q => kt q H locs ls hP hS hl) (fun q => kf q H locs ls hP hS hl)

theorem z_if_le {E : ZE} {Y : ZY} {G : ZG} {cc : ByteArray} {own : String} {ret : Option FieldType} (h : zOk E Y G cc own ret) {σ : ZS} {lv : List (Nat × Value)} {st : List Value} {pc : Nat} {x : Int32} {off : Int} {tgt : Nat} (hdg : decode cc pc = .ok (.ifCond .le off, 3)) (ht : (pc : Int) + off = (tgt : Int)) (kt : x ≤ 0 → Z E Y G σ lv st tgt) (kf : ¬ x ≤ 0 → Z E Y G σ lv st (pc + 3)) : Z E Y G σ lv (.int x :: st) pc := by
  obtain ⟨l, R, nL, cells, slots⟩ := E
  obtain ⟨p, e, s, m, args, below, meth, c, A, Q⟩ := Y
  obtain ⟨hx, hb, hok⟩ := h
  intro H locs ls hP hS hl
  exact lv_if_le hx hb hdg ht (fun q => kt q H locs ls hP hS hl) (fun q => kf q H locs ls hP hS hl)

theorem z_icmp_le {E : ZE} {Y : ZY} {G : ZG} {cc : ByteArray} {own : String} {ret : Option FieldType} (h : zOk E Y G cc own ret) {σ : ZS} {lv : List (Nat × Value)} {st : List Value} {pc : Nat} {x y : Int32} {off : Int} {tgt : Nat} (hdg : decode cc pc = .ok (.if_icmp .le off, 3)) (ht : (pc : Int) + off = (tgt : Int)) (kt : x ≤ y → Z E Y G σ lv st tgt) (kf : ¬ x ≤ y → Z E Y G σ lv st (pc + 3)) : Z E Y G σ lv (.int y :: .int x :: st) pc := by
  obtain ⟨l, R, nL, cells, slots⟩ := E
  obtain ⟨p, e, s, m, args, below, meth, c, A, Q⟩ := Y
  obtain ⟨hx, hb, hok⟩ := h
  intro H locs ls hP hS hl
  exact lv_icmp_le hx hb hdg ht (fun q => kt q H locs ls hP hS hl) (fun q => kf q H locs ls hP hS hl)

theorem z_goto {E : ZE} {Y : ZY} {G : ZG} {cc : ByteArray} {own : String} {ret : Option FieldType} (h : zOk E Y G cc own ret) {σ : ZS} {lv : List (Nat × Value)} {st : List Value} {pc : Nat} {off : Int} {tgt : Nat} (hdg : decode cc pc = .ok (.goto off, 3)) (ht : (pc : Int) + off = (tgt : Int)) (k : Z E Y G σ lv st tgt) : Z E Y G σ lv st pc := by
  obtain ⟨l, R, nL, cells, slots⟩ := E
  obtain ⟨p, e, s, m, args, below, meth, c, A, Q⟩ := Y
  obtain ⟨hx, hb, hok⟩ := h
  intro H locs ls hP hS hl
  exact lv_goto hx hb hdg ht (k H locs ls hP hS hl)

section ZMORE
variable {E : ZE} {Y : ZY} {G : ZG} {cc : ByteArray} {own : String} {ret : Option FieldType} {σ : ZS} {lv : List (Nat × Value)} {st : List Value} {pc : Nat}
theorem z_gen (k : ∀ y : ZS, y = σ → Z E Y G y lv st pc) : Z E Y G σ lv st pc := k σ rfl
theorem z_topI {x : Int32} (k : ∀ y : Int32, y = x → Z E Y G σ lv (.int y :: st) pc) : Z E Y G σ lv (.int x :: st) pc := k x rfl
theorem z_topJ {x : Int64} (k : ∀ y : Int64, y = x → Z E Y G σ lv (.long y :: st) pc) : Z E Y G σ lv (.long x :: st) pc := k x rfl
theorem z_topF {x : UInt32} (k : ∀ y : UInt32, y = x → Z E Y G σ lv (.float y :: st) pc) : Z E Y G σ lv (.float x :: st) pc := k x rfl
theorem z_topA {x : Nat} (k : ∀ y : Nat, y = x → Z E Y G σ lv (.ref (G.1 y) :: st) pc) : Z E Y G σ lv (.ref (G.1 x) :: st) pc := k x rfl
theorem z_lif_lt (h : zOk E Y G cc own ret) {x y : Int64} {off : Int} {tgt : Nat} (hdg : decode cc pc = .ok (.lcmp, 1)) (hdg2 : decode cc (pc + 1) = .ok (.ifCond .lt off, 3)) (ht : ((pc + 1 : Nat) : Int) + off = (tgt : Int)) (kt : x < y → Z E Y G σ lv st tgt) (kf : ¬ x < y → Z E Y G σ lv st (pc + 1 + 3)) : Z E Y G σ lv (.long y :: .long x :: st) pc :=
  z_lcmp h hdg (z_if_lt h hdg2 ht (fun q => kt (Int64.not_le.mp fun w => absurd ((lg_cmp_ge x y).mpr w) (Int32.not_le.mpr q))) (fun q => kf fun w => absurd ((lg_cmp_ge x y).mp (Int32.not_lt.mp q)) (Int64.not_le.mpr w)))
theorem z_lif_ge (h : zOk E Y G cc own ret) {x y : Int64} {off : Int} {tgt : Nat} (hdg : decode cc pc = .ok (.lcmp, 1)) (hdg2 : decode cc (pc + 1) = .ok (.ifCond .ge off, 3)) (ht : ((pc + 1 : Nat) : Int) + off = (tgt : Int)) (kt : ¬ x < y → Z E Y G σ lv st tgt) (kf : x < y → Z E Y G σ lv st (pc + 1 + 3)) : Z E Y G σ lv (.long y :: .long x :: st) pc :=
  z_lcmp h hdg (z_if_ge h hdg2 ht (fun q => kt (Int64.not_lt.mpr ((lg_cmp_ge x y).mp q))) (fun q => kf (Int64.not_le.mp fun w => q ((lg_cmp_ge x y).mpr w))))
theorem z_lif_gt (h : zOk E Y G cc own ret) {x y : Int64} {off : Int} {tgt : Nat} (hdg : decode cc pc = .ok (.lcmp, 1)) (hdg2 : decode cc (pc + 1) = .ok (.ifCond .gt off, 3)) (ht : ((pc + 1 : Nat) : Int) + off = (tgt : Int)) (kt : y < x → Z E Y G σ lv st tgt) (kf : ¬ y < x → Z E Y G σ lv st (pc + 1 + 3)) : Z E Y G σ lv (.long y :: .long x :: st) pc :=
  z_lcmp h hdg (z_if_gt h hdg2 ht (fun q => kt (Int64.not_le.mp fun w => absurd ((lg_cmp_le x y).mpr w) (Int32.not_le.mpr q))) (fun q => kf fun w => absurd ((lg_cmp_le x y).mp (Int32.not_lt.mp q)) (Int64.not_le.mpr w)))
theorem z_lif_le (h : zOk E Y G cc own ret) {x y : Int64} {off : Int} {tgt : Nat} (hdg : decode cc pc = .ok (.lcmp, 1)) (hdg2 : decode cc (pc + 1) = .ok (.ifCond .le off, 3)) (ht : ((pc + 1 : Nat) : Int) + off = (tgt : Int)) (kt : ¬ y < x → Z E Y G σ lv st tgt) (kf : y < x → Z E Y G σ lv st (pc + 1 + 3)) : Z E Y G σ lv (.long y :: .long x :: st) pc :=
  z_lcmp h hdg (z_if_le h hdg2 ht (fun q => kt (Int64.not_lt.mpr ((lg_cmp_le x y).mp q))) (fun q => kf (Int64.not_le.mp fun w => q ((lg_cmp_le x y).mpr w))))
theorem lg_eq0 (x y : Int64) : lg_cmp x y = 0 ↔ x = y := by
  unfold lg_cmp
  by_cases h1 : x > y
  · rw [if_pos h1]
    constructor
    · intro q; exact absurd q (by decide)
    · intro q; subst q; exact absurd h1 (Int64.lt_irrefl)
  · rw [if_neg h1]
    by_cases h2 : x = y
    · rw [if_pos h2]; simp [h2]
    · rw [if_neg h2]
      constructor
      · intro q; exact absurd q (by decide)
      · intro q; exact absurd q h2
theorem z_lif_eq (h : zOk E Y G cc own ret) {x y : Int64} {off : Int} {tgt : Nat} (hdg : decode cc pc = .ok (.lcmp, 1)) (hdg2 : decode cc (pc + 1) = .ok (.ifCond .eq off, 3)) (ht : ((pc + 1 : Nat) : Int) + off = (tgt : Int)) (kt : x = y → Z E Y G σ lv st tgt) (kf : ¬ x = y → Z E Y G σ lv st (pc + 1 + 3)) : Z E Y G σ lv (.long y :: .long x :: st) pc :=
  z_lcmp h hdg (z_if_eq h hdg2 ht (fun q => kt ((lg_eq0 x y).mp q)) (fun q => kf fun w => q ((lg_eq0 x y).mpr w)))
theorem z_lif_ne (h : zOk E Y G cc own ret) {x y : Int64} {off : Int} {tgt : Nat} (hdg : decode cc pc = .ok (.lcmp, 1)) (hdg2 : decode cc (pc + 1) = .ok (.ifCond .ne off, 3)) (ht : ((pc + 1 : Nat) : Int) + off = (tgt : Int)) (kt : ¬ x = y → Z E Y G σ lv st tgt) (kf : x = y → Z E Y G σ lv st (pc + 1 + 3)) : Z E Y G σ lv (.long y :: .long x :: st) pc :=
  z_lcmp h hdg (z_if_ne h hdg2 ht (fun q => kt fun w => q ((lg_eq0 x y).mpr w)) (fun q => kf ((lg_eq0 x y).mp q)))
theorem z_tin (h : zOk E Y G cc own ret) {dflt lo hi v off : Int} {offs : Array Int} {len : Nat} {x : Int32} {tgt : Nat} (hdg : decode cc pc = .ok (.tableswitch dflt lo hi offs, len)) (hv : x.toInt = v) (h1 : lo ≤ v) (h2 : v ≤ hi) (ho : offs[(v - lo).toNat]? = some off) (ht : (pc : Int) + off = (tgt : Int)) (k : Z E Y G σ lv st tgt) : Z E Y G σ lv (.int x :: st) pc := by
  obtain ⟨l, R, nL, cells, slots⟩ := E
  obtain ⟨p, e, s, m, args, below, meth, c, A, Q⟩ := Y
  obtain ⟨hx, hb, hok⟩ := h
  intro H locs ls hP hS hl
  exact lv_tableIn hx hb hdg (by omega) (by omega) (by rw [hv]; exact ho) ht (k H locs ls hP hS hl)
theorem z_tout (h : zOk E Y G cc own ret) {dflt lo hi : Int} {offs : Array Int} {len : Nat} {x : Int32} {tgt : Nat} (hdg : decode cc pc = .ok (.tableswitch dflt lo hi offs, len)) (hv : x.toInt < lo ∨ hi < x.toInt) (ht : (pc : Int) + dflt = (tgt : Int)) (k : Z E Y G σ lv st tgt) : Z E Y G σ lv (.int x :: st) pc := by
  obtain ⟨l, R, nL, cells, slots⟩ := E
  obtain ⟨p, e, s, m, args, below, meth, c, A, Q⟩ := Y
  obtain ⟨hx, hb, hok⟩ := h
  intro H locs ls hP hS hl
  exact lv_tableOut hx hb hdg hv ht (k H locs ls hP hS hl)
theorem rt_I {e r : Int32} {σ' : ZS} (hf : some (e, σ) = some (r, σ')) (hq : zRet E Y G (some (.int r)) σ') : zRet E Y G (some (.int e)) σ := by cases hf; exact hq
theorem rt_J {e r : Int64} {σ' : ZS} (hf : some (e, σ) = some (r, σ')) (hq : zRet E Y G (some (.long r)) σ') : zRet E Y G (some (.long e)) σ := by cases hf; exact hq
theorem rt_F {e r : UInt32} {σ' : ZS} (hf : some (e, σ) = some (r, σ')) (hq : zRet E Y G (some (.float r)) σ') : zRet E Y G (some (.float e)) σ := by cases hf; exact hq
theorem rt_A {e r : Nat} {σ' : ZS} (hf : some (e, σ) = some (r, σ')) (hq : zRet E Y G (some (.ref (G.1 r))) σ') : zRet E Y G (some (.ref (G.1 e))) σ := by cases hf; exact hq
theorem rt_V {e r : Unit} {σ' : ZS} (hf : some (e, σ) = some (r, σ')) (hq : zRet E Y G none σ') : zRet E Y G none σ := by cases hf; exact hq
end ZMORE
-- ===== constants of the pool =====
theorem z_ldc {E : ZE} {Y : ZY} {G : ZG} {cc : ByteArray} {own : String} {ret : Option FieldType} (h : zOk E Y G cc own ret) {σ : ZS} {lv : List (Nat × Value)} {st : List Value} {pc index : Nat} {v : Int32} (hw : Cond.constant own index v ∈ WA) (hdg : decode cc pc = .ok (.ldc index, 2)) (k : Z E Y G σ lv (.int v :: st) (pc + 2)) : Z E Y G σ lv st pc := by
  obtain ⟨l, R, nL, cells, slots⟩ := E
  obtain ⟨p, e, s, m, args, below, meth, c, A, Q⟩ := Y
  obtain ⟨hx, hb, hml, hown, hts, hok⟩ := h
  intro H locs ls hP hS hl
  exact lv_ldc hx hb hown (hts _ hw) hdg (k H locs ls hP hS hl)
theorem z_ldcw {E : ZE} {Y : ZY} {G : ZG} {cc : ByteArray} {own : String} {ret : Option FieldType} (h : zOk E Y G cc own ret) {σ : ZS} {lv : List (Nat × Value)} {st : List Value} {pc index : Nat} {v : Int32} (hw : Cond.constant own index v ∈ WA) (hdg : decode cc pc = .ok (.ldc_w index, 3)) (k : Z E Y G σ lv (.int v :: st) (pc + 3)) : Z E Y G σ lv st pc := by
  obtain ⟨l, R, nL, cells, slots⟩ := E
  obtain ⟨p, e, s, m, args, below, meth, c, A, Q⟩ := Y
  obtain ⟨hx, hb, hml, hown, hts, hok⟩ := h
  intro H locs ls hP hS hl
  exact lv_ldcw hx hb hown (hts _ hw) hdg (k H locs ls hP hS hl)
theorem zw_ldcwF {p : Program} {l : Launch} {e : Env} {R : Room} {s : State} {m : MethodId} {args : Array Value} {below : List Frame} {meth : Method} {c : Code} {H : Heap} {locs : List Loc} {cells slots : Nat} {Q : State → Prop} {cc : ByteArray} {pc : Nat} {ls : Array Slot} {rest : List Value} (hexec : p.tables.exec = Jvm.exec) (hb : c.code = cc) {own : String} {index : Nat} {v : UInt32} (hown : s.vm.findClass own = some m.cls) (hconst : (Jvm.Cond.constantFloat own index v).before args s = true) (hdg : decode cc pc = .ok (.ldc_w index, 3)) (k : W p l e R s m args below meth c H locs cells slots Q (F0 m (pc + 3) ls (.float v :: rest))) : W p l e R s m args below meth c H locs cells slots Q (F0 m pc ls rest) := by
  intro T hT X
  obtain ⟨t, a, b⟩ := k T hT X
  refine ⟨t, ?_, b⟩
  obtain ⟨kc, cf, hk, hcf, hcp⟩ := Cond.constantFloat_spec hown hconst
  obtain ⟨k', hk', he⟩ := X.warmed.alike.2.2 _ _ hk
  have hk'' : T.vm.classes[(F0 m pc ls rest).method.cls]? = some k' := hk'
  jvm_step X.here [X.here.top, hexec, hb, hdg, ldc_w.wp_float (s := T) (f := F0 m pc ls rest) X.here.top hk'' (by rw [he]; exact hcf) hcp]
  exact a
theorem z_ldcfw {E : ZE} {Y : ZY} {G : ZG} {cc : ByteArray} {own : String} {ret : Option FieldType} (h : zOk E Y G cc own ret) {σ : ZS} {lv : List (Nat × Value)} {st : List Value} {pc index : Nat} {v : UInt32} (hw : Cond.constantFloat own index v ∈ WA) (hdg : decode cc pc = .ok (.ldc_w index, 3)) (k : Z E Y G σ lv (.float v :: st) (pc + 3)) : Z E Y G σ lv st pc := by
  obtain ⟨l, R, nL, cells, slots⟩ := E
  obtain ⟨p, e, s, m, args, below, meth, c, A, Q⟩ := Y
  obtain ⟨hx, hb, hml, hown, hts, hok⟩ := h
  intro H locs ls hP hS hl
  exact zw_ldcwF hx hb hown (hts _ hw) hdg (k H locs ls hP hS hl)
theorem z_ldcf {E : ZE} {Y : ZY} {G : ZG} {cc : ByteArray} {own : String} {ret : Option FieldType} (h : zOk E Y G cc own ret) {σ : ZS} {lv : List (Nat × Value)} {st : List Value} {pc index : Nat} {v : UInt32} (hw : Cond.constantFloat own index v ∈ WA) (hdg : decode cc pc = .ok (.ldc index, 2)) (k : Z E Y G σ lv (.float v :: st) (pc + 2)) : Z E Y G σ lv st pc := by
  obtain ⟨l, R, nL, cells, slots⟩ := E
  obtain ⟨p, e, s, m, args, below, meth, c, A, Q⟩ := Y
  obtain ⟨hx, hb, hml, hown, hts, hok⟩ := h
  intro H locs ls hP hS hl
  exact lv_ldcf hx hb hown (hts _ hw) hdg (k H locs ls hP hS hl)
theorem z_ldc2 {E : ZE} {Y : ZY} {G : ZG} {cc : ByteArray} {own : String} {ret : Option FieldType} (h : zOk E Y G cc own ret) {σ : ZS} {lv : List (Nat × Value)} {st : List Value} {pc index : Nat} {v : Int64} (hw : Cond.constantLong own index v ∈ WA) (hdg : decode cc pc = .ok (.ldc2_w index, 3)) (k : Z E Y G σ lv (.long v :: st) (pc + 3)) : Z E Y G σ lv st pc := by
  obtain ⟨l, R, nL, cells, slots⟩ := E
  obtain ⟨p, e, s, m, args, below, meth, c, A, Q⟩ := Y
  obtain ⟨hx, hb, hml, hown, hts, hok⟩ := h
  intro H locs ls hP hS hl
  exact lv_ldc2 hx hb hown (hts _ hw) hdg (k H locs ls hP hS hl)
-- ===== arrays =====
section ZARR
variable {E : ZE} {Y : ZY} {G : ZG} {cc : ByteArray} {own : String} {ret : Option FieldType} {σ : ZS} {lv : List (Nat × Value)} {st : List Value} {pc : Nat}
theorem z_iald (h : zOk E Y G cc own ret) {c n : Nat} {j : Int32} (ht : tg c = 1) (hn : ln c = n) (hj : inb j n = true) (hdg : decode cc pc = .ok (.iaload, 1)) (k : Z E Y G σ lv (.int (gI σ c j.toNatClampNeg) :: st) (pc + 1)) : Z E Y G σ lv (.int j :: .ref (G.1 c) :: st) pc := by
  obtain ⟨l, R, nL, cells, slots⟩ := E
  obtain ⟨p, e, s, m, args, below, meth, cd, A, Q⟩ := Y
  obtain ⟨hx, hb, hml, hown, hts, hr, hlk, hK, hI, hA, hN⟩ := h
  intro H locs ls hP hS hl
  subst hn
  exact va_iald (f := σ.1 c) hx hb hK hP c 0 ((zW_at G σ (tg_lt ht (by omega))).trans (by rw [ent_int ht])) rfl (inb_vp hj) hdg (k H locs ls hP hS hl)
theorem z_lald (h : zOk E Y G cc own ret) {c n : Nat} {j : Int32} (ht : tg c = 2) (hn : ln c = n) (hj : inb j n = true) (hdg : decode cc pc = .ok (.laload, 1)) (k : Z E Y G σ lv (.long (gJ σ c j.toNatClampNeg) :: st) (pc + 1)) : Z E Y G σ lv (.int j :: .ref (G.1 c) :: st) pc := by
  obtain ⟨l, R, nL, cells, slots⟩ := E
  obtain ⟨p, e, s, m, args, below, meth, cd, A, Q⟩ := Y
  obtain ⟨hx, hb, hml, hown, hts, hr, hlk, hK, hI, hA, hN⟩ := h
  intro H locs ls hP hS hl
  subst hn
  exact va_lald (f := σ.2 c) hx hb hK hP c 1 ((zW_at G σ (tg_lt ht (by omega))).trans (by rw [ent_long ht])) rfl (inb_vp hj) hdg (k H locs ls hP hS hl)
theorem z_zald (h : zOk E Y G cc own ret) {c n : Nat} {j : Int32} (ht : tg c = 3) (hn : ln c = n) (hj : inb j n = true) (hdg : decode cc pc = .ok (.baload, 1)) (k : Z E Y G σ lv (.int (gI σ c j.toNatClampNeg) :: st) (pc + 1)) : Z E Y G σ lv (.int j :: .ref (G.1 c) :: st) pc := by
  obtain ⟨l, R, nL, cells, slots⟩ := E
  obtain ⟨p, e, s, m, args, below, meth, cd, A, Q⟩ := Y
  obtain ⟨hx, hb, hml, hown, hts, hr, hlk, hK, hI, hA, hN⟩ := h
  intro H locs ls hP hS hl
  subst hn
  exact va_zald (f := σ.1 c) hx hb hK hP c 2 ((zW_at G σ (tg_lt ht (by omega))).trans (by rw [ent_bool ht])) rfl (inb_vp hj) hdg (k H locs ls hP hS hl)
theorem z_aald (h : zOk E Y G cc own ret) {c n d : Nat} {j : Int32} {t : Nat} (ht : tg c = t) (ht4 : Nat.ble 4 t && Nat.ble t 6) (hn : ln c = n) (hd : rr c j.toNatClampNeg = d) (hj : inb j n = true) (hdg : decode cc pc = .ok (.aaload, 1)) (k : Z E Y G σ lv (.ref (G.1 d) :: st) (pc + 1)) : Z E Y G σ lv (.int j :: .ref (G.1 c) :: st) pc := by
  obtain ⟨l, R, nL, cells, slots⟩ := E
  obtain ⟨p, e, s, m, args, below, meth, cd, A, Q⟩ := Y
  obtain ⟨hx, hb, hml, hown, hts, hr, hlk, hK, hI, hA, hN⟩ := h
  intro H locs ls hP hS hl
  subst hn; subst ht; subst hd
  rw [Bool.and_eq_true] at ht4
  have h4 := Nat.le_of_ble_eq_true ht4.1
  have h6 := Nat.le_of_ble_eq_true ht4.2
  have hq := hP c _ ((zW_at G σ (tg_lt rfl h6)).trans (by rw [ent_refs h4]))
  have hlt : j.toNatClampNeg < ln c := Nat.not_le.mp fun q => (inb_vp hj) (Or.inr q)
  have hty : ∃ ty : FieldType, (zT G)[tg c - 1]? = some (G.2.2 (tg c), ty) ∧ ty.isReference = true := by
    rcases (show tg c = 4 ∨ tg c = 5 ∨ tg c = 6 by omega) with q | q | q <;> rw [q] <;> exact ⟨_, rfl, rfl⟩
  obtain ⟨ty, hty, hre⟩ := hty
  exact W.aald (v := .ref (G.1 (rr c j.toNatClampNeg))) (ty := ty) hx hb hq ((hK.2 _ _ hty).1 (ln c) (fun i => va_rf (some (G.1 (rr c i))))) hre (fun q => by cases q) (by show ¬ (j < 0 ∨ (arrV _ _ _).slots.size ≤ _); rw [arrV_size]; exact inb_vp hj) (by show (arrV _ _ _).slots[_]? = _; rw [arrV_read _ _ hlt]; rfl) rfl rfl hdg (k H locs ls hP hS hl)
theorem z_alen (h : zOk E Y G cc own ret) {c t : Nat} {n : Int32} (ht : tg c = t) (ht4 : Nat.ble 1 t && Nat.ble t 6) (hn : Int32.ofNat (ln c) = n) (hdg : decode cc pc = .ok (.arraylength, 1)) (k : Z E Y G σ lv (.int n :: st) (pc + 1)) : Z E Y G σ lv (.ref (G.1 c) :: st) pc := by
  obtain ⟨l, R, nL, cells, slots⟩ := E
  obtain ⟨p, e, s, m, args, below, meth, cd, A, Q⟩ := Y
  obtain ⟨hx, hb, hml, hown, hts, hr, hlk, hK, hI, hA, hN⟩ := h
  intro H locs ls hP hS hl
  subst ht
  rw [Bool.and_eq_true] at ht4
  have h4 := Nat.le_of_ble_eq_true ht4.1
  have h6 := Nat.le_of_ble_eq_true ht4.2
  have hty : ∃ (ty : FieldType) (x : vp_A), (zT G)[tg c - 1]? = some (G.2.2 (tg c), ty) ∧ ent G σ c = .inl (G.2.2 (tg c), x) ∧ x.1 = ln c := by
    rcases (show tg c = 1 ∨ tg c = 2 ∨ tg c = 3 ∨ tg c = 4 ∨ tg c = 5 ∨ tg c = 6 by omega) with q | q | q | q | q | q
    · exact ⟨_, (ln c, .inl (σ.1 c)), by rw [q]; rfl, by rw [ent_int q, q], rfl⟩
    · exact ⟨_, (ln c, .inr (.inl (σ.2 c))), by rw [q]; rfl, by rw [ent_long q, q], rfl⟩
    · exact ⟨_, (ln c, .inl (σ.1 c)), by rw [q]; rfl, by rw [ent_bool q, q], rfl⟩
    · exact ⟨_, (ln c, .inr (.inr (.inr (.inr (fun j => some (G.1 (rr c j))))))), by rw [q]; rfl, ent_refs (by omega), rfl⟩
    · exact ⟨_, (ln c, .inr (.inr (.inr (.inr (fun j => some (G.1 (rr c j))))))), by rw [q]; rfl, ent_refs (by omega), rfl⟩
    · exact ⟨_, (ln c, .inr (.inr (.inr (.inr (fun j => some (G.1 (rr c j))))))), by rw [q]; rfl, ent_refs (by omega), rfl⟩
  obtain ⟨ty, x, hty, he, hx1⟩ := hty
  exact va_alen hx hb hK hP c _ ((zW_at G σ (tg_lt rfl h6)).trans (by rw [he])) hty (by rw [hx1]; exact hn) hdg (k H locs ls hP hS hl)
theorem z_iast (h : zOk E Y G cc own ret) {c n : Nat} {j x : Int32} (ht : tg c = 1) (hn : ln c = n) (hj : inb j n = true) (hdg : decode cc pc = .ok (.iastore, 1)) (k : Z E Y G (sI σ c j.toNatClampNeg x) lv st (pc + 1)) : Z E Y G σ lv (.int x :: .int j :: .ref (G.1 c) :: st) pc := by
  obtain ⟨l, R, nL, cells, slots⟩ := E
  obtain ⟨p, e, s, m, args, below, meth, cd, A, Q⟩ := Y
  obtain ⟨hx, hb, hml, hown, hts, hr, hlk, hK, hI, hA, hN⟩ := h
  intro H locs ls hP hS hl
  subst hn
  have hc := tg_lt ht (by omega)
  refine va_iast hx hb hK hP (zW_D hI (fun d hd => hA _ (Or.inl ⟨d, hd, rfl⟩)) σ) hS c 0 ((zW_at G σ hc).trans (by rw [ent_int ht])) rfl (inb_vp hj) hdg (fun H1 locs1 hP1 _ hS1 => ?_)
  rw [show ((.inl (G.2.2 1, ln c, .inl (upd (σ.1 c) j.toNatClampNeg x)) : va_E)) = ent G (sI σ c j.toNatClampNeg x) c by rw [ent_int ht, sI_at], zW_sI hc] at hP1
  exact k H1 locs1 ls hP1 hS1 hl
theorem z_last (h : zOk E Y G cc own ret) {c n : Nat} {j : Int32} {x : Int64} (ht : tg c = 2) (hn : ln c = n) (hj : inb j n = true) (hdg : decode cc pc = .ok (.lastore, 1)) (k : Z E Y G (sJ σ c j.toNatClampNeg x) lv st (pc + 1)) : Z E Y G σ lv (.long x :: .int j :: .ref (G.1 c) :: st) pc := by
  obtain ⟨l, R, nL, cells, slots⟩ := E
  obtain ⟨p, e, s, m, args, below, meth, cd, A, Q⟩ := Y
  obtain ⟨hx, hb, hml, hown, hts, hr, hlk, hK, hI, hA, hN⟩ := h
  intro H locs ls hP hS hl
  subst hn
  have hc := tg_lt ht (by omega)
  refine va_last hx hb hK hP (zW_D hI (fun d hd => hA _ (Or.inl ⟨d, hd, rfl⟩)) σ) hS c 1 ((zW_at G σ hc).trans (by rw [ent_long ht])) rfl (inb_vp hj) hdg (fun H1 locs1 hP1 _ hS1 => ?_)
  rw [show ((.inl (G.2.2 2, ln c, .inr (.inl (vp_updL (σ.2 c) j.toNatClampNeg x))) : va_E)) = ent G (sJ σ c j.toNatClampNeg x) c by rw [ent_long ht, sJ_at], zW_sJ hc] at hP1
  exact k H1 locs1 ls hP1 hS1 hl
theorem z_zast (h : zOk E Y G cc own ret) {c n : Nat} {j x : Int32} (ht : tg c = 3) (hn : ln c = n) (hj : inb j n = true) (hv : bb x = true) (hdg : decode cc pc = .ok (.bastore, 1)) (k : Z E Y G (sI σ c j.toNatClampNeg x) lv st (pc + 1)) : Z E Y G σ lv (.int x :: .int j :: .ref (G.1 c) :: st) pc := by
  obtain ⟨l, R, nL, cells, slots⟩ := E
  obtain ⟨p, e, s, m, args, below, meth, cd, A, Q⟩ := Y
  obtain ⟨hx, hb, hml, hown, hts, hr, hlk, hK, hI, hA, hN⟩ := h
  intro H locs ls hP hS hl
  subst hn
  have hc := tg_lt ht (by omega)
  have hx1 : vp_nar .boolean x = x := by
    unfold bb at hv
    rw [Bool.or_eq_true, beq_iff_eq, beq_iff_eq] at hv
    rcases hv with rfl | rfl <;> rfl
  refine va_zast hx hb hK hP (zW_D hI (fun d hd => hA _ (Or.inl ⟨d, hd, rfl⟩)) σ) hS c 2 ((zW_at G σ hc).trans (by rw [ent_bool ht])) rfl (inb_vp hj) hdg (fun H1 locs1 hP1 _ hS1 => ?_)
  rw [hx1, show ((.inl (G.2.2 3, ln c, .inl (upd (σ.1 c) j.toNatClampNeg x)) : va_E)) = ent G (sI σ c j.toNatClampNeg x) c by rw [ent_bool ht, sI_at], zW_sI hc] at hP1
  exact k H1 locs1 ls hP1 hS1 hl
end ZARR
-- ===== fields: what is known of each class =====
def zCl (k : Nat) (C : String) (T : u_T) (N : Nat) : Prop := vwCl[k]? = some (C, T, N) ∧ N = nf k ∧ (∀ w ∈ u_ws C T N, w ∈ WA) ∧ (∃ ty : Nat → FieldType, ∀ j, j < N → parseFieldDescriptor (T j).2.2.1 = some (ty j)) ∧ ∀ a, a < N → ∀ b, b < N → a ≠ b → (T a).2.1 ≠ (T b).2.1
theorem zC0 : zCl 0 RX0 TX0 12 := ⟨rfl, rfl, inlX0, ⟨tyX0, tyX0_ok⟩, nmX0⟩
theorem zC1 : zCl 1 RX1 TX1 2 := ⟨rfl, rfl, inlX1, ⟨tyX1, tyX1_ok⟩, nmX1⟩
theorem zC2 : zCl 2 RX2 TX2 9 := ⟨rfl, rfl, inlX2, ⟨tyX2, tyX2_ok⟩, nmX2⟩
theorem zC3 : zCl 3 RX3 TX3 4 := ⟨rfl, rfl, inlX3, ⟨tyX3, tyX3_ok⟩, nmX3⟩
theorem zC4 : zCl 4 RX4 TX4 7 := ⟨rfl, rfl, inlX4, ⟨tyX4, tyX4_ok⟩, nmX4⟩
theorem zC5 : zCl 5 RX5 TX5 9 := ⟨rfl, rfl, inlX5, ⟨tyX5, tyX5_ok⟩, nmX5⟩
theorem zC6 : zCl 6 RX6 TX6 53 := ⟨rfl, rfl, inlX6, ⟨tyX6, tyX6_ok⟩, nmX6⟩
section ZFLD
variable {E : ZE} {Y : ZY} {G : ZG} {cc : ByteArray} {own : String} {ret : Option FieldType} {σ : ZS} {lv : List (Nat × Value)} {st : List Value} {pc : Nat}
theorem flds_at {c j : Nat} {v : Value} (hj : j < nf (ln c)) (hv : fv G σ c j = v) : (flds G σ c)[j]? = some v := by
  unfold flds
  rw [List.getElem?_map, List.getElem?_range hj]
  exact congrArg some hv
theorem z_gf (h : zOk E Y G cc own ret) {k : Nat} {C : String} {T : u_T} {N index : Nat} (hC : zCl k C T N) {c : Nat} (ht : tg c = 0) (hk : ln c = k) (j : Nat) (hj : Nat.blt j N = true) (hw : Cond.fieldLink own index C (T j).2.1 (T j).2.2.1 ∈ WA) {v : Value} (hv : fv G σ c j = v) (hdg : decode cc pc = .ok (.getfield index, 3)) (kk : Z E Y G σ lv (v :: st) (pc + 3)) : Z E Y G σ lv (.ref (G.1 c) :: st) pc := by
  obtain ⟨l, R, nL, cells, slots⟩ := E
  obtain ⟨p, e, s, m, args, below, meth, cd, A, Q⟩ := Y
  obtain ⟨hx, hb, hml, hown, hts, hr, hlk, hK, hI, hA, hN⟩ := h
  obtain ⟨hc1, hc2, hc3, hc4, hc5⟩ := hC
  intro H locs ls hP hS hl
  subst hk
  have hj : j < N := Nat.le_of_ble_eq_true hj
  by_cases hT : (T j).1 = C
  · exact va_get hx hb hts hc3 hown hK hP c ((zW_at G σ (tg_lt ht (by omega))).trans (by rw [ent_obj ht])) hc1 j hj (hts _ hw) (fun x hx => by rw [hT] at hx; exact hx) (flds_at (by rw [← hc2]; exact hj) hv) hdg (kk H locs ls hP hS hl)
  · exfalso
    have hall : ∀ q ∈ vwCl, (List.range q.2.2).all (fun j => decide ((q.2.1 j).1 = q.1)) = true := by decide +kernel
    have := hall _ (List.mem_of_getElem? hc1)
    rw [List.all_eq_true] at this
    exact hT (of_decide_eq_true (this j (List.mem_range.mpr hj)))
theorem z_gfN (h : zOk E Y G cc own ret) {k : Nat} {C : String} {T : u_T} {N index : Nat} (hC : zCl k C T N) {c : Nat} (ht : tg c = 0) (hk : ln c = k) (j : Nat) (hj : Nat.blt j N = true) (hw : Cond.fieldLinkNest own index C (T j).2.1 (T j).2.2.1 "FrameCollapse" ∈ zNF) {v : Value} (hv : fv G σ c j = v) (hdg : decode cc pc = .ok (.getfield index, 3)) (kk : Z E Y G σ lv (v :: st) (pc + 3)) : Z E Y G σ lv (.ref (G.1 c) :: st) pc := by
  obtain ⟨l, R, nL, cells, slots⟩ := E
  obtain ⟨p, e, s, m, args, below, meth, cd, A, Q⟩ := Y
  obtain ⟨hx, hb, hml, hown, hts, hr, hlk, hK, hI, hA, hN⟩ := h
  obtain ⟨hc1, hc2, hc3, hc4, hc5⟩ := hC
  intro H locs ls hP hS hl
  subst hk
  have hj : j < N := Nat.le_of_ble_eq_true hj
  by_cases hT : (T j).1 = C
  · exact va_getN hx hb hts hc3 hown hK hP c ((zW_at G σ (tg_lt ht (by omega))).trans (by rw [ent_obj ht])) hc1 j hj (va_Nw.use rfl (hN.1 _ hw)) (fun x hx => by rw [hT] at hx; exact hx) (flds_at (by rw [← hc2]; exact hj) hv) hdg (kk H locs ls hP hS hl)
  · exfalso
    have hall : ∀ q ∈ vwCl, (List.range q.2.2).all (fun j => decide ((q.2.1 j).1 = q.1)) = true := by decide +kernel
    have := hall _ (List.mem_of_getElem? hc1)
    rw [List.all_eq_true] at this
    exact hT (of_decide_eq_true (this j (List.mem_range.mpr hj)))
theorem fv_int {c j : Nat} (hf : ft (ln c) j = 0) : fv G σ c j = .int (gI σ c j) := by unfold fv; rw [if_pos hf]; rfl
theorem fv_long {c j : Nat} (hf : ft (ln c) j = 1) : fv G σ c j = .long (gJ σ c j) := by unfold fv; rw [if_neg (by omega), if_pos hf]; rfl
theorem fv_ref {c j d : Nat} (hf : ft (ln c) j = 2) (hd : rf c j = d) : fv G σ c j = .ref (G.1 d) := by unfold fv; rw [if_neg (by omega), if_neg (by omega), hd]
theorem z_gfI (h : zOk E Y G cc own ret) {k : Nat} {C : String} {T : u_T} {N index : Nat} (hC : zCl k C T N) {c : Nat} (ht : tg c = 0) (hk : ln c = k) (j : Nat) (hj : Nat.blt j N = true) (hf : ft k j = 0) (hw : Cond.fieldLink own index C (T j).2.1 (T j).2.2.1 ∈ WA) (hdg : decode cc pc = .ok (.getfield index, 3)) (kk : Z E Y G σ lv (.int (gI σ c j) :: st) (pc + 3)) : Z E Y G σ lv (.ref (G.1 c) :: st) pc := z_gf h hC ht hk j hj hw (fv_int (by rw [hk]; exact hf)) hdg kk
theorem z_gfJ (h : zOk E Y G cc own ret) {k : Nat} {C : String} {T : u_T} {N index : Nat} (hC : zCl k C T N) {c : Nat} (ht : tg c = 0) (hk : ln c = k) (j : Nat) (hj : Nat.blt j N = true) (hf : ft k j = 1) (hw : Cond.fieldLink own index C (T j).2.1 (T j).2.2.1 ∈ WA) (hdg : decode cc pc = .ok (.getfield index, 3)) (kk : Z E Y G σ lv (.long (gJ σ c j) :: st) (pc + 3)) : Z E Y G σ lv (.ref (G.1 c) :: st) pc := z_gf h hC ht hk j hj hw (fv_long (by rw [hk]; exact hf)) hdg kk
theorem z_gfR (h : zOk E Y G cc own ret) {k : Nat} {C : String} {T : u_T} {N index : Nat} (hC : zCl k C T N) {c d : Nat} (ht : tg c = 0) (hk : ln c = k) (j : Nat) (hj : Nat.blt j N = true) (hf : ft k j = 2) (hd : rf c j = d) (hw : Cond.fieldLink own index C (T j).2.1 (T j).2.2.1 ∈ WA) (hdg : decode cc pc = .ok (.getfield index, 3)) (kk : Z E Y G σ lv (.ref (G.1 d) :: st) (pc + 3)) : Z E Y G σ lv (.ref (G.1 c) :: st) pc := z_gf h hC ht hk j hj hw (fv_ref (by rw [hk]; exact hf) hd) hdg kk
theorem z_gfIN (h : zOk E Y G cc own ret) {k : Nat} {C : String} {T : u_T} {N index : Nat} (hC : zCl k C T N) {c : Nat} (ht : tg c = 0) (hk : ln c = k) (j : Nat) (hj : Nat.blt j N = true) (hf : ft k j = 0) (hw : Cond.fieldLinkNest own index C (T j).2.1 (T j).2.2.1 "FrameCollapse" ∈ zNF) (hdg : decode cc pc = .ok (.getfield index, 3)) (kk : Z E Y G σ lv (.int (gI σ c j) :: st) (pc + 3)) : Z E Y G σ lv (.ref (G.1 c) :: st) pc := z_gfN h hC ht hk j hj hw (fv_int (by rw [hk]; exact hf)) hdg kk
theorem z_gfRN (h : zOk E Y G cc own ret) {k : Nat} {C : String} {T : u_T} {N index : Nat} (hC : zCl k C T N) {c d : Nat} (ht : tg c = 0) (hk : ln c = k) (j : Nat) (hj : Nat.blt j N = true) (hf : ft k j = 2) (hd : rf c j = d) (hw : Cond.fieldLinkNest own index C (T j).2.1 (T j).2.2.1 "FrameCollapse" ∈ zNF) (hdg : decode cc pc = .ok (.getfield index, 3)) (kk : Z E Y G σ lv (.ref (G.1 d) :: st) (pc + 3)) : Z E Y G σ lv (.ref (G.1 c) :: st) pc := z_gfN h hC ht hk j hj hw (fv_ref (by rw [hk]; exact hf) hd) hdg kk
theorem zC_own {k : Nat} {C : String} {T : u_T} {N : Nat} (hC : zCl k C T N) {j : Nat} (hj : j < N) : (T j).1 = C := by
  have hall : ∀ q ∈ vwCl, (List.range q.2.2).all (fun j => decide ((q.2.1 j).1 = q.1)) = true := by decide +kernel
  have := hall _ (List.mem_of_getElem? hC.1)
  rw [List.all_eq_true] at this
  exact of_decide_eq_true (this j (List.mem_range.mpr hj))
theorem z_pfI (h : zOk E Y G cc own ret) {k : Nat} {C : String} {T : u_T} {N index : Nat} (hC : zCl k C T N) {c : Nat} (ht : tg c = 0) (hk : ln c = k) (j : Nat) (hj : Nat.blt j N = true) (hf : ft k j = 0) (hw : Cond.fieldLink own index C (T j).2.1 (T j).2.2.1 ∈ WA) (hfin : (T j).2.2.2 = false) {ty : FieldType} {v : Int32} (hd : parseFieldDescriptor (T j).2.2.1 = some ty) (hn : narrow ty (.int v) = .int v) (hfit : fits ty (.int v) = true) (hdg : decode cc pc = .ok (.putfield index, 3)) (kk : Z E Y G (sI σ c j v) lv st (pc + 3)) : Z E Y G σ lv (.int v :: .ref (G.1 c) :: st) pc := by
  obtain ⟨l, R, nL, cells, slots⟩ := E
  obtain ⟨p, e, s, m, args, below, meth, cd, A, Q⟩ := Y
  obtain ⟨hx, hb, hml, hown, hts, hr, hlk, hK, hI, hA, hN⟩ := h
  have hj : j < N := Nat.le_of_ble_eq_true hj
  have hT := zC_own hC hj
  obtain ⟨hc1, hc2, hc3, ⟨ty0, hc4⟩, hc5⟩ := hC
  intro H locs ls hP hS hl
  subst hk
  have hc := tg_lt ht (by omega)
  refine va_put hx hb hts hc3 ty0 hc4 hc5 hown hK hP (zW_D hI (fun d hd => hA _ (Or.inl ⟨d, hd, rfl⟩)) σ) hS c ((zW_at G σ hc).trans (by rw [ent_obj ht])) hc1 j hj (hts _ hw) (fun x hx => by rw [hT] at hx; exact hx) hfin hd hn hfit (by unfold flds; rw [List.length_map, List.length_range, ← hc2]; exact hj) hdg (fun H1 locs1 hP1 _ hS1 => ?_)
  rw [flds_sI hf, ← ent_obj (G := G) (σ := sI σ c j v) ht, zW_sI hc] at hP1
  exact kk H1 locs1 ls hP1 hS1 hl
theorem z_pfJ (h : zOk E Y G cc own ret) {k : Nat} {C : String} {T : u_T} {N index : Nat} (hC : zCl k C T N) {c : Nat} (ht : tg c = 0) (hk : ln c = k) (j : Nat) (hj : Nat.blt j N = true) (hf : ft k j = 1) (hw : Cond.fieldLink own index C (T j).2.1 (T j).2.2.1 ∈ WA) (hfin : (T j).2.2.2 = false) {ty : FieldType} {v : Int64} (hd : parseFieldDescriptor (T j).2.2.1 = some ty) (hn : narrow ty (.long v) = .long v) (hfit : fits ty (.long v) = true) (hdg : decode cc pc = .ok (.putfield index, 3)) (kk : Z E Y G (sJ σ c j v) lv st (pc + 3)) : Z E Y G σ lv (.long v :: .ref (G.1 c) :: st) pc := by
  obtain ⟨l, R, nL, cells, slots⟩ := E
  obtain ⟨p, e, s, m, args, below, meth, cd, A, Q⟩ := Y
  obtain ⟨hx, hb, hml, hown, hts, hr, hlk, hK, hI, hA, hN⟩ := h
  have hj : j < N := Nat.le_of_ble_eq_true hj
  have hT := zC_own hC hj
  obtain ⟨hc1, hc2, hc3, ⟨ty0, hc4⟩, hc5⟩ := hC
  intro H locs ls hP hS hl
  subst hk
  have hc := tg_lt ht (by omega)
  refine va_put hx hb hts hc3 ty0 hc4 hc5 hown hK hP (zW_D hI (fun d hd => hA _ (Or.inl ⟨d, hd, rfl⟩)) σ) hS c ((zW_at G σ hc).trans (by rw [ent_obj ht])) hc1 j hj (hts _ hw) (fun x hx => by rw [hT] at hx; exact hx) hfin hd hn hfit (by unfold flds; rw [List.length_map, List.length_range, ← hc2]; exact hj) hdg (fun H1 locs1 hP1 _ hS1 => ?_)
  rw [flds_sJ hf, ← ent_obj (G := G) (σ := sJ σ c j v) ht, zW_sJ hc] at hP1
  exact kk H1 locs1 ls hP1 hS1 hl
end ZFLD
-- ===== ends =====
section ZRET
variable {E : ZE} {Y : ZY} {G : ZG} {cc : ByteArray} {own : String} {ret : Option FieldType} {σ : ZS} {lv : List (Nat × Value)} {pc : Nat}
theorem z_iret (h : zOk E Y G cc own (some .int)) {v : Int32} (hq : zRet E Y G (some (.int v)) σ) (hdg : decode cc pc = .ok (.ireturn, 1)) : Z E Y G σ lv [.int v] pc := by
  obtain ⟨l, R, nL, cells, slots⟩ := E
  obtain ⟨p, e, s, m, args, below, meth, cd, A, Q⟩ := Y
  obtain ⟨hx, hb, hml, hown, hts, hr, hlk, hK, hI, hA, hN⟩ := h
  intro H locs ls hP hS hl
  have hq : Q = _ := hq
  rw [hq]
  exact W.iret hx hb hr (fun t ht hW => ⟨⟨rfl, by rw [ht]; exact hP, va_K.moved hW.alike hK, hI, hN.warm hW⟩, hS.F ht⟩) hS.2.2 hdg
theorem z_zret (h : zOk E Y G cc own (some .boolean)) {v : Int32} (hv : bb v = true) (hq : zRet E Y G (some (.int v)) σ) (hdg : decode cc pc = .ok (.ireturn, 1)) : Z E Y G σ lv [.int v] pc := by
  obtain ⟨l, R, nL, cells, slots⟩ := E
  obtain ⟨p, e, s, m, args, below, meth, cd, A, Q⟩ := Y
  obtain ⟨hx, hb, hml, hown, hts, hr, hlk, hK, hI, hA, hN⟩ := h
  intro H locs ls hP hS hl
  have hq : Q = _ := hq
  rw [hq]
  exact W.zret hx hb hr (by unfold bb at hv; rw [Bool.or_eq_true, beq_iff_eq, beq_iff_eq] at hv; rcases hv with rfl | rfl <;> rfl) (fun t ht hW => ⟨⟨rfl, by rw [ht]; exact hP, va_K.moved hW.alike hK, hI, hN.warm hW⟩, hS.F ht⟩) hS.2.2 hdg
theorem z_lret (h : zOk E Y G cc own (some .long)) {v : Int64} (hq : zRet E Y G (some (.long v)) σ) (hdg : decode cc pc = .ok (.lreturn, 1)) : Z E Y G σ lv [.long v] pc := by
  obtain ⟨l, R, nL, cells, slots⟩ := E
  obtain ⟨p, e, s, m, args, below, meth, cd, A, Q⟩ := Y
  obtain ⟨hx, hb, hml, hown, hts, hr, hlk, hK, hI, hA, hN⟩ := h
  intro H locs ls hP hS hl
  have hq : Q = _ := hq
  rw [hq]
  exact W.lret hx hb hr (fun t ht hW => ⟨⟨rfl, by rw [ht]; exact hP, va_K.moved hW.alike hK, hI, hN.warm hW⟩, hS.F ht⟩) hS.2.2 hdg
theorem z_fret (h : zOk E Y G cc own (some .float)) {v : UInt32} (hq : zRet E Y G (some (.float v)) σ) (hdg : decode cc pc = .ok (.freturn, 1)) : Z E Y G σ lv [.float v] pc := by
  obtain ⟨l, R, nL, cells, slots⟩ := E
  obtain ⟨p, e, s, m, args, below, meth, cd, A, Q⟩ := Y
  obtain ⟨hx, hb, hml, hown, hts, hr, hlk, hK, hI, hA, hN⟩ := h
  intro H locs ls hP hS hl
  have hq : Q = _ := hq
  rw [hq]
  exact W.fret hx hb hr (fun t ht hW => ⟨⟨rfl, by rw [ht]; exact hP, va_K.moved hW.alike hK, hI, hN.warm hW⟩, hS.F ht⟩) hS.2.2 hdg
theorem z_aret (h : zOk E Y G cc own ret) {C : String} (hrt : ret = some (.object C)) {d : Nat} (hq : zRet E Y G (some (.ref (G.1 d))) σ) (hdg : decode cc pc = .ok (.areturn, 1)) : Z E Y G σ lv [.ref (G.1 d)] pc := by
  obtain ⟨l, R, nL, cells, slots⟩ := E
  obtain ⟨p, e, s, m, args, below, meth, cd, A, Q⟩ := Y
  obtain ⟨hx, hb, hml, hown, hts, hr, hlk, hK, hI, hA, hN⟩ := h
  subst hrt
  intro H locs ls hP hS hl
  have hq : Q = _ := hq
  rw [hq]
  exact W.aret hx hb hr (Or.inl ⟨C, rfl⟩) (Or.inr ⟨_, rfl⟩) (fun t ht hW => ⟨⟨rfl, by rw [ht]; exact hP, va_K.moved hW.alike hK, hI, hN.warm hW⟩, hS.F ht⟩) hS.2.2 hdg
theorem z_vret (h : zOk E Y G cc own none) (hq : zRet E Y G none σ) (hdg : decode cc pc = .ok (.return_, 1)) : Z E Y G σ lv [] pc := by
  obtain ⟨l, R, nL, cells, slots⟩ := E
  obtain ⟨p, e, s, m, args, below, meth, cd, A, Q⟩ := Y
  obtain ⟨hx, hb, hml, hown, hts, hr, hlk, hK, hI, hA, hN⟩ := h
  intro H locs ls hP hS hl
  have hq : Q = _ := hq
  rw [hq]
  exact W.vret hx hb hr (fun t ht hW => ⟨⟨rfl, by rw [ht]; exact hP, va_K.moved hW.alike hK, hI, hN.warm hW⟩, hS.F ht⟩) hS.2.2 hdg
end ZRET
-- ===== contracts and calls =====
def zMet (l : Launch) (G : ZG) (y : MethodName) (cc : ByteArray) (maxL : Nat) (ret : Option FieldType) (rm : Room) (av : List Value) (σ : ZS) (ov : Option Value) (σ' : ZS) : Prop :=
  ∀ sz : Nat, Met l y (Cond.code y cc maxL ret :: WA) rm (va_Pc av (fun U => U.heap.size = sz ∧ zB G σ U)) (fun _ st oc t => (oc = .returned ov ∧ zB G σ' t) ∧ va_F (zA G sz) st t) 0 0 (zA G sz)
theorem z_ofWF {l : Launch} {y : MethodName} {ws ws' : List Cond} {rm : Room} {Pc : Array Value → State → Prop} {Qc : Array Value → State → Outcome → State → Prop} {mc ms : Nat} {free : Addr → Prop} {cc : ByteArray} {maxL : Nat} {ret : Option FieldType}
    (hy : plainFor y = true) (hw : ws = Cond.code y cc maxL ret :: ws')
    (body : ∀ p e s m args below meth c s₁, BodyLoose p l y (headSpec ws rm) cc maxL ret e s m args below meth c s₁ → c.maxLocals = maxL → Pc args s →
      W p l e (headSpec ws rm).room s m args below meth c s.heap [] 0 0 (MQ below Qc args s mc ms free) (entryFrame m args maxL)) : Met l y ws rm Pc Qc mc ms free := by
  refine MetFree.of_bodySF (code := cc) (maxLocals := maxL) (ret := ret) hy ?_ ?_
  · intro args s m h hn
    obtain ⟨meth, c, h1, h2, h3, h4, h5, h6, -, -⟩ := Cond.code_spec hn (atoms_spec (ws := ws) h _ (by rw [hw]; exact List.mem_cons_self))
    exact ⟨meth, c, h1, h2, h3, h4, h5, h6⟩
  · intro p e s m args below meth c s₁ B hml hP _
    have hh0 : s₁.heap = s.heap := by rw [B.state]; rfl
    obtain ⟨t, a1, o, b1, b2, b3⟩ := body p e s m args below meth c s₁ B hml hP s₁ hh0 (Stand.of_body B)
    exact ⟨t, o, a1, b1, b2, ⟨b3.1, b3.2⟩⟩
theorem z_met {l : Launch} {G : ZG} {y : MethodName} {cc : ByteArray} {maxL : Nat} {ret : Option FieldType} {rm : Room} {av : List Value} {σ σ' : ZS} {ov : Option Value} (hy : plainFor y = true) (hlen : Nat.ble (lg_sl av).length maxL = true) (body : ∀ Y : ZY, zOk (l, rm, maxL, 0, 0) Y G cc y.cls ret → zRet (l, rm, maxL, 0, 0) Y G ov σ' → Z (l, rm, maxL, 0, 0) Y G σ (lv_args 0 av) [] 0) : zMet l G y cc maxL ret rm av σ ov σ' := by
  intro sz
  refine z_ofWF (cc := cc) (maxL := maxL) (ret := ret) hy rfl ?_
  intro p e s m args below meth c s₁ B hml hv
  obtain ⟨rfl, hsz, hP, hK, hI, hN⟩ := hv
  have hx := B.exec
  have hb := B.bytes
  have hr := B.returns
  have hts := atoms_spec (ws := Cond.code y cc maxL ret :: WA) B.pre
  have hown : s.vm.findClass y.cls = some m.cls := findClass_of_methodNamed B.named
  have hlocks := B.notSynchronized
  subst hsz
  have hl := lv_entry av (n := maxL) (Nat.le_of_ble_eq_true hlen)
  rw [lg_entry_eq]
  exact body (p, e, s, m, av.toArray, below, meth, c, zA G s.heap.size, _) ⟨hx, hb, hml, hown, fun w hw => hts w (List.mem_cons_of_mem _ hw), hr, hlocks, hK, hI, fun q h => h, hN⟩ rfl s.heap [] _ hP va_S.rf hl
theorem WA_good : GoodIn WA WA := goodIn_sub (fun _ h => h) (by decide +kernel)
theorem zB_blind (av : List Value) (sz : Nat) (G : ZG) (σ : ZS) : FrameBlind (va_Pc av (fun U => U.heap.size = sz ∧ zB G σ U)) := fun a U g mk q => by
  obtain ⟨q0, q1, qP, qK, qI, qN⟩ := q
  exact ⟨q0, q1, qP, va_K.moved (u := U) (U := U.calling g mk a) (Vm.Alike.refl U.vm) qK, qI, zNW.same (s := U) (U := U.calling g mk a) rfl qN⟩
section ZCALL
variable {E : ZE} {Y : ZY} {G : ZG} {cc : ByteArray} {own : String} {ret : Option FieldType} {σ σ1 : ZS} {lv : List (Nat × Value)} {st : List Value} {pc : Nat}
theorem z_run {p : Program} {l : Launch} {e : Env} {R : Room} {s : State} {m : MethodId} {args : Array Value} {below : List Frame} {meth : Method} {c : Code} {H : Heap} {locs : List Loc} {cells slots : Nat} {Q : State → Prop} {A : Nat → Prop} {ls : Array Slot} {rest st0 : List Value} {ov : Option Value}
    (hr : va_Run p l e R s m args below meth c H locs cells slots 0 0 (F0 m pc ls st0) rest (fun st oc t => (oc = .returned ov ∧ zB G σ1 t) ∧ va_F (zA G H.size) st t) (zA G H.size)) (hS : va_S A s.heap H locs) (hA : ∀ q : Nat, zA G s.heap.size q → A q)
    (k : ∀ (H1 : Heap) (locs1 : List Loc), va_P G.2.1 vwCl (zW G σ1) H1 → va_S A s.heap H1 locs1 → W p l e R s m args below meth c H1 locs1 cells slots Q (F0 m (pc + 3) ls (ov.toList ++ rest))) : W p l e R s m args below meth c H locs cells slots Q (F0 m pc ls st0) := by
  intro T hT X
  obtain ⟨v, st₀, t, T', L, h0, X', hL, e1, e2, ⟨⟨hv, hB⟩, hz, hk⟩, st⟩ := hr T hT X
  cases hv
  rw [h0] at hz hk
  have hAA : ∀ q : Nat, zA G H.size q → A q := fun q h => hA q (by
    rcases h with h | h
    · exact Or.inl h
    · exact Or.inr (Nat.le_trans hS.1 h))
  obtain ⟨t2, a1, b1⟩ := k T'.heap (locs ++ L) (by rw [e1]; exact hB.1)
    ⟨Nat.le_trans hS.1 (by rw [e1]; exact hz), fun q h1 h2 => by rw [e1, hk q (Nat.lt_of_lt_of_le h1 hS.1) (fun z => h2 (hAA q z))]; exact hS.2.1 q h1 h2, fun q hq => by
      rcases List.mem_append.mp hq with h | h
      · exact hS.2.2 q h
      · exact hAA _ (hL q h)⟩ T' rfl X'
  exact ⟨t2, st t2 a1, b1⟩
theorem z_cV (h : zOk E Y G cc own ret) {y : MethodName} {bytes : ByteArray} {maxL n index : Nat} {retc : Option FieldType} {rm : Room} {c : Nat} {As : List Value} {ov : Option Value} (M : zMet E.1 G y bytes maxL retc rm (.ref (G.1 c) :: As) σ ov σ1) {k : Nat} {C : String} {T : u_T} {N : Nat} (hC : zCl k C T N) (ht : tg c = 0) (hk : ln c = k) (hy : y.cls = C) (hn : As.length = n)
    (w1 : Cond.methodLink own index y ∈ WA) (w2 : Cond.instanceMethod y ∈ WA) (w3 : Cond.selects C y y ∈ WA) (w4 : Cond.initialized C ∈ WA) (w5 : Cond.code y bytes maxL retc ∈ WA)
    (hd : (y.cls ≠ "java/lang/invoke/MethodHandle" ∧ y.cls ≠ "java/lang/invoke/VarHandle") ∧ (parseMethodDescriptor y.desc).map (fun d => d.parameters.length) = some n) (hrm : rm.cells = 0 ∧ rm.slots = 0) (hR : Nat.ble (rm.frames + 1) E.2.1.frames && Nat.ble (8 + (maxL + 11) + rm.locals) E.2.1.locals) {st0 : List Value} (hst : st0 = As.reverse ++ .ref (G.1 c) :: st) (hcat : Nat.ble ((st.map fun v => v.category).sum) 8 = true) (hdg : decode cc pc = .ok (.invokevirtual index, 3)) (hcs : E.2.2.2.1 ≤ E.2.1.cells ∧ E.2.2.2.2 ≤ E.2.1.slots)
    (kk : Z E Y G σ1 lv (ov.toList ++ st) (pc + 3)) : Z E Y G σ lv st0 pc := by
  obtain ⟨l, R, nL, cells, slots⟩ := E
  obtain ⟨p, e, s, m, args, below, meth, cd, A, Q⟩ := Y
  obtain ⟨hx, hb, hml, hown, hts, hr, hlk, hK, hI, hA, hN⟩ := h
  intro H locs ls hP hS hl
  rw [Bool.and_eq_true] at hR
  subst hk; subst hst
  refine z_run (va_runV (As := As) (rest := st) ⟨hx, hb, hml, hown, hts⟩ (M H.size) (cwV n hts (ws := Cond.code y bytes maxL retc :: WA) (C := C) (fun w hw => ?_) rfl hrm.1 hrm.2 ⟨hy, hd.1.1, hd.1.2, hd.2⟩ ⟨Nat.le_of_ble_eq_true hR.1, Nat.le_of_ble_eq_true hR.2⟩) ⟨zB_blind _ _ _ _, va_recv hK hP hC.1 ((zW_at G σ (tg_lt ht (by omega))).trans (by rw [ent_obj ht])), fun U hU hW => ⟨rfl, by rw [hU], by rw [hU]; exact hP, va_K.moved hW.alike hK, hI, hN.warm hW⟩⟩ rfl hn hl.1 rfl (lv_room (Nat.le_of_ble_eq_true hcat)) hdg hcs) hS hA (fun H1 locs1 hP1 hS1 => kk H1 locs1 ls hP1 hS1 hl)
  unfold wsV at hw
  simp only [List.cons_append, List.nil_append, List.mem_cons] at hw
  rcases hw with rfl | rfl | rfl | rfl | rfl | hw
  · exact WA_good _ w1
  · exact WA_good _ w2
  · exact WA_good _ w3
  · exact WA_good _ w4
  · exact WA_good _ w5
  · exact WA_good _ hw
theorem z_cS (h : zOk E Y G cc own ret) {y : MethodName} {bytes : ByteArray} {maxL n index : Nat} {retc : Option FieldType} {rm : Room} {As : List Value} {ov : Option Value} (M : zMet E.1 G y bytes maxL retc rm As σ ov σ1) (hn : As.length = n)
    (w1 : Cond.methodLink own index y ∈ WA) (w2 : Cond.static y ∈ WA) (w4 : Cond.initialized y.cls ∈ WA) (w5 : Cond.code y bytes maxL retc ∈ WA)
    (hd : (y.cls ≠ "java/lang/invoke/MethodHandle" ∧ y.cls ≠ "java/lang/invoke/VarHandle") ∧ (parseMethodDescriptor y.desc).map (fun d => d.parameters.length) = some n) (hrm : rm.cells = 0 ∧ rm.slots = 0) (hR : Nat.ble (rm.frames + 1) E.2.1.frames && Nat.ble (8 + (maxL + 11) + rm.locals) E.2.1.locals) {st0 : List Value} (hst : st0 = As.reverse ++ st) (hcat : Nat.ble ((st.map fun v => v.category).sum) 8 = true) (hdg : decode cc pc = .ok (.invokestatic index, 3)) (hcs : E.2.2.2.1 ≤ E.2.1.cells ∧ E.2.2.2.2 ≤ E.2.1.slots)
    (kk : Z E Y G σ1 lv (ov.toList ++ st) (pc + 3)) : Z E Y G σ lv st0 pc := by
  obtain ⟨l, R, nL, cells, slots⟩ := E
  obtain ⟨p, e, s, m, args, below, meth, cd, A, Q⟩ := Y
  obtain ⟨hx, hb, hml, hown, hts, hr, hlk, hK, hI, hA, hN⟩ := h
  intro H locs ls hP hS hl
  rw [Bool.and_eq_true] at hR
  subst hst
  have hG : GoodIn WA (Cond.code y bytes maxL retc :: WA) := fun w hw => by
    rcases List.mem_cons.mp hw with rfl | hw
    · exact WA_good _ w5
    · exact WA_good _ hw
  exact z_run (va_runS (As := As) (rest := st) ⟨hx, hb, hml, hown, hts⟩ (M H.size) ⟨callB_of n hts hG rfl hrm.1 hrm.2 (hts _ w4) (hts _ w1) ⟨hd.1.1, hd.1.2, hd.2⟩ ⟨Nat.le_of_ble_eq_true hR.1, Nat.le_of_ble_eq_true hR.2⟩, hts _ w2⟩ ⟨zB_blind _ _ _ _, fun U hU hW => ⟨rfl, by rw [hU], by rw [hU]; exact hP, va_K.moved hW.alike hK, hI, hN.warm hW⟩⟩ rfl hn hl.1 rfl (lv_room (Nat.le_of_ble_eq_true hcat)) hdg hcs) hS hA (fun H1 locs1 hP1 hS1 => kk H1 locs1 ls hP1 hS1 hl)
theorem z_cSN (h : zOk E Y G cc own ret) {y : MethodName} {bytes : ByteArray} {maxL n index : Nat} {retc : Option FieldType} {rm : Room} {As : List Value} {ov : Option Value} (M : zMet E.1 G y bytes maxL retc rm As σ ov σ1) (hn : As.length = n)
    (w1 : Cond.methodLinkNest own index y "FrameCollapse" ∈ zNM) (w2 : Cond.static y ∈ WA) (w4 : Cond.initialized y.cls ∈ WA) (w5 : Cond.code y bytes maxL retc ∈ WA)
    (hd : (y.cls ≠ "java/lang/invoke/MethodHandle" ∧ y.cls ≠ "java/lang/invoke/VarHandle") ∧ (parseMethodDescriptor y.desc).map (fun d => d.parameters.length) = some n) (hrm : rm.cells = 0 ∧ rm.slots = 0) (hR : Nat.ble (rm.frames + 1) E.2.1.frames && Nat.ble (8 + (maxL + 11) + rm.locals) E.2.1.locals) {st0 : List Value} (hst : st0 = As.reverse ++ st) (hcat : Nat.ble ((st.map fun v => v.category).sum) 8 = true) (hdg : decode cc pc = .ok (.invokestatic index, 3)) (hcs : E.2.2.2.1 ≤ E.2.1.cells ∧ E.2.2.2.2 ≤ E.2.1.slots)
    (kk : Z E Y G σ1 lv (ov.toList ++ st) (pc + 3)) : Z E Y G σ lv st0 pc := by
  obtain ⟨l, R, nL, cells, slots⟩ := E
  obtain ⟨p, e, s, m, args, below, meth, cd, A, Q⟩ := Y
  obtain ⟨hx, hb, hml, hown, hts, hr, hlk, hK, hI, hA, hN⟩ := h
  intro H locs ls hP hS hl
  rw [Bool.and_eq_true] at hR
  subst hst
  have hG : GoodIn WA (Cond.code y bytes maxL retc :: WA) := fun w hw => by
    rcases List.mem_cons.mp hw with rfl | hw
    · exact WA_good _ w5
    · exact WA_good _ hw
  exact z_run (va_runSN (As := As) (rest := st) ⟨hx, hb, hml, hown, hts⟩ (M H.size) ⟨va_cnB n hts hG rfl hrm.1 hrm.2 (hN.2 _ w1) (hts _ w4) ⟨hd.1.1, hd.1.2, hd.2⟩ ⟨Nat.le_of_ble_eq_true hR.1, Nat.le_of_ble_eq_true hR.2⟩, hts _ w2, trivial⟩ ⟨zB_blind _ _ _ _, fun U hU hW => ⟨rfl, by rw [hU], by rw [hU]; exact hP, va_K.moved hW.alike hK, hI, hN.warm hW⟩⟩ rfl hn hl.1 rfl (lv_room (Nat.le_of_ble_eq_true hcat)) hdg hcs) hS hA (fun H1 locs1 hP1 hS1 => kk H1 locs1 ls hP1 hS1 hl)
end ZCALL

section ZCALL2
variable {E : ZE} {Y : ZY} {G : ZG} {cc : ByteArray} {own : String} {ret : Option FieldType} {σ σ1 : ZS} {lv : List (Nat × Value)} {st : List Value} {pc : Nat}
theorem z_cVv (h : zOk E Y G cc own ret) {y : MethodName} {bytes : ByteArray} {maxL n index : Nat} {retc : Option FieldType} {rm : Room} {c : Nat} {As : List Value} {v : Value} (M : zMet E.1 G y bytes maxL retc rm (.ref (G.1 c) :: As) σ (some v) σ1) {k : Nat} {C : String} {T : u_T} {N : Nat} (hC : zCl k C T N) (ht : tg c = 0) (hk : ln c = k) (hy : y.cls = C) (hn : As.length = n)
    (w1 : Cond.methodLink own index y ∈ WA) (w2 : Cond.instanceMethod y ∈ WA) (w3 : Cond.selects C y y ∈ WA) (w4 : Cond.initialized C ∈ WA) (w5 : Cond.code y bytes maxL retc ∈ WA)
    (hd : (y.cls ≠ "java/lang/invoke/MethodHandle" ∧ y.cls ≠ "java/lang/invoke/VarHandle") ∧ (parseMethodDescriptor y.desc).map (fun d => d.parameters.length) = some n) (hrm : rm.cells = 0 ∧ rm.slots = 0) (hR : Nat.ble (rm.frames + 1) E.2.1.frames && Nat.ble (8 + (maxL + 11) + rm.locals) E.2.1.locals) {st0 : List Value} (hst : st0 = As.reverse ++ .ref (G.1 c) :: st) (hcat : Nat.ble ((st.map fun v => v.category).sum) 8 = true) (hdg : decode cc pc = .ok (.invokevirtual index, 3)) (hcs : E.2.2.2.1 ≤ E.2.1.cells ∧ E.2.2.2.2 ≤ E.2.1.slots)
    (kk : Z E Y G σ1 lv (v :: st) (pc + 3)) : Z E Y G σ lv st0 pc := z_cV h M hC ht hk hy hn w1 w2 w3 w4 w5 hd hrm hR hst hcat hdg hcs kk
theorem z_cV0 (h : zOk E Y G cc own ret) {y : MethodName} {bytes : ByteArray} {maxL n index : Nat} {retc : Option FieldType} {rm : Room} {c : Nat} {As : List Value}  (M : zMet E.1 G y bytes maxL retc rm (.ref (G.1 c) :: As) σ none σ1) {k : Nat} {C : String} {T : u_T} {N : Nat} (hC : zCl k C T N) (ht : tg c = 0) (hk : ln c = k) (hy : y.cls = C) (hn : As.length = n)
    (w1 : Cond.methodLink own index y ∈ WA) (w2 : Cond.instanceMethod y ∈ WA) (w3 : Cond.selects C y y ∈ WA) (w4 : Cond.initialized C ∈ WA) (w5 : Cond.code y bytes maxL retc ∈ WA)
    (hd : (y.cls ≠ "java/lang/invoke/MethodHandle" ∧ y.cls ≠ "java/lang/invoke/VarHandle") ∧ (parseMethodDescriptor y.desc).map (fun d => d.parameters.length) = some n) (hrm : rm.cells = 0 ∧ rm.slots = 0) (hR : Nat.ble (rm.frames + 1) E.2.1.frames && Nat.ble (8 + (maxL + 11) + rm.locals) E.2.1.locals) {st0 : List Value} (hst : st0 = As.reverse ++ .ref (G.1 c) :: st) (hcat : Nat.ble ((st.map fun v => v.category).sum) 8 = true) (hdg : decode cc pc = .ok (.invokevirtual index, 3)) (hcs : E.2.2.2.1 ≤ E.2.1.cells ∧ E.2.2.2.2 ≤ E.2.1.slots)
    (kk : Z E Y G σ1 lv st (pc + 3)) : Z E Y G σ lv st0 pc := z_cV h M hC ht hk hy hn w1 w2 w3 w4 w5 hd hrm hR hst hcat hdg hcs kk
theorem z_cSv (h : zOk E Y G cc own ret) {y : MethodName} {bytes : ByteArray} {maxL n index : Nat} {retc : Option FieldType} {rm : Room} {As : List Value} {v : Value} (M : zMet E.1 G y bytes maxL retc rm As σ (some v) σ1) (hn : As.length = n)
    (w1 : Cond.methodLink own index y ∈ WA) (w2 : Cond.static y ∈ WA) (w4 : Cond.initialized y.cls ∈ WA) (w5 : Cond.code y bytes maxL retc ∈ WA)
    (hd : (y.cls ≠ "java/lang/invoke/MethodHandle" ∧ y.cls ≠ "java/lang/invoke/VarHandle") ∧ (parseMethodDescriptor y.desc).map (fun d => d.parameters.length) = some n) (hrm : rm.cells = 0 ∧ rm.slots = 0) (hR : Nat.ble (rm.frames + 1) E.2.1.frames && Nat.ble (8 + (maxL + 11) + rm.locals) E.2.1.locals) {st0 : List Value} (hst : st0 = As.reverse ++ st) (hcat : Nat.ble ((st.map fun v => v.category).sum) 8 = true) (hdg : decode cc pc = .ok (.invokestatic index, 3)) (hcs : E.2.2.2.1 ≤ E.2.1.cells ∧ E.2.2.2.2 ≤ E.2.1.slots)
    (kk : Z E Y G σ1 lv (v :: st) (pc + 3)) : Z E Y G σ lv st0 pc := z_cS h M hn w1 w2 w4 w5 hd hrm hR hst hcat hdg hcs kk
theorem z_cS0 (h : zOk E Y G cc own ret) {y : MethodName} {bytes : ByteArray} {maxL n index : Nat} {retc : Option FieldType} {rm : Room} {As : List Value}  (M : zMet E.1 G y bytes maxL retc rm As σ none σ1) (hn : As.length = n)
    (w1 : Cond.methodLink own index y ∈ WA) (w2 : Cond.static y ∈ WA) (w4 : Cond.initialized y.cls ∈ WA) (w5 : Cond.code y bytes maxL retc ∈ WA)
    (hd : (y.cls ≠ "java/lang/invoke/MethodHandle" ∧ y.cls ≠ "java/lang/invoke/VarHandle") ∧ (parseMethodDescriptor y.desc).map (fun d => d.parameters.length) = some n) (hrm : rm.cells = 0 ∧ rm.slots = 0) (hR : Nat.ble (rm.frames + 1) E.2.1.frames && Nat.ble (8 + (maxL + 11) + rm.locals) E.2.1.locals) {st0 : List Value} (hst : st0 = As.reverse ++ st) (hcat : Nat.ble ((st.map fun v => v.category).sum) 8 = true) (hdg : decode cc pc = .ok (.invokestatic index, 3)) (hcs : E.2.2.2.1 ≤ E.2.1.cells ∧ E.2.2.2.2 ≤ E.2.1.slots)
    (kk : Z E Y G σ1 lv st (pc + 3)) : Z E Y G σ lv st0 pc := z_cS h M hn w1 w2 w4 w5 hd hrm hR hst hcat hdg hcs kk
theorem z_cSNv (h : zOk E Y G cc own ret) {y : MethodName} {bytes : ByteArray} {maxL n index : Nat} {retc : Option FieldType} {rm : Room} {As : List Value} {v : Value} (M : zMet E.1 G y bytes maxL retc rm As σ (some v) σ1) (hn : As.length = n)
    (w1 : Cond.methodLinkNest own index y "FrameCollapse" ∈ zNM) (w2 : Cond.static y ∈ WA) (w4 : Cond.initialized y.cls ∈ WA) (w5 : Cond.code y bytes maxL retc ∈ WA)
    (hd : (y.cls ≠ "java/lang/invoke/MethodHandle" ∧ y.cls ≠ "java/lang/invoke/VarHandle") ∧ (parseMethodDescriptor y.desc).map (fun d => d.parameters.length) = some n) (hrm : rm.cells = 0 ∧ rm.slots = 0) (hR : Nat.ble (rm.frames + 1) E.2.1.frames && Nat.ble (8 + (maxL + 11) + rm.locals) E.2.1.locals) {st0 : List Value} (hst : st0 = As.reverse ++ st) (hcat : Nat.ble ((st.map fun v => v.category).sum) 8 = true) (hdg : decode cc pc = .ok (.invokestatic index, 3)) (hcs : E.2.2.2.1 ≤ E.2.1.cells ∧ E.2.2.2.2 ≤ E.2.1.slots)
    (kk : Z E Y G σ1 lv (v :: st) (pc + 3)) : Z E Y G σ lv st0 pc := z_cSN h M hn w1 w2 w4 w5 hd hrm hR hst hcat hdg hcs kk
theorem z_cSN0 (h : zOk E Y G cc own ret) {y : MethodName} {bytes : ByteArray} {maxL n index : Nat} {retc : Option FieldType} {rm : Room} {As : List Value}  (M : zMet E.1 G y bytes maxL retc rm As σ none σ1) (hn : As.length = n)
    (w1 : Cond.methodLinkNest own index y "FrameCollapse" ∈ zNM) (w2 : Cond.static y ∈ WA) (w4 : Cond.initialized y.cls ∈ WA) (w5 : Cond.code y bytes maxL retc ∈ WA)
    (hd : (y.cls ≠ "java/lang/invoke/MethodHandle" ∧ y.cls ≠ "java/lang/invoke/VarHandle") ∧ (parseMethodDescriptor y.desc).map (fun d => d.parameters.length) = some n) (hrm : rm.cells = 0 ∧ rm.slots = 0) (hR : Nat.ble (rm.frames + 1) E.2.1.frames && Nat.ble (8 + (maxL + 11) + rm.locals) E.2.1.locals) {st0 : List Value} (hst : st0 = As.reverse ++ st) (hcat : Nat.ble ((st.map fun v => v.category).sum) 8 = true) (hdg : decode cc pc = .ok (.invokestatic index, 3)) (hcs : E.2.2.2.1 ≤ E.2.1.cells ∧ E.2.2.2.2 ≤ E.2.1.slots)
    (kk : Z E Y G σ1 lv st (pc + 3)) : Z E Y G σ lv st0 pc := z_cSN h M hn w1 w2 w4 w5 hd hrm hR hst hcat hdg hcs kk
theorem z_cpy (h : zOk E Y G cc own ret) {a b index : Nat} {sp dp n : Int32} (ta : tg a = 1) (tb : tg b = 1) (hg : cpg sp dp n (ln a) (ln b) = true) (w1 : Cond.methodLink own index arraycopyName ∈ WA) (w2 : Cond.native arraycopyName ∈ WA) (w3 : Cond.static arraycopyName ∈ WA) (w4 : Cond.initialized "java/lang/System" ∈ WA) (hR : Nat.ble 1 E.2.1.frames = true) (hL : Nat.ble ((st.map fun v => v.category).sum + 30) E.2.1.locals = true) (hdg : decode cc pc = .ok (.invokestatic index, 3)) (kk : Z E Y G (cpI σ a b sp.toNatClampNeg dp.toNatClampNeg n.toNatClampNeg) lv st (pc + 3)) : Z E Y G σ lv (.int n :: .int dp :: .ref (G.1 b) :: .int sp :: .ref (G.1 a) :: st) pc := by
  obtain ⟨l, R, nL, cells, slots⟩ := E
  obtain ⟨p, e, s, m, args, below, meth, cd, A, Q⟩ := Y
  obtain ⟨hx, hb, hml, hown, hts, hr, hlk, hK, hI, hA, hN⟩ := h
  intro H locs ls hP hS hl
  have ca := tg_lt ta (by omega)
  have cb := tg_lt tb (by omega)
  unfold cpg at hg
  simp only [Bool.and_eq_true, decide_eq_true_eq] at hg
  obtain ⟨g1, g2, g3, g4, g5⟩ := hg
  refine va_copyi (f := σ.1 a) (g := σ.1 b) (ty := .int) hx hb (hml.trans hl.1.symm) hown (hts _ w1) (hts _ w2) (hts _ w3) (hts _ w4) hK hP (zW_D hI (fun d hd => hA _ (Or.inl ⟨d, hd, rfl⟩)) σ) hS a b 0 0 ((zW_at G σ ca).trans (by rw [ent_int ta])) ((zW_at G σ cb).trans (by rw [ent_int tb])) rfl rfl rfl g1 g2 g3 g4 g5 (fun _ _ => rfl) (Nat.le_of_ble_eq_true hR) (Nat.le_trans (Nat.add_le_add_left (by decide) _) (Nat.le_of_ble_eq_true hL)) hdg (fun H1 locs1 hP1 _ hS1 => ?_)
  have hz : (zW G σ).set b (G.1 b, .inl (G.2.2 1, ln b, .inl (va_cpy (σ.1 a) (σ.1 b) sp.toNatClampNeg dp.toNatClampNeg n.toNatClampNeg))) = zW G (cpI σ a b sp.toNatClampNeg dp.toNatClampNeg n.toNatClampNeg) := by
    have e1 : ((.inl (G.2.2 1, ln b, .inl (va_cpy (σ.1 a) (σ.1 b) sp.toNatClampNeg dp.toNatClampNeg n.toNatClampNeg)) : va_E)) = ent G (cpI σ a b sp.toNatClampNeg dp.toNatClampNeg n.toNatClampNeg) b := by
      rw [ent_int tb]
      simp [cpI]
    rw [e1]
    exact zW_set cb fun d hd => ent_congr (by simp [cpI, hd]) rfl
  rw [hz] at hP1
  exact kk H1 locs1 ls hP1 hS1 hl
theorem z_f2raw (h : zOk E Y G cc own ret) {index : Nat} {x : UInt32} (w1 : Cond.methodLink own index ⟨"java/lang/Float", "floatToRawIntBits", "(F)I"⟩ ∈ WA) (w2 : Cond.native ⟨"java/lang/Float", "floatToRawIntBits", "(F)I"⟩ ∈ WA) (w3 : Cond.static ⟨"java/lang/Float", "floatToRawIntBits", "(F)I"⟩ ∈ WA) (w4 : Cond.initialized "java/lang/Float" ∈ WA) (hR : Nat.ble 1 E.2.1.frames = true) (hL : Nat.ble ((st.map fun v => v.category).sum + 30) E.2.1.locals = true) (hdg : decode cc pc = .ok (.invokestatic index, 3)) (kk : Z E Y G σ lv (.int x.toInt32 :: st) (pc + 3)) : Z E Y G σ lv (.float x :: st) pc := by
  obtain ⟨l, R, nL, cells, slots⟩ := E
  obtain ⟨p, e, s, m, args, below, meth, cd, A, Q⟩ := Y
  obtain ⟨hx, hb, hml, hown, hts, hr, hlk, hK, hI, hA, hN⟩ := h
  intro H locs ls hP hS hl
  have : (st.map fun v => v.category).sum + 30 ≤ R.locals := Nat.le_of_ble_eq_true hL
  exact vn_f2i hx hb (hml.trans hl.1.symm) hown (hts _ w1) (hts _ w2) (hts _ w3) (hts _ w4) (Nat.le_of_ble_eq_true hR) (by omega) hdg (kk H locs ls hP hS hl)
end ZCALL2
