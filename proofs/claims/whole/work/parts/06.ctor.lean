-- ===== the makers: a walk over a world that grows; addresses are counted from the heap's size at the entry =====
def hw : Nat → List va_E → va_W
  | _, [] => []
  | b, e :: r => (b, e) :: hw (b + 1) r
theorem hw_get : ∀ (l : List va_E) (b i : Nat), (hw b l)[i]? = (l[i]?).map (fun e => (b + i, e))
  | [], b, i => by simp [hw]
  | e :: r, b, 0 => by simp [hw]
  | e :: r, b, i + 1 => by
    rw [hw, List.getElem?_cons_succ, List.getElem?_cons_succ, hw_get r (b + 1) i, show b + 1 + i = b + (i + 1) by omega]
theorem hw_app : ∀ (l r : List va_E) (b : Nat), hw b (l ++ r) = hw b l ++ hw (b + l.length) r
  | [], r, b => by simp [hw]
  | e :: l, r, b => by
    rw [List.cons_append, hw, hw, hw_app l r (b + 1), List.cons_append, List.length_cons, show b + 1 + l.length = b + (l.length + 1) by omega]
theorem hw_len : ∀ (l : List va_E) (b : Nat), (hw b l).length = l.length
  | [], b => rfl
  | e :: l, b => by rw [hw, List.length_cons, List.length_cons, hw_len l (b + 1)]
def cW (h0 sz : Nat) (r : va_E) (es : List va_E) : va_W := (h0, r) :: hw sz es
theorem cW_inv {h0 sz : Nat} {r : va_E} {es : List va_E} {i : Nat} {q : Nat × va_E} (h : (cW h0 sz r es)[i]? = some q) : (i = 0 ∧ q = (h0, r)) ∨ ∃ j e, i = j + 1 ∧ es[j]? = some e ∧ q = (sz + j, e) := by
  cases i with
  | zero =>
    have h : some (h0, r) = some q := h
    cases h
    exact Or.inl ⟨rfl, rfl⟩
  | succ j =>
    have h : (hw sz es)[j]? = some q := h
    rw [hw_get] at h
    cases he : es[j]? with
    | none => rw [he] at h; cases h
    | some e => rw [he] at h; cases h; exact Or.inr ⟨j, e, rfl, he, rfl⟩
theorem cW_D {A : Nat → Prop} {h0 sz : Nat} (h : h0 < sz) (hA : ∀ q : Nat, (q = h0 ∨ sz ≤ q) → A q) (r : va_E) (es : List va_E) : va_D A (cW h0 sz r es) := by
  refine ⟨fun i j p q hi hj e => ?_, fun k q hk => ?_⟩
  · rcases cW_inv hi with ⟨rfl, rfl⟩ | ⟨a, x, rfl, -, rfl⟩ <;> rcases cW_inv hj with ⟨rfl, rfl⟩ | ⟨b, y, rfl, -, rfl⟩
    · rfl
    · have e : h0 = sz + b := e
      omega
    · have e : sz + a = h0 := e
      omega
    · have e : sz + a = sz + b := e
      omega
  · rcases cW_inv hk with ⟨rfl, rfl⟩ | ⟨a, x, rfl, -, rfl⟩
    · exact hA _ (Or.inl rfl)
    · exact hA _ (Or.inr (Nat.le_add_right _ _))
theorem cW_0 (h0 sz : Nat) (r r' : va_E) (es : List va_E) : (cW h0 sz r es).set 0 (h0, r') = cW h0 sz r' es := rfl
theorem cW_at {h0 sz i : Nat} {r e : va_E} {es : List va_E} (h : es[i]? = some e) : (cW h0 sz r es)[i + 1]? = some (sz + i, e) := by
  unfold cW
  rw [List.getElem?_cons_succ, hw_get, h]
  rfl
theorem hw_set : ∀ (l : List va_E) (b i : Nat) (e : va_E), (hw b l).set i (b + i, e) = hw b (l.set i e)
  | [], b, i, e => by simp [hw]
  | x :: r, b, 0, e => by simp [hw]
  | x :: r, b, i + 1, e => by
    rw [hw, List.set_cons_succ, List.set_cons_succ, hw, show b + (i + 1) = b + 1 + i by omega, hw_set r (b + 1) i e]
theorem cW_set (h0 sz i : Nat) (r e : va_E) (es : List va_E) : (cW h0 sz r es).set (i + 1) (sz + i, e) = cW h0 sz r (es.set i e) := by
  unfold cW
  rw [List.set_cons_succ, hw_set]
theorem cW_push (h0 sz : Nat) (r : va_E) (es xs : List va_E) : cW h0 sz r es ++ hw (sz + es.length) xs = cW h0 sz r (es ++ xs) := by
  unfold cW
  rw [List.cons_append, ← hw_app]
/-- the class of an array of each sort, by the tables -/
def zOv (U : State) : Prop := (Cond.arrayOver (.object "FrameCollapse$Frame")).before #[] U = true ∧ (Cond.arrayOver (.array .int)).before #[] U = true ∧ (Cond.arrayOver (.array .long)).before #[] U = true
theorem zOv.alike {s U : State} (hv : s.vm.Alike U.vm) (h : zOv s) : zOv U := ⟨va_AO.moved hv h.1, arrayOver_alikeB hv h.2.1, arrayOver_alikeB hv h.2.2⟩
theorem zOv.same {s U : State} (hv : s.vm = U.vm) (h : zOv s) : zOv U := zOv.alike (by rw [hv]; exact Vm.Alike.refl _) h
theorem zOv.moved {s U : State} (hW : s.WarmedH U.vm) (h : zOv s) : zOv U := zOv.alike hW.alike h
def Zc (E : ZE) (Y : ZY) (G : ZG) (ws : va_W) (n : Nat) (lv : List (Nat × Value)) (st : List Value) (pc : Nat) : Prop :=
  match E, Y with
  | (l, R, nL, cells, slots), (p, e, s, m, args, below, meth, c, A, Q) => ∀ (H : Heap) (locs : List Loc) (ls : Array Slot), va_P G.2.1 vwCl ws H → H.size = n → va_S A s.heap H locs → lv_has ls nL lv → W p l e R s m args below meth c H locs cells slots Q (F0 m pc ls st)
def zcOk (E : ZE) (Y : ZY) (G : ZG) (cc : ByteArray) (own : String) (h0 sz : Nat) : Prop :=
  match E, Y with
  | (_, _, nL, _, _), (p, _, s, m, args, _, meth, c, A, _) => p.tables.exec = Jvm.exec ∧ c.code = cc ∧ c.maxLocals = nL ∧ s.vm.findClass own = some m.cls ∧ (∀ w ∈ WA, w.before args s = true) ∧ meth.sig.returnType = none ∧ meth.locks = false ∧ va_K G.2.1 vwCl (zT G) s ∧ zNW s ∧ zOv s ∧ (∀ q : Nat, (q = h0 ∨ sz ≤ q) → A q) ∧ s.heap.size = sz ∧ h0 < sz ∧ meth.name = "<init>"
def zcRet (E : ZE) (Y : ZY) (G : ZG) (h0 sz : Nat) (r : va_E) (es : List va_E) (mc ms : Nat) : Prop :=
  match E, Y with
  | (_, _, _, _, _), (_, _, s, _, args, below, _, _, A, Q) => Q = MQ below (fun _ st oc t => (oc = .returned none ∧ t.heap.size = sz + es.length ∧ va_P G.2.1 vwCl (cW h0 sz r es) t.heap) ∧ va_F (fun q => q = h0 ∨ sz ≤ q) st t) args s mc ms A ∧ A = (fun q => q = h0 ∨ sz ≤ q)
def zCt (l : Launch) (G : ZG) (y : MethodName) (cc : ByteArray) (maxL : Nat) (rm : Room) (k : Nat) (fs0 : List Value) (fin : Nat → List Value) (es : Nat → List va_E) (mc ms : Nat) : Prop :=
  ∀ sz h0 : Nat, h0 < sz → Met l y (Cond.code y cc maxL none :: WA) rm (va_Pc [.ref h0] (fun U => U.heap.size = sz ∧ va_P G.2.1 vwCl [(h0, .inr (k, fs0))] U.heap ∧ va_K G.2.1 vwCl (zT G) U ∧ zNW U ∧ zOv U)) (fun _ st oc t => (oc = .returned none ∧ t.heap.size = sz + (es sz).length ∧ va_P G.2.1 vwCl (cW h0 sz (.inr (k, fin sz)) (es sz)) t.heap) ∧ va_F (fun q => q = h0 ∨ sz ≤ q) st t) mc ms (fun q => q = h0 ∨ sz ≤ q)
theorem zc_met {l : Launch} {G : ZG} {y : MethodName} {cc : ByteArray} {maxL : Nat} {rm : Room} {k : Nat} {fs0 : List Value} {fin : Nat → List Value} {es : Nat → List va_E} {mc ms : Nat} (hy : plainFor y = true) (hnm : y.name = "<init>") (hlen : Nat.ble 1 maxL = true) (body : ∀ (sz h0 : Nat) (Y : ZY), zcOk (l, rm, maxL, 0, 0) Y G cc y.cls h0 sz → zcRet (l, rm, maxL, 0, 0) Y G h0 sz (.inr (k, fin sz)) (es sz) mc ms → Zc (l, rm, maxL, 0, 0) Y G (cW h0 sz (.inr (k, fs0)) []) sz [(0, .ref h0)] [] 0) : zCt l G y cc maxL rm k fs0 fin es mc ms := by
  intro sz h0 hh
  refine z_ofWF (cc := cc) (maxL := maxL) (ret := none) hy rfl ?_
  intro p e s m args below meth c s₁ B hml hv
  obtain ⟨rfl, hsz, hP, hK, hN, hO⟩ := hv
  have hx := B.exec
  have hb := B.bytes
  have hr := B.returns
  have hts := atoms_spec (ws := Cond.code y cc maxL none :: WA) B.pre
  have hown : s.vm.findClass y.cls = some m.cls := findClass_of_methodNamed B.named
  have hlocks := B.notSynchronized
  have hl := lv_entry [.ref h0] (n := maxL) (Nat.le_of_ble_eq_true hlen)
  rw [lg_entry_eq]
  have hnm2 : meth.name = "<init>" := (name_of_methodNamed B.named B.method).1.trans hnm
  exact body sz h0 (p, e, s, m, #[.ref h0], below, meth, c, fun q => q = h0 ∨ sz ≤ q, _) ⟨hx, hb, hml, hown, fun w hw => hts w (List.mem_cons_of_mem _ hw), hr, hlocks, hK, hN, hO, fun q h => h, hsz, hh, hnm2⟩ ⟨rfl, rfl⟩ s.heap [] _ hP hsz va_S.rf hl
section ZCT
variable {l : Launch} {R : Room} {nL cells slots : Nat} {Y : ZY} {G : ZG} {cc : ByteArray} {own : String} {h0 sz n : Nat} {r : va_E} {es : List va_E} {lv : List (Nat × Value)} {st : List Value} {pc : Nat}
theorem cz_aload {cc1 ss1 : Nat} (h : zcOk (l, R, nL, cc1, ss1) Y G cc own h0 sz) {ws : va_W} {kk : Fin 4} {i x : Nat} (hdg : decode cc pc = .ok (.aload_n kk, 1)) (hi : (kk : Nat) = i) (q : Nat) (hq : lv[q]? = some (i, .ref x)) (k : Zc (l, R, nL, cells, slots) Y G ws n lv (.ref x :: st) (pc + 1)) : Zc (l, R, nL, cells, slots) Y G ws n lv st pc := by
  obtain ⟨p, e, s, m, args, below, meth, c, A, Q⟩ := Y
  obtain ⟨hx, hb, hok⟩ := h
  intro H locs ls hP hz hS hl
  exact lv_aload_n hx hb hdg hi (lv_at hl q hq) (k H locs ls hP hz hS hl)
theorem cz_iload {cc1 ss1 : Nat} (h : zcOk (l, R, nL, cc1, ss1) Y G cc own h0 sz) {ws : va_W} {kk : Fin 4} {i : Nat} {x : Int32} (hdg : decode cc pc = .ok (.iload_n kk, 1)) (hi : (kk : Nat) = i) (q : Nat) (hq : lv[q]? = some (i, .int x)) (k : Zc (l, R, nL, cells, slots) Y G ws n lv (.int x :: st) (pc + 1)) : Zc (l, R, nL, cells, slots) Y G ws n lv st pc := by
  obtain ⟨p, e, s, m, args, below, meth, c, A, Q⟩ := Y
  obtain ⟨hx, hb, hok⟩ := h
  intro H locs ls hP hz hS hl
  exact lv_iload_n hx hb hdg hi (lv_at hl q hq) (k H locs ls hP hz hS hl)
theorem cz_iconst {cc1 ss1 : Nat} (h : zcOk (l, R, nL, cc1, ss1) Y G cc own h0 sz) {ws : va_W} {c0 : Int} {v : Int32} (hdg : decode cc pc = .ok (.iconst c0, 1)) (hv : Int32.ofInt c0 = v) (k : Zc (l, R, nL, cells, slots) Y G ws n lv (.int v :: st) (pc + 1)) : Zc (l, R, nL, cells, slots) Y G ws n lv st pc := by
  obtain ⟨p, e, s, m, args, below, meth, c, A, Q⟩ := Y
  obtain ⟨hx, hb, hok⟩ := h
  intro H locs ls hP hz hS hl
  exact lv_iconst hx hb hdg hv (k H locs ls hP hz hS hl)
theorem cz_bipush {cc1 ss1 : Nat} (h : zcOk (l, R, nL, cc1, ss1) Y G cc own h0 sz) {ws : va_W} {c0 : Int} {v : Int32} (hdg : decode cc pc = .ok (.bipush c0, 2)) (hv : (Int8.ofInt c0).toInt32 = v) (k : Zc (l, R, nL, cells, slots) Y G ws n lv (.int v :: st) (pc + 2)) : Zc (l, R, nL, cells, slots) Y G ws n lv st pc := by
  obtain ⟨p, e, s, m, args, below, meth, c, A, Q⟩ := Y
  obtain ⟨hx, hb, hok⟩ := h
  intro H locs ls hP hz hS hl
  exact lv_bipush hx hb hdg hv (k H locs ls hP hz hS hl)
theorem cz_sipush {cc1 ss1 : Nat} (h : zcOk (l, R, nL, cc1, ss1) Y G cc own h0 sz) {ws : va_W} {c0 : Int} {v : Int32} (hdg : decode cc pc = .ok (.sipush c0, 3)) (hv : (Int16.ofInt c0).toInt32 = v) (k : Zc (l, R, nL, cells, slots) Y G ws n lv (.int v :: st) (pc + 3)) : Zc (l, R, nL, cells, slots) Y G ws n lv st pc := by
  obtain ⟨p, e, s, m, args, below, meth, c, A, Q⟩ := Y
  obtain ⟨hx, hb, hok⟩ := h
  intro H locs ls hP hz hS hl
  exact lv_sipush hx hb hdg hv (k H locs ls hP hz hS hl)
theorem cz_lconst {cc1 ss1 : Nat} (h : zcOk (l, R, nL, cc1, ss1) Y G cc own h0 sz) {ws : va_W} {c0 : Fin 2} {v : Int64} (hdg : decode cc pc = .ok (.lconst c0, 1)) (hv : Int64.ofNat (c0 : Nat) = v) (k : Zc (l, R, nL, cells, slots) Y G ws n lv (.long v :: st) (pc + 1)) : Zc (l, R, nL, cells, slots) Y G ws n lv st pc := by
  obtain ⟨p, e, s, m, args, below, meth, c, A, Q⟩ := Y
  obtain ⟨hx, hb, hok⟩ := h
  intro H locs ls hP hz hS hl
  exact lv_lconst hx hb hdg hv (k H locs ls hP hz hS hl)
theorem cz_dup {cc1 ss1 : Nat} (h : zcOk (l, R, nL, cc1, ss1) Y G cc own h0 sz) {ws : va_W} {x : Nat} (hdg : decode cc pc = .ok (.dup, 1)) (k : Zc (l, R, nL, cells, slots) Y G ws n lv (.ref x :: .ref x :: st) (pc + 1)) : Zc (l, R, nL, cells, slots) Y G ws n lv (.ref x :: st) pc := by
  obtain ⟨p, e, s, m, args, below, meth, c, A, Q⟩ := Y
  obtain ⟨hx, hb, hok⟩ := h
  intro H locs ls hP hz hS hl
  exact lv_dup hx hb hdg rfl (k H locs ls hP hz hS hl)
theorem cz_goto {cc1 ss1 : Nat} (h : zcOk (l, R, nL, cc1, ss1) Y G cc own h0 sz) {ws : va_W} {off : Int} {tgt : Nat} (hdg : decode cc pc = .ok (.goto off, 3)) (ht : (pc : Int) + off = (tgt : Int)) (k : Zc (l, R, nL, cells, slots) Y G ws n lv st tgt) : Zc (l, R, nL, cells, slots) Y G ws n lv st pc := by
  obtain ⟨p, e, s, m, args, below, meth, c, A, Q⟩ := Y
  obtain ⟨hx, hb, hok⟩ := h
  intro H locs ls hP hz hS hl
  exact lv_goto hx hb hdg ht (k H locs ls hP hz hS hl)
theorem cz_icmp_ge_f {cc1 ss1 : Nat} (h : zcOk (l, R, nL, cc1, ss1) Y G cc own h0 sz) {ws : va_W} {x y : Int32} {off : Int} {tgt : Nat} (hdg : decode cc pc = .ok (.if_icmp .ge off, 3)) (ht : (pc : Int) + off = (tgt : Int)) (hf : ¬ y ≤ x) (k : Zc (l, R, nL, cells, slots) Y G ws n lv st (pc + 3)) : Zc (l, R, nL, cells, slots) Y G ws n lv (.int y :: .int x :: st) pc := by
  obtain ⟨p, e, s, m, args, below, meth, c, A, Q⟩ := Y
  obtain ⟨hx, hb, hok⟩ := h
  intro H locs ls hP hz hS hl
  exact lv_icmp_ge hx hb hdg ht (fun q => absurd q hf) (fun _ => k H locs ls hP hz hS hl)
theorem cz_icmp_ge_t {cc1 ss1 : Nat} (h : zcOk (l, R, nL, cc1, ss1) Y G cc own h0 sz) {ws : va_W} {x y : Int32} {off : Int} {tgt : Nat} (hdg : decode cc pc = .ok (.if_icmp .ge off, 3)) (ht : (pc : Int) + off = (tgt : Int)) (hf : y ≤ x) (k : Zc (l, R, nL, cells, slots) Y G ws n lv st tgt) : Zc (l, R, nL, cells, slots) Y G ws n lv (.int y :: .int x :: st) pc := by
  obtain ⟨p, e, s, m, args, below, meth, c, A, Q⟩ := Y
  obtain ⟨hx, hb, hok⟩ := h
  intro H locs ls hP hz hS hl
  exact lv_icmp_ge hx hb hdg ht (fun _ => k H locs ls hP hz hS hl) (fun q => absurd hf q)
theorem cz_istore {cc1 ss1 : Nat} (h : zcOk (l, R, nL, cc1, ss1) Y G cc own h0 sz) {ws : va_W} {kk : Fin 4} {i : Nat} {x : Int32} {lv' : List (Nat × Value)} (hdg : decode cc pc = .ok (.istore_n kk, 1)) (hi : (kk : Nat) = i) (hn : i < nL) (hl' : (i, Value.int x) :: lv.filter (fun q => !(q.1 == i) && !(q.1 + 1 == i && q.2.category == 2)) = lv') (k : Zc (l, R, nL, cells, slots) Y G ws n lv' st (pc + 1)) : Zc (l, R, nL, cells, slots) Y G ws n lv (.int x :: st) pc := by
  obtain ⟨p, e, s, m, args, below, meth, c, A, Q⟩ := Y
  obtain ⟨hx, hb, hok⟩ := h
  intro H locs ls hP hz hS hl
  exact lv_istore_n hx hb hdg hi hl hn hl' (fun ls hl => k H locs ls hP hz hS hl)
theorem cz_iinc {cc1 ss1 : Nat} (h : zcOk (l, R, nL, cc1, ss1) Y G cc own h0 sz) {ws : va_W} {i : Nat} {c0 : Int} {x v : Int32} {lv' : List (Nat × Value)} (hdg : decode cc pc = .ok (.iinc i c0, 3)) (q : Nat) (hq : lv[q]? = some (i, .int x)) (hv : x + Int32.ofInt c0 = v) (hn : i < nL) (hl' : (i, Value.int v) :: lv.filter (fun q => !(q.1 == i) && !(q.1 + 1 == i && q.2.category == 2)) = lv') (k : Zc (l, R, nL, cells, slots) Y G ws n lv' st (pc + 3)) : Zc (l, R, nL, cells, slots) Y G ws n lv st pc := by
  obtain ⟨p, e, s, m, args, below, meth, c, A, Q⟩ := Y
  obtain ⟨hx, hb, hok⟩ := h
  intro H locs ls hP hz hS hl
  exact lv_iinc hx hb hdg hl (k := q) hq hv hn hl' (fun ls hl => k H locs ls hP hz hS hl)
theorem cz_obj {cc1 ss1 : Nat} (h : zcOk (l, R, nL, cc1, ss1) Y G cc own h0 sz) {ws : va_W} {x index : Nat} (w1 : Cond.methodLink own index Lib.objectInit ∈ WA) (w2 : Cond.instanceMethod Lib.objectInit ∈ WA) (w3 : Cond.code Lib.objectInit ⟨#[0xb1]⟩ 1 none ∈ WA) (hR : Nat.ble 1 R.frames = true) (hL : Nat.ble ((st.map fun v => v.category).sum + 12) R.locals = true) (hdg : decode cc pc = .ok (.invokespecial index, 3)) (k : Zc (l, R, nL, cells, slots) Y G ws n lv st (pc + 3)) : Zc (l, R, nL, cells, slots) Y G ws n lv (.ref x :: st) pc := by
  obtain ⟨p, e, s, m, args, below, meth, c, A, Q⟩ := Y
  obtain ⟨hx, hb, hml, hown, hts, hok⟩ := h
  intro H locs ls hP hz hS hl
  have := Nat.le_of_ble_eq_true hL
  exact W.objInit hx hb hown (hts _ w1) (hts _ w2) (hts _ w3) rfl (hl.1.trans hml.symm) rfl hdg (Nat.le_of_ble_eq_true hR) (by show 2 * 0 + _ + 12 ≤ _; omega) (k H locs ls hP hz hS hl)
theorem cz_ret {cc1 ss1 : Nat} (h : zcOk (l, R, nL, cc1, ss1) Y G cc own h0 sz) (hq : zcRet (l, R, nL, cc1, ss1) Y G h0 sz r es cells slots) (hn : n = sz + es.length) (hdg : decode cc pc = .ok (.return_, 1)) : Zc (l, R, nL, cells, slots) Y G (cW h0 sz r es) n lv [] pc := by
  obtain ⟨p, e, s, m, args, below, meth, c, A, Q⟩ := Y
  obtain ⟨hx, hb, hml, hown, hts, hr, hlk, hok⟩ := h
  intro H locs ls hP hz hS hl
  obtain ⟨hq, hA⟩ := hq
  rw [hq]
  exact W.vret hx hb hr (fun t ht hW => ⟨⟨rfl, by rw [ht, hz, hn], by rw [ht]; exact hP⟩, by rw [← hA]; exact hS.F ht⟩) hS.2.2 hdg
/-- a new object -/
theorem cz_new {cc1 ss1 : Nat} (h : zcOk (l, R, nL, cc1, ss1) Y G cc own h0 sz) {k : Nat} {C : String} {T : u_T} {N index : Nat} (hC : zCl k C T N) {fs : List Value} (ty : Nat → FieldType) (hty : ∀ j, j < N → parseFieldDescriptor (T j).2.2.1 = some (ty j)) (hfs : ∀ j, j < N → defaultValue (ty j) = vp_V fs j) (w1 : Cond.classLink own index C ∈ WA) (w2 : Cond.instantiable C N ∈ WA) (w3 : Cond.initialized C ∈ WA) (hn : n = sz + es.length) (hc : Nat.ble (cells + 1) R.cells = true) (hs : Nat.ble (slots + N) R.slots = true) (hdg : decode cc pc = .ok (.new index, 3)) (kk : Zc (l, R, nL, cells + 1, slots + N) Y G (cW h0 sz r (es ++ [.inr (k, fs)])) (n + 1) lv (.ref n :: st) (pc + 3)) : Zc (l, R, nL, cells, slots) Y G (cW h0 sz r es) n lv st pc := by
  obtain ⟨p, e, s, m, args, below, meth, c, A, Q⟩ := Y
  obtain ⟨hx, hb, hml, hown, hts, hr, hlk, hK, hN, hO, hA, hsz, hh, hnm⟩ := h
  obtain ⟨hc1, hc2, hc3, hc4, hc5⟩ := hC
  intro H locs ls hP hz hS hl
  have hKn := hK.1 k _ hc1
  refine W.newcK hx hb hown (hts _ w1) (hts _ w2) (hts _ w3) rfl hdg (Nat.le_of_ble_eq_true hc) (Nat.le_of_ble_eq_true hs) hKn.2.1 rfl fun H1 kC hkC e1 z1 o1 => ?_
  have hk : ∀ (i : Nat) (x : Nat × va_E), (cW h0 sz r es)[i]? = some x → H1[x.1]? = H[x.1]? := fun i x hx => o1 x.1 ((hP i x hx).lt)
  rw [hz]
  refine kk H1 locs ls ?_ (by rw [z1, hz]) ⟨Nat.le_trans hS.1 (by omega), fun x h1 h2 => (o1 x (Nat.lt_of_lt_of_le h1 hS.1)).trans (hS.2.1 x h1 h2), hS.2.2⟩ hl
  rw [← cW_push, ← hn]
  refine (hP.kept hk).app (fun i x hx => ?_)
  have hz0 : i < 1 := (List.getElem?_eq_some_iff.mp hx).1
  rw [show i = 0 by omega] at hx
  cases hx
  rw [← hz]
  exact ⟨_, hc1, (u_born ty hts hc3 hKn hkC e1 hty).to hfs⟩
/-- a new array of numbers -/
theorem cz_newa {cc1 ss1 : Nat} (h : zcOk (l, R, nL, cc1, ss1) Y G cc own h0 sz) {atype : ArrayType} {ty : FieldType} (hty : newarray.typeOf atype = ty) {t N : Nat} {v : Int32} {a0 : vp_A} (w : Cond.arrayClass ty ∈ WA) (ht : (zT G)[t]? = some (G.2.2 (t + 1), ty)) (ha : ∀ cA : ClassId, vp_cell cA a0 = arrV cA N (fun _ => defaultValue ty)) (hv : ¬ v < 0) (hN : v.toNatClampNeg = N) (hra : ∀ cA, va_RA Y.2.2.1 cA ty → Y.2.2.1.vm.findClass ("[" ++ ty.toString) = some cA) (hby : Nat.ble (N * componentBytes ty) 536870912 = true) (hn : n = sz + es.length) (hc : Nat.ble (cells + 1) R.cells = true) (hs : Nat.ble (slots + N) R.slots = true) (hdg : decode cc pc = .ok (.newarray atype, 2)) (kk : Zc (l, R, nL, cells + 1, slots + N) Y G (cW h0 sz r (es ++ [.inl (G.2.2 (t + 1), a0)])) (n + 1) lv (.ref n :: st) (pc + 2)) : Zc (l, R, nL, cells, slots) Y G (cW h0 sz r es) n lv (.int v :: st) pc := by
  obtain ⟨p, e, s, m, args, below, meth, c, A, Q⟩ := Y
  obtain ⟨hx, hb, hml, hown, hts, hr, hlk, hK, hNw, hO, hA, hsz, hh, hnm⟩ := h
  intro H locs ls hP hz hS hl
  subst hty
  refine va_newaK hx hb (hts _ w) rfl hdg rfl hv hN (Nat.le_of_ble_eq_true hby) (Nat.le_of_ble_eq_true hc) (Nat.le_of_ble_eq_true hs) hz fun H1 cA e1 z1 o1 f1 f2 => ?_
  have hcA : cA = G.2.2 (t + 1) := Option.some.inj (f2.symm.trans (hra _ (hK.2 _ _ ht).2))
  subst hcA
  rw [← hz] at o1
  have hk : ∀ (i : Nat) (x : Nat × va_E), (cW h0 sz r es)[i]? = some x → H1[x.1]? = H[x.1]? := fun i x hx => o1 x.1 ((hP i x hx).lt)
  refine kk H1 locs ls ?_ z1 ⟨Nat.le_trans hS.1 (by omega), fun x h1 h2 => (o1 x (Nat.lt_of_lt_of_le h1 hS.1)).trans (hS.2.1 x h1 h2), hS.2.2⟩ hl
  rw [← cW_push, ← hn]
  refine (hP.kept hk).app (fun i x hx => ?_)
  have hz0 : i < 1 := (List.getElem?_eq_some_iff.mp hx).1
  rw [show i = 0 by omega] at hx
  cases hx
  show H1[n]? = some (vp_cell _ _)
  rw [e1, ha]
/-- a new row of rows -/
theorem cz_mna {cc1 ss1 : Nat} (h : zcOk (l, R, nL, cc1, ss1) Y G cc own h0 sz) {ty : FieldType} {t u N M index : Nat} {vn vm : Int32} {a0 : vp_A} (w1 : Cond.classLink own index ("[" ++ (FieldType.array ty).toString) ∈ WA) (w2 : Cond.arrayClass ty ∈ WA) (hov : zOv Y.2.2.1 → (Cond.arrayOver (.array ty)).before #[] Y.2.2.1 = true) (ht : (zT G)[t]? = some (G.2.2 (t + 1), ty)) (hu : (zT G)[u]? = some (G.2.2 (u + 1), .array ty)) (hra : ∀ cA, va_RA Y.2.2.1 cA ty → Y.2.2.1.vm.findClass ("[" ++ ty.toString) = some cA) (ha : ∀ cA : ClassId, vp_cell cA a0 = arrV cA M (fun _ => defaultValue ty)) (hv : ¬ vn < 0) (hv2 : ¬ vm < 0) (hN : vn.toNatClampNeg = N) (hM : vm.toNatClampNeg = M) (hb1 : Nat.ble (N * 4) 536870912 = true) (hb2 : Nat.ble (M * componentBytes ty) 536870912 = true) (hb3 : Nat.ble M 536870912 = true) (hdf : fits ty (defaultValue ty) = true) (hdd : (defaultValue ty).isDefault = true) (hn : n = sz + es.length) (hc : Nat.ble (cells + (1 + N)) R.cells = true) (hs : Nat.ble (slots + (N + N * M)) R.slots = true) (hdg : decode cc pc = .ok (.multianewarray index 2, 4)) (kk : Zc (l, R, nL, cells + 1 + N, slots + N + N * M) Y G (cW h0 sz r (es ++ (.inl (G.2.2 (u + 1), N, .inr (.inr (.inr (.inr (fun i => if i < N then some (n + 1 + i) else none))))) :: List.replicate N (.inl (G.2.2 (t + 1), a0))))) (n + 1 + N) lv (.ref n :: st) (pc + 4)) : Zc (l, R, nL, cells, slots) Y G (cW h0 sz r es) n lv (.int vm :: .int vn :: st) pc := by
  obtain ⟨p, e, s, m, args, below, meth, c, A, Q⟩ := Y
  obtain ⟨hx, hb, hml, hown, hts, hr, hlk, hK, hNw, hO, hA, hsz, hh, hnm⟩ := h
  intro H locs ls hP hz hS hl
  subst hN; subst hM
  intro T hT X
  have hov2 : (Cond.arrayOver (.array ty)).before args s = true := hov hO
  obtain ⟨vm₁, cA, comp, -, fA, fC, hOu, -, X', step⟩ := X.multianewarray2F hx hown (hts _ w1) hov2 (hts _ w2) (g := F0 m pc ls (.int vm :: .int vn :: st)) rfl (by rw [hb]; exact hdg) (n := vn) (k := vm) (rest := st) rfl hv hv2 (Nat.le_of_ble_eq_true hb1) (Nat.le_of_ble_eq_true hb2) (Nat.le_of_ble_eq_true hb3) hdf hdd (Nat.le_of_ble_eq_true hc) (Nat.le_of_ble_eq_true hs)
  have hTz : T.heap.size = n := by rw [hT]; exact hz
  have ff := Jvm.Free.Multi.fill_facts (T.setVm vm₁) cA comp vn.toNatClampNeg vm.toNatClampNeg (defaultValue ty) vn.toNatClampNeg
  have fi := Jvm.Free.Multi.fill_inner (T.setVm vm₁) cA comp vn.toNatClampNeg vm.toNatClampNeg (defaultValue ty) vn.toNatClampNeg
  have fo : ∀ q : Nat, q < n → (Jvm.Free.Multi.fill (T.setVm vm₁) cA comp vn.toNatClampNeg vm.toNatClampNeg (defaultValue ty) vn.toNatClampNeg).heap[q]? = T.heap[q]? := fun q hq => Jvm.Free.Multi.fill_old (T.setVm vm₁) cA comp vn.toNatClampNeg vm.toNatClampNeg (defaultValue ty) (by show q < T.heap.size; omega) _
  have hsz2 : (T.setVm vm₁).heap.size = n := hTz
  rw [hsz2] at ff fi
  generalize hF : Jvm.Free.Multi.fill (T.setVm vm₁) cA comp vn.toNatClampNeg vm.toNatClampNeg (defaultValue ty) vn.toNatClampNeg = F at X' step ff fi fo
  have hcA : cA = G.2.2 (u + 1) := Option.some.inj (fA.symm.trans (hK.2 _ _ hu).2)
  have hcm : comp = G.2.2 (t + 1) := Option.some.inj (fC.symm.trans (hra _ (hK.2 _ _ ht).2))
  subst hcA
  subst hcm
  have hfo : ∀ q : Nat, q < n → F.heap[q]? = H[q]? := fun q hq => by rw [fo q hq, hT]
  have hk : ∀ (i : Nat) (x : Nat × va_E), (cW h0 sz r es)[i]? = some x → F.heap[x.1]? = H[x.1]? := fun i x hx => hfo x.1 (by have := (hP i x hx).lt; omega)
  have hPF : va_P G.2.1 vwCl (cW h0 sz r (es ++ (.inl (G.2.2 (u + 1), vn.toNatClampNeg, .inr (.inr (.inr (.inr (fun i => if i < vn.toNatClampNeg then some (n + 1 + i) else none))))) :: List.replicate vn.toNatClampNeg (.inl (G.2.2 (t + 1), a0))))) F.heap := by
    rw [← cW_push, ← hn]
    refine (hP.kept hk).app (fun i x hx => ?_)
    rw [hw_get] at hx
    cases i with
    | zero =>
      cases hx
      show F.heap[n + 0]? = some (vp_cell _ _)
      rw [Nat.add_zero, ff.2.1, vr_outer, vp_cell_q]
    | succ i =>
      rw [List.getElem?_cons_succ, List.getElem?_replicate] at hx
      by_cases hi : i < vn.toNatClampNeg
      · rw [if_pos hi] at hx
        cases hx
        show F.heap[n + (i + 1)]? = some (vp_cell _ _)
        rw [show n + (i + 1) = n + 1 + i by omega, fi i hi, ha, ← arrV_new]
        rfl
      · rw [if_neg hi] at hx
        cases hx
  obtain ⟨tt, a1, b1⟩ := kk F.heap locs ls hPF ff.1 ⟨Nat.le_trans hS.1 (by rw [ff.1]; omega), fun x h1 h2 => (hfo x (by have := hS.1; omega)).trans (hS.2.1 x h1 h2), hS.2.2⟩ hl F rfl X'
  refine ⟨tt, step tt ?_, b1⟩
  rw [hTz]
  exact a1
/-- a new row of objects -/
theorem cz_newq {cc1 ss1 : Nat} (h : zcOk (l, R, nL, cc1, ss1) Y G cc own h0 sz) {N index : Nat} {v : Int32} (w1 : Cond.classLink own index "FrameCollapse$Frame" ∈ WA) (hv : ¬ v < 0) (hN : v.toNatClampNeg = N) (hby : Nat.ble (N * 4) 536870912 = true) (hn : n = sz + es.length) (hc : Nat.ble (cells + 1) R.cells = true) (hs : Nat.ble (slots + N) R.slots = true) (hdg : decode cc pc = .ok (.anewarray index, 3)) (kk : Zc (l, R, nL, cells + 1, slots + N) Y G (cW h0 sz r (es ++ [.inl (G.2.2 4, N, .inr (.inr (.inr (.inr (fun _ => none)))))])) (n + 1) lv (.ref n :: st) (pc + 3)) : Zc (l, R, nL, cells, slots) Y G (cW h0 sz r es) n lv (.int v :: st) pc := by
  obtain ⟨p, e, s, m, args, below, meth, c, A, Q⟩ := Y
  obtain ⟨hx, hb, hml, hown, hts, hr, hlk, hK, hNw, hO, hA, hsz, hh, hnm⟩ := h
  intro H locs ls hP hz hS hl
  subst hN
  refine W.anew hx hb hown (hts _ w1) (va_AO.use hO.1) rfl hdg rfl hv (Nat.le_of_ble_eq_true hby) (Nat.le_of_ble_eq_true hc) (Nat.le_of_ble_eq_true hs) fun cA kA comp f1 f2 f3 f4 => ?_
  have hra := (hK.2 3 _ rfl).2
  obtain ⟨kA', comp', g1, g2, g3, g4⟩ := hra
  have hcA : cA = G.2.2 4 := Option.some.inj (f1.symm.trans g4)
  subst hcA
  generalize hH1 : H.push ({ cls := G.2.2 4, slots := Array.replicate v.toNatClampNeg .null, vm := .none } : Cell) = H1
  have z1 : H1.size = H.size + 1 := by rw [← hH1, Array.size_push]
  have e1 : H1[H.size]? = some (arrV (G.2.2 4) v.toNatClampNeg (fun _ => .null)) := by rw [← hH1, Array.getElem?_push_size, ← arrV_new]
  have o1 : ∀ q : Nat, q < H.size → H1[q]? = H[q]? := fun q hq => by rw [← hH1, Array.getElem?_push, if_neg (Nat.ne_of_lt hq)]
  have hk : ∀ (i : Nat) (x : Nat × va_E), (cW h0 sz r es)[i]? = some x → H1[x.1]? = H[x.1]? := fun i x hx => o1 x.1 ((hP i x hx).lt)
  rw [hz]
  refine kk H1 locs ls ?_ (by rw [z1, hz]) ⟨Nat.le_trans hS.1 (by omega), fun x h1 h2 => (o1 x (Nat.lt_of_lt_of_le h1 hS.1)).trans (hS.2.1 x h1 h2), hS.2.2⟩ hl
  rw [← cW_push, ← hn]
  refine (hP.kept hk).app (fun i x hx => ?_)
  have hz0 : i < 1 := (List.getElem?_eq_some_iff.mp hx).1
  rw [show i = 0 by omega] at hx
  cases hx
  show H1[n]? = some (vp_cell _ _)
  rw [← hz, e1]
  rfl
theorem cz_putF {cc1 ss1 : Nat} (h : zcOk (l, R, nL, cc1, ss1) Y G cc own h0 sz) {k : Nat} {T : u_T} {N index : Nat} (hC : zCl k own T N) {fs fs' : List Value} (j : Nat) (hj : Nat.blt j N = true) (w : Cond.fieldLink own index own (T j).2.1 (T j).2.2.1 ∈ WA) (hfin : (T j).2.2.2 = true) {ty : FieldType} {v : Value} (hd : parseFieldDescriptor (T j).2.2.1 = some ty) (hnr : narrow ty v = v) (hfit : fits ty v = true) (hl0 : Nat.blt j fs.length = true) (hfs : fs.set j v = fs') (hdg : decode cc pc = .ok (.putfield index, 3)) (kk : Zc (l, R, nL, cells, slots) Y G (cW h0 sz (.inr (k, fs')) es) n lv st (pc + 3)) : Zc (l, R, nL, cells, slots) Y G (cW h0 sz (.inr (k, fs)) es) n lv (v :: .ref h0 :: st) pc := by
  obtain ⟨p, e, s, m, args, below, meth, c, A, Q⟩ := Y
  obtain ⟨hx, hb, hml, hown, hts, hr, hlk, hK, hNw, hO, hA, hsz, hh, hnm⟩ := h
  have hj : j < N := Nat.le_of_ble_eq_true hj
  have hl0 : j < fs.length := Nat.le_of_ble_eq_true hl0
  have hT := zC_own hC hj
  obtain ⟨hc1, hc2, hc3, ⟨ty0, hc4⟩, hc5⟩ := hC
  intro H locs ls hP hz hS hl
  subst hfs
  have hap := va_apart (own := own) hts hc3 ty0 hc4 hc5 hK hc1
  have he : (cW h0 sz (.inr (k, fs)) es)[0]? = some (h0, .inr (k, fs)) := rfl
  obtain ⟨r, h1, cell, q1, q2, q3, q4⟩ := hP 0 _ he
  have hr : r = (own, T, N) := Option.some.inj (h1.symm.trans hc1)
  subst hr
  obtain ⟨hSl, hfc, kC, hkC, hkind⟩ := hK.1 k _ hc1
  obtain ⟨cf, kf, fi, f, hi, hsl⟩ := hSl j hj
  have hlay := hts _ (hc3 _ (u_in_lay hj))
  unfold u_lay at hlay
  rw [if_pos hfin] at hlay
  have hst := (u_facts hfc hkC (u_lays hts hc3 hj) hi).1
  have hcf : m.cls = cf := by
    obtain ⟨_, _, c', _, _, _, -, -, hf', -, -, -, hown2, -⟩ := Cond.laysFinal_spec hlay
    have e1 : c' = cf := by have := hi.symm.trans hf'; simp at this; exact this.1.symm
    rw [hT] at hown2
    rw [← e1]; exact Option.some.inj (hown.symm.trans hown2)
  have h6 := u_fits hfc hkC hkind (Or.inr hlay) hi hd hnr hfit
  refine W.putFinK hx hb hown (hts _ w) (by rw [hT] at hi; exact hi) hst hcf hnm (by rw [q2]; exact h6) q1 q3 (by rw [hsl]; exact k2_hasslot (q4 j hj)) rfl rfl hdg fun H' e1 e2 e3 => ?_
  rw [hsl] at e1 ⊢
  have hP1 := hP.set (cW_D hh hA (.inr (k, fs)) es) he (e := .inr (k, fs.set j v)) ⟨_, hc1, t_OB.to (V := updV (vp_V fs) j v) ⟨_, e1, q2, q3, t_set q4 hap hj v⟩ (fun i _ => vp_updV_set hl0 v i)⟩ e3
  rw [cW_0] at hP1
  exact kk H' _ ls hP1 (by rw [e2, hz]) (hS.put e2 e3 (hA _ (Or.inl rfl))) hl
theorem cz_put {cc1 ss1 : Nat} (h : zcOk (l, R, nL, cc1, ss1) Y G cc own h0 sz) {k : Nat} {T : u_T} {N index : Nat} (hC : zCl k own T N) {fs fs' : List Value} (j : Nat) (hj : Nat.blt j N = true) (w : Cond.fieldLink own index own (T j).2.1 (T j).2.2.1 ∈ WA) (hfin : (T j).2.2.2 = false) {ty : FieldType} {v : Value} (hd : parseFieldDescriptor (T j).2.2.1 = some ty) (hnr : narrow ty v = v) (hfit : fits ty v = true) (hl0 : Nat.blt j fs.length = true) (hfs : fs.set j v = fs') (hdg : decode cc pc = .ok (.putfield index, 3)) (kk : Zc (l, R, nL, cells, slots) Y G (cW h0 sz (.inr (k, fs')) es) n lv st (pc + 3)) : Zc (l, R, nL, cells, slots) Y G (cW h0 sz (.inr (k, fs)) es) n lv (v :: .ref h0 :: st) pc := by
  obtain ⟨p, e, s, m, args, below, meth, c, A, Q⟩ := Y
  obtain ⟨hx, hb, hml, hown, hts, hr, hlk, hK, hNw, hO, hA, hsz, hh, hnm⟩ := h
  have hj : j < N := Nat.le_of_ble_eq_true hj
  have hl0 : j < fs.length := Nat.le_of_ble_eq_true hl0
  have hT := zC_own hC hj
  obtain ⟨hc1, hc2, hc3, ⟨ty0, hc4⟩, hc5⟩ := hC
  intro H locs ls hP hz hS hl
  subst hfs
  have hap := va_apart (own := own) hts hc3 ty0 hc4 hc5 hK hc1
  have he : (cW h0 sz (.inr (k, fs)) es)[0]? = some (h0, .inr (k, fs)) := rfl
  obtain ⟨r, h1, cell, q1, q2, q3, q4⟩ := hP 0 _ he
  have hr : r = (own, T, N) := Option.some.inj (h1.symm.trans hc1)
  subst hr
  obtain ⟨hSl, hfc, kC, hkC, hkind⟩ := hK.1 k _ hc1
  obtain ⟨cf, kf, fi, f, hi, hsl⟩ := hSl j hj
  have hlay := hts _ (hc3 _ (u_in_lay hj))
  unfold u_lay at hlay
  rw [if_neg (by rw [hfin]; decide)] at hlay
  have hst := (u_facts hfc hkC (u_lays hts hc3 hj) hi).1
  have h6 := u_store hfc hkC hkind hlay hi hd hnr hfit
  refine W.putK hx hb (f := f) ⟨hown, hts _ w, ⟨_, _, _, by rw [hT] at hi; exact hi⟩, hst⟩ (by rw [q2]; exact h6) q1 q3 (by rw [hsl]; exact k2_hasslot (q4 j hj)) rfl rfl hdg fun H' e1 e2 e3 => ?_
  rw [hsl] at e1 ⊢
  have hP1 := hP.set (cW_D hh hA (.inr (k, fs)) es) he (e := .inr (k, fs.set j v)) ⟨_, hc1, t_OB.to (V := updV (vp_V fs) j v) ⟨_, e1, q2, q3, t_set q4 hap hj v⟩ (fun i _ => vp_updV_set hl0 v i)⟩ e3
  rw [cW_0] at hP1
  exact kk H' _ ls hP1 (by rw [e2, hz]) (hS.put e2 e3 (hA _ (Or.inl rfl))) hl
/-- an object into a row of objects -/
theorem cz_ast {cc1 ss1 : Nat} (h : zcOk (l, R, nL, cc1, ss1) Y G cc own h0 sz) {i0 i1 N a v : Nat} {vs : List Value} {f : Nat → Option Nat} {i : Int32} {es' : List va_E} (ha : es[i0]? = some (.inl (G.2.2 4, N, .inr (.inr (.inr (.inr f)))))) (hv : es[i1]? = some (.inr (2, vs))) (ea : a = sz + i0) (ev : v = sz + i1) (hin : vp_in i N) (he' : es.set i0 (.inl (G.2.2 4, N, .inr (.inr (.inr (.inr (va_up f i.toNatClampNeg (some v))))))) = es') (hdg : decode cc pc = .ok (.aastore, 1)) (kk : Zc (l, R, nL, cells, slots) Y G (cW h0 sz r es') n lv st (pc + 1)) : Zc (l, R, nL, cells, slots) Y G (cW h0 sz r es) n lv (.ref v :: .int i :: .ref a :: st) pc := by
  obtain ⟨p, e, s, m, args, below, meth, c, A, Q⟩ := Y
  obtain ⟨hx, hb, hml, hown, hts, hr, hlk, hK, hNw, hO, hA, hsz, hh, hnm⟩ := h
  intro H locs ls hP hz hS hl
  subst he'; subst ea; subst ev
  have hlt : i.toNatClampNeg < N := Nat.not_le.mp fun q => hin (Or.inr q)
  have hi0 : ¬ i < 0 := fun q => hin (Or.inl q)
  obtain ⟨r', hr', cellV, g1, g2, g3, -⟩ := hP (i1 + 1) _ (cW_at hv)
  have hcls := (hK.1 2 (RX2, TX2, 9) rfl).2
  obtain ⟨kA, comp, k1, k2, k3, -⟩ := (hK.2 3 _ rfl).2
  have hcomp : comp = G.2.1.1 2 := Option.some.inj (k3.symm.trans hcls.1)
  subst hcomp
  obtain ⟨kC, hkC, -⟩ := hcls.2
  refine W.aast hx hb (hP (i0 + 1) _ (cW_at ha)) (fun q h => by cases h) (fun h => by cases h) k1 k2 rfl hkC ⟨hi0, by show _ < (arrV _ _ _).slots.size; rw [arrV_size]; exact hlt⟩ g1 (fun q h => by rw [g3] at h; cases h) (by rw [g2]; exact hkC) (by rw [g2]; exact va_assign hcls) rfl rfl hdg fun H1 e z oq => ?_
  have hP1 := hP.set (cW_D hh hA r es) (cW_at ha) (e := .inl (G.2.2 4, N, .inr (.inr (.inr (.inr (va_up f i.toNatClampNeg (some (sz + i1)))))))) (by
    show H1[sz + i0]? = some (vp_cell _ _)
    rw [e]
    rw [vp_cell_q, vp_cell_q, arrV_store]
    congr 2
    funext q
    by_cases hq : q = i.toNatClampNeg
    · subst hq
      simp [updV, va_up, va_rf]
    · simp [updV, va_up, hq]) oq
  rw [cW_set] at hP1
  exact kk H1 _ ls hP1 (by rw [z, hz]) (hS.put z oq (hA _ (Or.inr (Nat.le_add_right _ _)))) hl
/-- a field of the object that is made, and of one among the new -/
theorem cz_get {cc1 ss1 : Nat} (h : zcOk (l, R, nL, cc1, ss1) Y G cc own h0 sz) {k : Nat} {T : u_T} {N index : Nat} (hC : zCl k own T N) {fs : List Value} (j : Nat) (hj : Nat.blt j N = true) (w : Cond.fieldLink own index own (T j).2.1 (T j).2.2.1 ∈ WA) {v : Value} (hv : fs[j]? = some v) (hdg : decode cc pc = .ok (.getfield index, 3)) (kk : Zc (l, R, nL, cells, slots) Y G (cW h0 sz (.inr (k, fs)) es) n lv (v :: st) (pc + 3)) : Zc (l, R, nL, cells, slots) Y G (cW h0 sz (.inr (k, fs)) es) n lv (.ref h0 :: st) pc := by
  obtain ⟨p, e, s, m, args, below, meth, c, A, Q⟩ := Y
  obtain ⟨hx, hb, hml, hown, hts, hr, hlk, hK, hNw, hO, hA, hsz, hh, hnm⟩ := h
  have hj : j < N := Nat.le_of_ble_eq_true hj
  have hT := zC_own hC hj
  obtain ⟨hc1, hc2, hc3, hc4, hc5⟩ := hC
  intro H locs ls hP hz hS hl
  exact va_get hx hb hts hc3 hown hK hP 0 rfl hc1 j hj (hts _ w) (fun x hx => by rw [hT] at hx; exact hx) hv hdg (kk H locs ls hP hz hS hl)
theorem cz_getN {cc1 ss1 : Nat} (h : zcOk (l, R, nL, cc1, ss1) Y G cc own h0 sz) {k : Nat} {C : String} {T : u_T} {N index : Nat} (hC : zCl k C T N) {fs : List Value} {i a : Nat} (he : es[i]? = some (.inr (k, fs))) (ea : a = sz + i) (j : Nat) (hj : Nat.blt j N = true) (w : Cond.fieldLinkNest own index C (T j).2.1 (T j).2.2.1 "FrameCollapse" ∈ zNF) {v : Value} (hv : fs[j]? = some v) (hdg : decode cc pc = .ok (.getfield index, 3)) (kk : Zc (l, R, nL, cells, slots) Y G (cW h0 sz r es) n lv (v :: st) (pc + 3)) : Zc (l, R, nL, cells, slots) Y G (cW h0 sz r es) n lv (.ref a :: st) pc := by
  obtain ⟨p, e, s, m, args, below, meth, c, A, Q⟩ := Y
  obtain ⟨hx, hb, hml, hown, hts, hr, hlk, hK, hNw, hO, hA, hsz, hh, hnm⟩ := h
  have hj : j < N := Nat.le_of_ble_eq_true hj
  have hT := zC_own hC hj
  obtain ⟨hc1, hc2, hc3, hc4, hc5⟩ := hC
  intro H locs ls hP hz hS hl
  subst ea
  exact va_getN hx hb hts hc3 hown hK hP (i + 1) (cW_at he) hc1 j hj (va_Nw.use rfl (hNw.1 _ w)) (fun x hx => by rw [hT] at hx; exact hx) hv hdg (kk H locs ls hP hz hS hl)
/-- another maker's call, upon the object made last -/
theorem cz_ctor {cc1 ss1 : Nat} (h : zcOk (l, R, nL, cc1, ss1) Y G cc own h0 sz) {y : MethodName} {bytes : ByteArray} {maxL index k mc ms : Nat} {rm : Room} {fs0 : List Value} {fin : Nat → List Value} {xs : Nat → List va_E} (M : zCt l G y bytes maxL rm k fs0 fin xs mc ms) {a n' cells' slots' : Nat} (ea : a = sz + es.length) (hn : n = sz + es.length + 1)
    (w1 : Cond.methodLink own index y ∈ WA) (w2 : Cond.instanceMethod y ∈ WA) (w4 : Cond.initialized y.cls ∈ WA) (w5 : Cond.code y bytes maxL none ∈ WA) (hy1 : y.name = "<init>")
    (hd : (y.cls ≠ "java/lang/invoke/MethodHandle" ∧ y.cls ≠ "java/lang/invoke/VarHandle") ∧ (parseMethodDescriptor y.desc).map (fun d => d.parameters.length) = some 0) (hrm : rm.cells = mc ∧ rm.slots = ms) (hR : Nat.ble (rm.frames + 1) R.frames && Nat.ble (8 + (maxL + 11) + rm.locals) R.locals) (hcat : Nat.ble ((st.map fun v => v.category).sum) 8 = true) (hc : Nat.ble (cells + mc) R.cells = true) (hs : Nat.ble (slots + ms) R.slots = true) (ec : cells + mc = cells') (esl : slots + ms = slots') (hn' : n + (xs n).length = n') (hdg : decode cc pc = .ok (.invokespecial index, 3))
    (kk : Zc (l, R, nL, cells', slots') Y G (cW h0 sz r (es ++ (.inr (k, fin n) :: xs n))) n' lv st (pc + 3)) : Zc (l, R, nL, cells, slots) Y G (cW h0 sz r (es ++ [.inr (k, fs0)])) n lv (.ref a :: st) pc := by
  obtain ⟨p, e, s, m, args, below, meth, cd, A, Q⟩ := Y
  obtain ⟨hx, hb, hml, hown, hts, hr, hlk, hK, hNw, hO, hA, hsz, hh, hnm⟩ := h
  intro H locs ls hP hz hS hl
  rw [Bool.and_eq_true] at hR
  subst ec; subst esl; subst hn'
  have hGd : GoodIn WA (Cond.code y bytes maxL none :: WA) := fun w hw => by
    rcases List.mem_cons.mp hw with rfl | hw
    · exact WA_good _ w5
    · exact WA_good _ hw
  have hPq : va_P G.2.1 vwCl [(a, .inr (k, fs0))] H := fun i x hx => by
    have hi : i < 1 := (List.getElem?_eq_some_iff.mp hx).1
    rw [show i = 0 by omega] at hx
    cases hx
    exact hP (es.length + 1) _ (by rw [ea]; exact cW_at (by simp))
  have hr0 := va_runI (l := l) (e := e) (R := R) (below := below) (meth := meth) (locs := locs) (cells := cells) (slots := slots) (b := a) (As := []) (rest := st) (g := F0 m pc ls (.ref a :: st)) (index := index) (n := 0) ⟨hx, hb, hml, hown, hts⟩ (M n a (by omega)) ⟨callB_of 0 hts hGd rfl hrm.1 hrm.2 (hts _ w4) (hts _ w1) ⟨hd.1.1, hd.1.2, hd.2⟩ ⟨Nat.le_of_ble_eq_true hR.1, Nat.le_of_ble_eq_true hR.2⟩, hy1, hts _ w2⟩ ⟨fun a1 U g mk q => by
    obtain ⟨q0, q1, qP, qK, qN, qO⟩ := q
    exact ⟨q0, q1, qP, va_K.moved (u := U) (U := U.calling g mk a1) (Vm.Alike.refl U.vm) qK, zNW.same (s := U) (U := U.calling g mk a1) rfl qN, zOv.same (s := U) (U := U.calling g mk a1) rfl qO⟩, fun U hU hW => ⟨rfl, by rw [hU]; exact hz, by rw [hU]; exact hPq, va_K.moved hW.alike hK, hNw.warm hW, hO.moved hW⟩⟩ rfl rfl hl.1 rfl (lv_room (Nat.le_of_ble_eq_true hcat)) hdg ⟨Nat.le_of_ble_eq_true hc, Nat.le_of_ble_eq_true hs⟩
  intro T hT X
  obtain ⟨v, st₀, t, T', L, g0, X', hL, e1, e2, ⟨⟨hv, hsz1, hP1⟩, hz1, hk1⟩, stp⟩ := hr0 T hT X
  cases hv
  rw [g0] at hz1 hk1
  have hAA : ∀ q : Nat, (q = a ∨ n ≤ q) → A q := fun q hq => hA q (Or.inr (by omega))
  have hold : ∀ q : Nat, q < n → q ≠ a → T'.heap[q]? = H[q]? := fun q h1 h2 => by rw [e1]; exact hk1 q (by omega) (fun w => by omega)
  have hPF : va_P G.2.1 vwCl (cW h0 sz r (es ++ (.inr (k, fin n) :: xs n))) T'.heap := by
    intro i x hx
    rcases cW_inv hx with ⟨rfl, rfl⟩ | ⟨j, e0, rfl, he0, rfl⟩
    · exact (hP 0 _ rfl).kept (hold _ (by omega) (by omega))
    · by_cases hj : j < es.length
      · rw [List.getElem?_append_left hj] at he0
        exact (hP (j + 1) (sz + j, e0) (cW_at (by rw [List.getElem?_append_left hj]; exact he0))).kept (hold _ (by show sz + j < n; omega) (by show sz + j ≠ a; omega))
      · rw [List.getElem?_append_right (by omega)] at he0
        rw [e1]
        by_cases hj0 : j = es.length
        · subst hj0
          rw [Nat.sub_self] at he0
          cases he0
          have := hP1 0 _ rfl
          rw [ea] at this
          exact this
        · obtain ⟨d, rfl⟩ : ∃ d, j = es.length + 1 + d := ⟨j - es.length - 1, by omega⟩
          rw [show es.length + 1 + d - es.length = d + 1 by omega, List.getElem?_cons_succ] at he0
          have := hP1 (d + 1) _ (cW_at he0)
          rw [show sz + (es.length + 1 + d) = n + d by omega]
          exact this
  obtain ⟨t2, a1, b1⟩ := kk T'.heap (locs ++ L) ls hPF (by rw [e1, hsz1]) ⟨Nat.le_trans hS.1 (by rw [e1]; exact hz1), fun q h1 h2 => by rw [e1, hk1 q (Nat.lt_of_lt_of_le h1 hS.1) (fun z => h2 (hAA q z))]; exact hS.2.1 q h1 h2, fun q hq => by
      rcases List.mem_append.mp hq with h | h
      · exact hS.2.2 q h
      · exact hAA _ (hL q h)⟩ hl T' rfl X'
  exact ⟨t2, stp t2 a1, b1⟩
end ZCT
