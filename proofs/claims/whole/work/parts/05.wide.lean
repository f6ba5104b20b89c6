-- a call over a fuller stack: up to sixteen words under the arguments
section ZWIDE
variable {p : Program} {l : Launch} {e : Env} {R : Room} {s : State} {m : MethodId} {args : Array Value} {below : List Frame} {meth : Method} {c : Code} {H : Heap} {locs : List Loc} {cells slots : Nat}
theorem zw_runV {y : MethodName} {bytes cc : ByteArray} {maxL nL mc ms n index : Nat} {ret : Option FieldType} {ws : List Cond} {rm : Room} {Pc : Array Value → State → Prop} {Qc : Array Value → State → Outcome → State → Prop} {free : Addr → Prop} {Ts : List Cond} {own C : String} {b : Addr} {As rest : List Value} {g : JFrame}
    (S : CallFix p m c cc nL s args Ts own) (hM : Met l y ws rm Pc Qc mc ms free) (cw : CallW R s args own C index y bytes maxL ret ws rm mc ms n) (hp : PreV s H C b Pc As) (hlo : 16 + (maxL + 11) + rm.locals ≤ R.locals)
    (hg : g.method = m) (hn : As.length = n) (hsize : g.locals.size = nL) (hstack : g.stack = As.reverse ++ .ref b :: rest) (hW : 2 * g.monitorRoom + (rest.map fun v => v.category).sum ≤ 16) (hdg : decode cc g.pc = .ok (.invokevirtual index, 3)) (hf : cells + mc ≤ R.cells ∧ slots + ms ≤ R.slots) :
    va_Run p l e R s m args below meth c H locs cells slots mc ms g rest (Qc (Value.ref b :: As).toArray) (free) := by
  obtain ⟨⟨hrc, hrs, hfr, -, hws, hcw, hcode, hini, hy, hlen, hl⟩, hin, hse⟩ := cw
  have hK : Back l R p e below s args y 3 16 (PreOf R mc ms Pc) (PostOf Qc mc ms free) := back_of (bytes := bytes) (maxL := maxL) (ret := ret) hM hp.1 hrc hrs hfr hlo hws hcw (fun a' U hW => word_at hW (Or.inl (by first | rfl | simp [Cond.onTables, Cond.keeps, Cond.steady])) hini)
  obtain ⟨hx, hb, hml, ho, -⟩ := S
  obtain ⟨-, ⟨cellB, hcB, hoB, hclB⟩, hPc⟩ := hp
  intro T hT X
  obtain ⟨v, vm₁, ⟨U', l2, c2, s2⟩, hW₁, X', ⟨g', mk, t, L, e1, e2, hq, h1, hL, h2, h3⟩, st⟩ := callV X hx (C := C) (bytes := bytes) (maxL := maxL) (ret := ret) ho hl hin hse hcode hy hK (by rw [hT]; exact hcB) hoB hclB hg (hsize.trans hml.symm) (argsL := As) (rest := rest) (fun sig h => hn.trans (hlen sig h)) hstack hW (by rw [hb]; exact hdg)
    (fun vm₁ hW₁ => ⟨hf.1, hf.2, hPc (T.setVm vm₁) hT hW₁⟩)
  dsimp only [Pt.U, Pt.locs, Pt.cells, Pt.slots] at X' e1 e2 h1 h2 h3 st
  subst h1; subst h2; subst h3
  exact ⟨v, (T.setVm vm₁).calling g' mk (Value.ref b :: As).toArray, t, U', L, hT, X', hL, e1, e2, hq, st⟩
end ZWIDE
section ZCALL3
variable {E : ZE} {Y : ZY} {G : ZG} {cc : ByteArray} {own : String} {ret : Option FieldType} {σ σ1 : ZS} {lv : List (Nat × Value)} {st : List Value} {pc : Nat}
theorem z_cVv16 (h : zOk E Y G cc own ret) {y : MethodName} {bytes : ByteArray} {maxL n index : Nat} {retc : Option FieldType} {rm : Room} {c : Nat} {As : List Value} {v : Value} (M : zMet E.1 G y bytes maxL retc rm (.ref (G.1 c) :: As) σ (some v) σ1) {k : Nat} {C : String} {T : u_T} {N : Nat} (hC : zCl k C T N) (ht : tg c = 0) (hk : ln c = k) (hy : y.cls = C) (hn : As.length = n)
    (w1 : Cond.methodLink own index y ∈ WA) (w2 : Cond.instanceMethod y ∈ WA) (w3 : Cond.selects C y y ∈ WA) (w4 : Cond.initialized C ∈ WA) (w5 : Cond.code y bytes maxL retc ∈ WA)
    (hd : (y.cls ≠ "java/lang/invoke/MethodHandle" ∧ y.cls ≠ "java/lang/invoke/VarHandle") ∧ (parseMethodDescriptor y.desc).map (fun d => d.parameters.length) = some n) (hrm : rm.cells = 0 ∧ rm.slots = 0) (hR : Nat.ble (rm.frames + 1) E.2.1.frames && Nat.ble (16 + (maxL + 11) + rm.locals) E.2.1.locals) {st0 : List Value} (hst : st0 = As.reverse ++ .ref (G.1 c) :: st) (hcat : Nat.ble ((st.map fun v => v.category).sum) 16 = true) (hdg : decode cc pc = .ok (.invokevirtual index, 3)) (hcs : E.2.2.2.1 ≤ E.2.1.cells ∧ E.2.2.2.2 ≤ E.2.1.slots)
    (kk : Z E Y G σ1 lv (v :: st) (pc + 3)) : Z E Y G σ lv st0 pc := by
  obtain ⟨l, R, nL, cells, slots⟩ := E
  obtain ⟨p, e, s, m, args, below, meth, cd, A, Q⟩ := Y
  obtain ⟨hx, hb, hml, hown, hts, hr, hlk, hK, hI, hA, hN⟩ := h
  intro H locs ls hP hS hl
  rw [Bool.and_eq_true] at hR
  subst hk; subst hst
  have hlo : 16 + (maxL + 11) + rm.locals ≤ R.locals := Nat.le_of_ble_eq_true hR.2
  have hcat : ((st.map fun v => v.category).sum) ≤ 16 := Nat.le_of_ble_eq_true hcat
  refine z_run (zw_runV (As := As) (rest := st) ⟨hx, hb, hml, hown, hts⟩ (M H.size) (cwV n hts (ws := Cond.code y bytes maxL retc :: WA) (C := C) (fun w hw => ?_) rfl hrm.1 hrm.2 ⟨hy, hd.1.1, hd.1.2, hd.2⟩ ⟨Nat.le_of_ble_eq_true hR.1, by omega⟩) ⟨zB_blind _ _ _ _, va_recv hK hP hC.1 ((zW_at G σ (tg_lt ht (by omega))).trans (by rw [ent_obj ht])), fun U hU hW => ⟨rfl, by rw [hU], by rw [hU]; exact hP, va_K.moved hW.alike hK, hI, hN.warm hW⟩⟩ hlo rfl hn hl.1 rfl (by show 2 * 0 + _ ≤ 16; omega) hdg hcs) hS hA (fun H1 locs1 hP1 hS1 => kk H1 locs1 ls hP1 hS1 hl)
  unfold wsV at hw
  simp only [List.cons_append, List.nil_append, List.mem_cons] at hw
  rcases hw with rfl | rfl | rfl | rfl | rfl | hw
  · exact WA_good _ w1
  · exact WA_good _ w2
  · exact WA_good _ w3
  · exact WA_good _ w4
  · exact WA_good _ w5
  · exact WA_good _ hw
end ZCALL3
