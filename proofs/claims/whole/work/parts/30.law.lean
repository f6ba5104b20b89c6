/-! THE CLAIM OUT OF ONE WALK OF THE LAW'S BODY. Your part is whole_start (and what it stands on); all else here is the same for every law, but numbers. -/
def R_law : String := "FrameCollapseLaw"
def lw_P (b : Addr) (xs : List Int32) (args : Array Value) (s : State) : Prop := args = #[.ref b] ∧ s.IntsAt b xs ∧ xs.length ≤ 2560 ∧ (Jvm.Cond.and given_1 narrow_1).before args s = true
/-- what a walk over the start with the record d0 says of its end, said of the start itself -/
theorem lw_closed {s t : State} {o : Outcome} {d0 : Drawn} {L : List Loc} {k n : Nat} (hd0 : s.drawn.sameBut d0 lw_cs) (hv : ∃ v, o = .returned v) (hW : (s.setDrawn d0).WarmedH t.vm) (hs : (s.setDrawn d0).sameButNew ({ t with vm := s.vm } : State) L k n) : State.butDraws s t lw_cs (fun t1 => Framed s o t1 L k n) := by
  have h2 : t.drawn = d0 := congrArg State.drawn hs.1
  refine ⟨⟨hv, hW, State.sameButNew.setDrawn hs s.drawn⟩, ?_, by decide⟩
  rw [h2]
  exact hd0
def lw_Q (_ : Array Value) (s : State) (o : Outcome) (t : State) : Prop := o = .returned (some (.int 1)) ∧ State.butDraws s t lw_cs (fun t1 => Framed s o t1 [] 600000 7302250)
def lw_Z (below : List Frame) (a : Array Value) (s : State) : State → Prop := fun t => ∃ o, t.status = .running ∧ Ended t below o ∧ lw_Q a s o t
/-- the law's own end, with 1 on the stack, nothing written that was there before, its room as the claim has it; d0: the record of draws at this point (at the entry s.drawn: begin with 'refine W.base ?_' and 'have hd0 := Drawn.sameBut.refl s.drawn lw_cs') -/
theorem lw_ret {p : Program} {l : Launch} {e : Env} {s : State} {m : MethodId} {below : List Frame} {meth : Method} {c : Code} {b : Nat} {d0 : Drawn} (hd0 : s.drawn.sameBut d0 lw_cs) (hx : p.tables.exec = Jvm.exec) (hb : c.code = code) (hr : meth.sig.returnType = ret) (hlocks : meth.locks = false) {pc : Nat} {H : Heap} {ls : Array Slot} (hdg : decode code pc = .ok (.ireturn, 1)) : W p l e room_1 (s.setDrawn d0) m #[Value.ref b] below meth c H [] 600000 7302250 (lw_Z below #[Value.ref b] s) (F0 m pc ls [.int 1]) := by
  intro T hT X
  obtain ⟨fs, hret, hrun, hended, hW, hframe⟩ := X.leave (v := some (.int 1)) (hlocks := hlocks) (fun h => by rw [hr] at h; cases h)
  have hmeth' : T.vm.method? m = some meth := X.method'
  refine ⟨T.setFrames fs, ?_, .returned (some (.int 1)), hrun, hended, rfl, lw_closed hd0 ⟨_, rfl⟩ hW hframe⟩
  jvm_step X.here [X.here.top, hx, hb, hdg, hmeth', hr, ret, narrow_b1]
  (try refine ⟨rfl, ?_⟩); (try refine ⟨rfl, ?_⟩)
  first | (intro acts; rw [hret _ acts rfl rfl rfl]) | rw [hret _ _ rfl rfl rfl]
  exact Steps.refl _
/-- what holds at the law's entry: the machine, the code, the tables' words (any of lw_tbl by 'hts w (by decide +kernel)'), the script of L ints xs at the cell b, what the Statement gives of the start (any of its parts by flat_of_before) -/
def lw_At (p : Program) (s : State) (m : MethodId) (meth : Method) (c : Code) (b L : Nat) (xs : Nat → Int32) : Prop :=
  p.tables.exec = Jvm.exec ∧ c.code = code ∧ meth.sig.returnType = ret ∧ c.maxLocals = 4 ∧ s.vm.findClass R_law = some m.cls ∧ (∀ w ∈ lw_tbl, w.before #[Value.ref b] s = true) ∧ va_X b L xs s s.heap ∧ b < s.heap.size ∧ meth.locks = false ∧ (Jvm.Cond.and given_1 narrow_1).before #[Value.ref b] s = true
-- ===== the law: its own rows =====
/-- the walk's frame at the law: what it may write, where the script lies -/
def zLaw (E : ZE) (Y : ZY) (b L : Nat) (xs : Nat → Int32) : Prop :=
  match E, Y with
  | (_, R, _, cells, slots), (_, _, s, _, args, below, _, _, A, Q) => R = room_1 ∧ args = #[Value.ref b] ∧ Q = lw_Z below #[Value.ref b] s ∧ A = (fun q => s.heap.size ≤ q) ∧ va_X b L xs s s.heap ∧ b < s.heap.size ∧ cells ≤ 600000 ∧ slots ≤ 7302250
section ZLAW
variable {E : ZE} {Y : ZY} {G : ZG} {own : String} {σ σ' : ZS} {lv : List (Nat × Value)} {st : List Value} {pc b L : Nat} {xs : Nat → Int32}
theorem z_slen {rr : Option FieldType} {cc : ByteArray} (h : zOk E Y G cc own rr) (hq : zLaw E Y b L xs) (hdg : decode cc pc = .ok (.arraylength, 1)) (k : Z E Y G σ lv (.int (Int32.ofNat L) :: st) (pc + 1)) : Z E Y G σ lv (.ref b :: st) pc := by
  obtain ⟨l, R, nL, cells, slots⟩ := E
  obtain ⟨p, e, s, m, args, below, meth, c, A, Q⟩ := Y
  obtain ⟨hx, hb, hok⟩ := h
  obtain ⟨rfl, rfl, rfl, rfl, hX, hbl, h1, h2⟩ := hq
  intro H locs ls hP hS hl
  exact va_slen hx hb hX hbl (Nat.not_le.mpr hbl) hS hdg (k H locs ls hP hS hl)
theorem z_sld {rr : Option FieldType} {cc : ByteArray} (h : zOk E Y G cc own rr) (hq : zLaw E Y b L xs) {j : Int32} (hj : inb j L = true) (hdg : decode cc pc = .ok (.iaload, 1)) (k : Z E Y G σ lv (.int (xs j.toNatClampNeg) :: st) (pc + 1)) : Z E Y G σ lv (.int j :: .ref b :: st) pc := by
  obtain ⟨l, R, nL, cells, slots⟩ := E
  obtain ⟨p, e, s, m, args, below, meth, c, A, Q⟩ := Y
  obtain ⟨hx, hb, hok⟩ := h
  obtain ⟨rfl, rfl, rfl, rfl, hX, hbl, h1, h2⟩ := hq
  intro H locs ls hP hS hl
  exact va_sld hx hb hX hbl (Nat.not_le.mpr hbl) hS (inb_vp hj) hdg (k H locs ls hP hS hl)
theorem z_lawret (h : zOk E Y G code own ret) (hq : zLaw E Y b L xs) {v : Int32} (hf : some (v, σ) = some ((1 : Int32), σ')) (hdg : decode code pc = .ok (.ireturn, 1)) : Z E Y G σ lv [.int v] pc := by
  obtain ⟨l, R, nL, cells, slots⟩ := E
  obtain ⟨p, e, s, m, args, below, meth, c, A, Q⟩ := Y
  obtain ⟨hx, hb, hml, hown, hts, hr, hlk, hok⟩ := h
  obtain ⟨rfl, rfl, rfl, rfl, hX, hbl, h1, h2⟩ := hq
  cases hf
  intro H locs ls hP hS hl
  refine va_forget (fun q hq => hS.2.2 q hq) ?_
  refine W.widen h1 h2 ?_
  exact lw_ret (Drawn.sameBut.refl s.drawn lw_cs) hx hb hr hlk hdg
end ZLAW
theorem wd_129 : Cond.methodLink RL 13 yX5_node ∈ WA := List.mem_of_getElem? (i := 129) (by decide +kernel)
theorem wd_130 : Cond.instanceMethod yX5_node ∈ WA := List.mem_of_getElem? (i := 130) (by decide +kernel)
theorem wd_131 : Cond.selects RX5 yX5_node yX5_node ∈ WA := List.mem_of_getElem? (i := 131) (by decide +kernel)
theorem wd_132 : Cond.code yX5_node cX5_node 4 (some .int) ∈ WA := List.mem_of_getElem? (i := 132) (by decide +kernel)
theorem wd_151 : Cond.methodLink RL 17 yX6_node ∈ WA := List.mem_of_getElem? (i := 151) (by decide +kernel)
theorem wd_152 : Cond.instanceMethod yX6_node ∈ WA := List.mem_of_getElem? (i := 152) (by decide +kernel)
theorem wd_153 : Cond.selects RX6 yX6_node yX6_node ∈ WA := List.mem_of_getElem? (i := 153) (by decide +kernel)
theorem wd_154 : Cond.code yX6_node cX6_node 5 (some .int) ∈ WA := List.mem_of_getElem? (i := 154) (by decide +kernel)
theorem wd_163 : Cond.methodLink RL 18 yX5_hold ∈ WA := List.mem_of_getElem? (i := 163) (by decide +kernel)
theorem wd_164 : Cond.instanceMethod yX5_hold ∈ WA := List.mem_of_getElem? (i := 164) (by decide +kernel)
theorem wd_165 : Cond.selects RX5 yX5_hold yX5_hold ∈ WA := List.mem_of_getElem? (i := 165) (by decide +kernel)
theorem wd_166 : Cond.code yX5_hold cX5_hold 4 (some .int) ∈ WA := List.mem_of_getElem? (i := 166) (by decide +kernel)
theorem wd_171 : Cond.methodLink RL 22 yX6_hold ∈ WA := List.mem_of_getElem? (i := 171) (by decide +kernel)
theorem wd_172 : Cond.instanceMethod yX6_hold ∈ WA := List.mem_of_getElem? (i := 172) (by decide +kernel)
theorem wd_173 : Cond.selects RX6 yX6_hold yX6_hold ∈ WA := List.mem_of_getElem? (i := 173) (by decide +kernel)
theorem wd_174 : Cond.code yX6_hold cX6_hold 4 (some .int) ∈ WA := List.mem_of_getElem? (i := 174) (by decide +kernel)
theorem wd_179 : Cond.methodLink RL 23 yX5_bar ∈ WA := List.mem_of_getElem? (i := 179) (by decide +kernel)
theorem wd_180 : Cond.instanceMethod yX5_bar ∈ WA := List.mem_of_getElem? (i := 180) (by decide +kernel)
theorem wd_181 : Cond.selects RX5 yX5_bar yX5_bar ∈ WA := List.mem_of_getElem? (i := 181) (by decide +kernel)
theorem wd_182 : Cond.code yX5_bar cX5_bar 4 (some .int) ∈ WA := List.mem_of_getElem? (i := 182) (by decide +kernel)
theorem wd_196 : Cond.methodLink RL 26 yX6_bar ∈ WA := List.mem_of_getElem? (i := 196) (by decide +kernel)
theorem wd_197 : Cond.instanceMethod yX6_bar ∈ WA := List.mem_of_getElem? (i := 197) (by decide +kernel)
theorem wd_198 : Cond.selects RX6 yX6_bar yX6_bar ∈ WA := List.mem_of_getElem? (i := 198) (by decide +kernel)
theorem wd_199 : Cond.code yX6_bar cX6_bar 9 (some .int) ∈ WA := List.mem_of_getElem? (i := 199) (by decide +kernel)
theorem wd_201 : Cond.methodLink RL 27 yX5_lift ∈ WA := List.mem_of_getElem? (i := 201) (by decide +kernel)
theorem wd_202 : Cond.instanceMethod yX5_lift ∈ WA := List.mem_of_getElem? (i := 202) (by decide +kernel)
theorem wd_203 : Cond.selects RX5 yX5_lift yX5_lift ∈ WA := List.mem_of_getElem? (i := 203) (by decide +kernel)
theorem wd_204 : Cond.code yX5_lift cX5_lift 2 (some .int) ∈ WA := List.mem_of_getElem? (i := 204) (by decide +kernel)
theorem wd_213 : Cond.methodLink RL 31 yX6_lift ∈ WA := List.mem_of_getElem? (i := 213) (by decide +kernel)
theorem wd_214 : Cond.instanceMethod yX6_lift ∈ WA := List.mem_of_getElem? (i := 214) (by decide +kernel)
theorem wd_215 : Cond.selects RX6 yX6_lift yX6_lift ∈ WA := List.mem_of_getElem? (i := 215) (by decide +kernel)
theorem wd_216 : Cond.code yX6_lift cX6_lift 3 (some .int) ∈ WA := List.mem_of_getElem? (i := 216) (by decide +kernel)
theorem wd_221 : Cond.methodLink RL 32 yX5_strengthen ∈ WA := List.mem_of_getElem? (i := 221) (by decide +kernel)
theorem wd_222 : Cond.instanceMethod yX5_strengthen ∈ WA := List.mem_of_getElem? (i := 222) (by decide +kernel)
theorem wd_223 : Cond.selects RX5 yX5_strengthen yX5_strengthen ∈ WA := List.mem_of_getElem? (i := 223) (by decide +kernel)
theorem wd_224 : Cond.code yX5_strengthen cX5_strengthen 4 (some .int) ∈ WA := List.mem_of_getElem? (i := 224) (by decide +kernel)
theorem wd_225 : Cond.methodLink RL 35 yX6_strengthen ∈ WA := List.mem_of_getElem? (i := 225) (by decide +kernel)
theorem wd_226 : Cond.instanceMethod yX6_strengthen ∈ WA := List.mem_of_getElem? (i := 226) (by decide +kernel)
theorem wd_227 : Cond.selects RX6 yX6_strengthen yX6_strengthen ∈ WA := List.mem_of_getElem? (i := 227) (by decide +kernel)
theorem wd_228 : Cond.code yX6_strengthen cX6_strengthen 4 (some .int) ∈ WA := List.mem_of_getElem? (i := 228) (by decide +kernel)
theorem wd_229 : Cond.methodLink RL 36 yX5_load ∈ WA := List.mem_of_getElem? (i := 229) (by decide +kernel)
theorem wd_230 : Cond.instanceMethod yX5_load ∈ WA := List.mem_of_getElem? (i := 230) (by decide +kernel)
theorem wd_231 : Cond.selects RX5 yX5_load yX5_load ∈ WA := List.mem_of_getElem? (i := 231) (by decide +kernel)
theorem wd_232 : Cond.code yX5_load cX5_load 5 (some .int) ∈ WA := List.mem_of_getElem? (i := 232) (by decide +kernel)
theorem wd_237 : Cond.methodLink RL 40 yX6_load ∈ WA := List.mem_of_getElem? (i := 237) (by decide +kernel)
theorem wd_238 : Cond.instanceMethod yX6_load ∈ WA := List.mem_of_getElem? (i := 238) (by decide +kernel)
theorem wd_239 : Cond.selects RX6 yX6_load yX6_load ∈ WA := List.mem_of_getElem? (i := 239) (by decide +kernel)
theorem wd_240 : Cond.code yX6_load cX6_load 7 (some .int) ∈ WA := List.mem_of_getElem? (i := 240) (by decide +kernel)
theorem wd_241 : Cond.methodLink RL 41 yX5_ofNode ∈ WA := List.mem_of_getElem? (i := 241) (by decide +kernel)
theorem wd_242 : Cond.instanceMethod yX5_ofNode ∈ WA := List.mem_of_getElem? (i := 242) (by decide +kernel)
theorem wd_243 : Cond.selects RX5 yX5_ofNode yX5_ofNode ∈ WA := List.mem_of_getElem? (i := 243) (by decide +kernel)
theorem wd_244 : Cond.code yX5_ofNode cX5_ofNode 3 (some .int) ∈ WA := List.mem_of_getElem? (i := 244) (by decide +kernel)
theorem wd_245 : Cond.methodLink RL 44 yX6_ofNode ∈ WA := List.mem_of_getElem? (i := 245) (by decide +kernel)
theorem wd_246 : Cond.instanceMethod yX6_ofNode ∈ WA := List.mem_of_getElem? (i := 246) (by decide +kernel)
theorem wd_247 : Cond.selects RX6 yX6_ofNode yX6_ofNode ∈ WA := List.mem_of_getElem? (i := 247) (by decide +kernel)
theorem wd_248 : Cond.code yX6_ofNode cX6_ofNode 3 (some .int) ∈ WA := List.mem_of_getElem? (i := 248) (by decide +kernel)
theorem wd_249 : Cond.methodLink RL 45 yX5_ofBar ∈ WA := List.mem_of_getElem? (i := 249) (by decide +kernel)
theorem wd_250 : Cond.instanceMethod yX5_ofBar ∈ WA := List.mem_of_getElem? (i := 250) (by decide +kernel)
theorem wd_251 : Cond.selects RX5 yX5_ofBar yX5_ofBar ∈ WA := List.mem_of_getElem? (i := 251) (by decide +kernel)
theorem wd_252 : Cond.code yX5_ofBar cX5_ofBar 3 (some .int) ∈ WA := List.mem_of_getElem? (i := 252) (by decide +kernel)
theorem wd_261 : Cond.methodLink RL 48 yX6_ofBar ∈ WA := List.mem_of_getElem? (i := 261) (by decide +kernel)
theorem wd_262 : Cond.instanceMethod yX6_ofBar ∈ WA := List.mem_of_getElem? (i := 262) (by decide +kernel)
theorem wd_263 : Cond.selects RX6 yX6_ofBar yX6_ofBar ∈ WA := List.mem_of_getElem? (i := 263) (by decide +kernel)
theorem wd_264 : Cond.code yX6_ofBar cX6_ofBar 3 (some .int) ∈ WA := List.mem_of_getElem? (i := 264) (by decide +kernel)
theorem wd_273 : Cond.methodLink RL 49 yX5_count ∈ WA := List.mem_of_getElem? (i := 273) (by decide +kernel)
theorem wd_274 : Cond.instanceMethod yX5_count ∈ WA := List.mem_of_getElem? (i := 274) (by decide +kernel)
theorem wd_275 : Cond.selects RX5 yX5_count yX5_count ∈ WA := List.mem_of_getElem? (i := 275) (by decide +kernel)
theorem wd_276 : Cond.code yX5_count cX5_count 2 (some .int) ∈ WA := List.mem_of_getElem? (i := 276) (by decide +kernel)
theorem wd_420 : Cond.methodLink RL 52 yX6_count ∈ WA := List.mem_of_getElem? (i := 420) (by decide +kernel)
theorem wd_421 : Cond.instanceMethod yX6_count ∈ WA := List.mem_of_getElem? (i := 421) (by decide +kernel)
theorem wd_422 : Cond.selects RX6 yX6_count yX6_count ∈ WA := List.mem_of_getElem? (i := 422) (by decide +kernel)
theorem wd_423 : Cond.code yX6_count cX6_count 3 (some .int) ∈ WA := List.mem_of_getElem? (i := 423) (by decide +kernel)
theorem wd_486 : Cond.methodLink RL 53 yX5_mechanism ∈ WA := List.mem_of_getElem? (i := 486) (by decide +kernel)
theorem wd_487 : Cond.instanceMethod yX5_mechanism ∈ WA := List.mem_of_getElem? (i := 487) (by decide +kernel)
theorem wd_488 : Cond.selects RX5 yX5_mechanism yX5_mechanism ∈ WA := List.mem_of_getElem? (i := 488) (by decide +kernel)
theorem wd_489 : Cond.code yX5_mechanism cX5_mechanism 2 (some .int) ∈ WA := List.mem_of_getElem? (i := 489) (by decide +kernel)
theorem wd_494 : Cond.methodLink RL 56 yX6_mechanism ∈ WA := List.mem_of_getElem? (i := 494) (by decide +kernel)
theorem wd_495 : Cond.instanceMethod yX6_mechanism ∈ WA := List.mem_of_getElem? (i := 495) (by decide +kernel)
theorem wd_496 : Cond.selects RX6 yX6_mechanism yX6_mechanism ∈ WA := List.mem_of_getElem? (i := 496) (by decide +kernel)
theorem wd_497 : Cond.code yX6_mechanism cX6_mechanism 2 (some .int) ∈ WA := List.mem_of_getElem? (i := 497) (by decide +kernel)
theorem wd_498 : Cond.methodLink RL 57 yX5_twist ∈ WA := List.mem_of_getElem? (i := 498) (by decide +kernel)
theorem wd_499 : Cond.instanceMethod yX5_twist ∈ WA := List.mem_of_getElem? (i := 499) (by decide +kernel)
theorem wd_500 : Cond.selects RX5 yX5_twist yX5_twist ∈ WA := List.mem_of_getElem? (i := 500) (by decide +kernel)
theorem wd_501 : Cond.code yX5_twist cX5_twist 4 (some .long) ∈ WA := List.mem_of_getElem? (i := 501) (by decide +kernel)
theorem wd_530 : Cond.methodLink RL 61 yX6_twist ∈ WA := List.mem_of_getElem? (i := 530) (by decide +kernel)
theorem wd_531 : Cond.instanceMethod yX6_twist ∈ WA := List.mem_of_getElem? (i := 531) (by decide +kernel)
theorem wd_532 : Cond.selects RX6 yX6_twist yX6_twist ∈ WA := List.mem_of_getElem? (i := 532) (by decide +kernel)
theorem wd_533 : Cond.code yX6_twist cX6_twist 9 (some .long) ∈ WA := List.mem_of_getElem? (i := 533) (by decide +kernel)
theorem wd_554 : Cond.methodLink RL 62 yX5_bound ∈ WA := List.mem_of_getElem? (i := 554) (by decide +kernel)
theorem wd_555 : Cond.instanceMethod yX5_bound ∈ WA := List.mem_of_getElem? (i := 555) (by decide +kernel)
theorem wd_556 : Cond.selects RX5 yX5_bound yX5_bound ∈ WA := List.mem_of_getElem? (i := 556) (by decide +kernel)
theorem wd_557 : Cond.code yX5_bound cX5_bound 4 (some .long) ∈ WA := List.mem_of_getElem? (i := 557) (by decide +kernel)
theorem wd_577 : Cond.methodLink RL 65 yX6_bound ∈ WA := List.mem_of_getElem? (i := 577) (by decide +kernel)
theorem wd_578 : Cond.instanceMethod yX6_bound ∈ WA := List.mem_of_getElem? (i := 578) (by decide +kernel)
theorem wd_579 : Cond.selects RX6 yX6_bound yX6_bound ∈ WA := List.mem_of_getElem? (i := 579) (by decide +kernel)
theorem wd_580 : Cond.code yX6_bound cX6_bound 8 (some .long) ∈ WA := List.mem_of_getElem? (i := 580) (by decide +kernel)
theorem wd_585 : Cond.methodLink RL 66 yX5_limits ∈ WA := List.mem_of_getElem? (i := 585) (by decide +kernel)
theorem wd_586 : Cond.instanceMethod yX5_limits ∈ WA := List.mem_of_getElem? (i := 586) (by decide +kernel)
theorem wd_587 : Cond.selects RX5 yX5_limits yX5_limits ∈ WA := List.mem_of_getElem? (i := 587) (by decide +kernel)
theorem wd_588 : Cond.code yX5_limits cX5_limits 2 (some .int) ∈ WA := List.mem_of_getElem? (i := 588) (by decide +kernel)
theorem wd_613 : Cond.methodLink RL 69 yX6_limits ∈ WA := List.mem_of_getElem? (i := 613) (by decide +kernel)
theorem wd_614 : Cond.instanceMethod yX6_limits ∈ WA := List.mem_of_getElem? (i := 614) (by decide +kernel)
theorem wd_615 : Cond.selects RX6 yX6_limits yX6_limits ∈ WA := List.mem_of_getElem? (i := 615) (by decide +kernel)
theorem wd_616 : Cond.code yX6_limits cX6_limits 2 (some .int) ∈ WA := List.mem_of_getElem? (i := 616) (by decide +kernel)
theorem wd_688 : Cond.methodLink RL 70 yX5_factor ∈ WA := List.mem_of_getElem? (i := 688) (by decide +kernel)
theorem wd_689 : Cond.instanceMethod yX5_factor ∈ WA := List.mem_of_getElem? (i := 689) (by decide +kernel)
theorem wd_690 : Cond.selects RX5 yX5_factor yX5_factor ∈ WA := List.mem_of_getElem? (i := 690) (by decide +kernel)
theorem wd_691 : Cond.code yX5_factor cX5_factor 5 (some .long) ∈ WA := List.mem_of_getElem? (i := 691) (by decide +kernel)
theorem wd_698 : Cond.methodLink RL 73 yX6_factor ∈ WA := List.mem_of_getElem? (i := 698) (by decide +kernel)
theorem wd_699 : Cond.instanceMethod yX6_factor ∈ WA := List.mem_of_getElem? (i := 699) (by decide +kernel)
theorem wd_700 : Cond.selects RX6 yX6_factor yX6_factor ∈ WA := List.mem_of_getElem? (i := 700) (by decide +kernel)
theorem wd_701 : Cond.code yX6_factor cX6_factor 5 (some .long) ∈ WA := List.mem_of_getElem? (i := 701) (by decide +kernel)
theorem wd_707 : Cond.methodLink RL 74 yX5_near ∈ WA := List.mem_of_getElem? (i := 707) (by decide +kernel)
theorem wd_708 : Cond.instanceMethod yX5_near ∈ WA := List.mem_of_getElem? (i := 708) (by decide +kernel)
theorem wd_709 : Cond.selects RX5 yX5_near yX5_near ∈ WA := List.mem_of_getElem? (i := 709) (by decide +kernel)
theorem wd_710 : Cond.code yX5_near cX5_near 4 (some .int) ∈ WA := List.mem_of_getElem? (i := 710) (by decide +kernel)
theorem wd_720 : Cond.methodLink RL 77 yX6_near ∈ WA := List.mem_of_getElem? (i := 720) (by decide +kernel)
theorem wd_721 : Cond.instanceMethod yX6_near ∈ WA := List.mem_of_getElem? (i := 721) (by decide +kernel)
theorem wd_722 : Cond.selects RX6 yX6_near yX6_near ∈ WA := List.mem_of_getElem? (i := 722) (by decide +kernel)
theorem wd_723 : Cond.code yX6_near cX6_near 4 (some .int) ∈ WA := List.mem_of_getElem? (i := 723) (by decide +kernel)
theorem wd_736 : Cond.methodLink RL 78 yX5_bears ∈ WA := List.mem_of_getElem? (i := 736) (by decide +kernel)
theorem wd_737 : Cond.instanceMethod yX5_bears ∈ WA := List.mem_of_getElem? (i := 737) (by decide +kernel)
theorem wd_738 : Cond.selects RX5 yX5_bears yX5_bears ∈ WA := List.mem_of_getElem? (i := 738) (by decide +kernel)
theorem wd_739 : Cond.code yX5_bears cX5_bears 4 (some .int) ∈ WA := List.mem_of_getElem? (i := 739) (by decide +kernel)
theorem wd_744 : Cond.methodLink RL 81 yX6_bears ∈ WA := List.mem_of_getElem? (i := 744) (by decide +kernel)
theorem wd_745 : Cond.instanceMethod yX6_bears ∈ WA := List.mem_of_getElem? (i := 745) (by decide +kernel)
theorem wd_746 : Cond.selects RX6 yX6_bears yX6_bears ∈ WA := List.mem_of_getElem? (i := 746) (by decide +kernel)
theorem wd_747 : Cond.code yX6_bears cX6_bears 4 (some .int) ∈ WA := List.mem_of_getElem? (i := 747) (by decide +kernel)
theorem wd_748 : Cond.methodLink RL 82 yX5_moment ∈ WA := List.mem_of_getElem? (i := 748) (by decide +kernel)
theorem wd_749 : Cond.instanceMethod yX5_moment ∈ WA := List.mem_of_getElem? (i := 749) (by decide +kernel)
theorem wd_750 : Cond.selects RX5 yX5_moment yX5_moment ∈ WA := List.mem_of_getElem? (i := 750) (by decide +kernel)
theorem wd_751 : Cond.code yX5_moment cX5_moment 6 (some .long) ∈ WA := List.mem_of_getElem? (i := 751) (by decide +kernel)
theorem wd_768 : Cond.methodLink RL 86 yX6_moment ∈ WA := List.mem_of_getElem? (i := 768) (by decide +kernel)
theorem wd_769 : Cond.instanceMethod yX6_moment ∈ WA := List.mem_of_getElem? (i := 769) (by decide +kernel)
theorem wd_770 : Cond.selects RX6 yX6_moment yX6_moment ∈ WA := List.mem_of_getElem? (i := 770) (by decide +kernel)
theorem wd_771 : Cond.code yX6_moment cX6_moment 6 (some .long) ∈ WA := List.mem_of_getElem? (i := 771) (by decide +kernel)
theorem wd_784 : Cond.methodLink RL 87 yX5_yields ∈ WA := List.mem_of_getElem? (i := 784) (by decide +kernel)
theorem wd_785 : Cond.instanceMethod yX5_yields ∈ WA := List.mem_of_getElem? (i := 785) (by decide +kernel)
theorem wd_786 : Cond.selects RX5 yX5_yields yX5_yields ∈ WA := List.mem_of_getElem? (i := 786) (by decide +kernel)
theorem wd_787 : Cond.code yX5_yields cX5_yields 4 (some .int) ∈ WA := List.mem_of_getElem? (i := 787) (by decide +kernel)
theorem wd_797 : Cond.methodLink RL 90 yX6_yields ∈ WA := List.mem_of_getElem? (i := 797) (by decide +kernel)
theorem wd_798 : Cond.instanceMethod yX6_yields ∈ WA := List.mem_of_getElem? (i := 798) (by decide +kernel)
theorem wd_799 : Cond.selects RX6 yX6_yields yX6_yields ∈ WA := List.mem_of_getElem? (i := 799) (by decide +kernel)
theorem wd_800 : Cond.code yX6_yields cX6_yields 8 (some .int) ∈ WA := List.mem_of_getElem? (i := 800) (by decide +kernel)
theorem wd_801 : Cond.methodLink RL 91 yX5_binding ∈ WA := List.mem_of_getElem? (i := 801) (by decide +kernel)
theorem wd_802 : Cond.instanceMethod yX5_binding ∈ WA := List.mem_of_getElem? (i := 802) (by decide +kernel)
theorem wd_803 : Cond.selects RX5 yX5_binding yX5_binding ∈ WA := List.mem_of_getElem? (i := 803) (by decide +kernel)
theorem wd_804 : Cond.code yX5_binding cX5_binding 5 (some .int) ∈ WA := List.mem_of_getElem? (i := 804) (by decide +kernel)
theorem wd_817 : Cond.methodLink RL 94 yX6_binding ∈ WA := List.mem_of_getElem? (i := 817) (by decide +kernel)
theorem wd_818 : Cond.instanceMethod yX6_binding ∈ WA := List.mem_of_getElem? (i := 818) (by decide +kernel)
theorem wd_819 : Cond.selects RX6 yX6_binding yX6_binding ∈ WA := List.mem_of_getElem? (i := 819) (by decide +kernel)
theorem wd_820 : Cond.code yX6_binding cX6_binding 14 (some .int) ∈ WA := List.mem_of_getElem? (i := 820) (by decide +kernel)
theorem wd_821 : Cond.methodLink RL 95 yX5_spare ∈ WA := List.mem_of_getElem? (i := 821) (by decide +kernel)
theorem wd_822 : Cond.instanceMethod yX5_spare ∈ WA := List.mem_of_getElem? (i := 822) (by decide +kernel)
theorem wd_823 : Cond.selects RX5 yX5_spare yX5_spare ∈ WA := List.mem_of_getElem? (i := 823) (by decide +kernel)
theorem wd_824 : Cond.code yX5_spare cX5_spare 4 (some .int) ∈ WA := List.mem_of_getElem? (i := 824) (by decide +kernel)
theorem wd_835 : Cond.methodLink RL 98 yX6_spare ∈ WA := List.mem_of_getElem? (i := 835) (by decide +kernel)
theorem wd_836 : Cond.instanceMethod yX6_spare ∈ WA := List.mem_of_getElem? (i := 836) (by decide +kernel)
theorem wd_837 : Cond.selects RX6 yX6_spare yX6_spare ∈ WA := List.mem_of_getElem? (i := 837) (by decide +kernel)
theorem wd_838 : Cond.code yX6_spare cX6_spare 6 (some .int) ∈ WA := List.mem_of_getElem? (i := 838) (by decide +kernel)
theorem wd_839 : Cond.methodLink RL 99 yX5_weakest ∈ WA := List.mem_of_getElem? (i := 839) (by decide +kernel)
theorem wd_840 : Cond.instanceMethod yX5_weakest ∈ WA := List.mem_of_getElem? (i := 840) (by decide +kernel)
theorem wd_841 : Cond.selects RX5 yX5_weakest yX5_weakest ∈ WA := List.mem_of_getElem? (i := 841) (by decide +kernel)
theorem wd_842 : Cond.code yX5_weakest cX5_weakest 3 (some .int) ∈ WA := List.mem_of_getElem? (i := 842) (by decide +kernel)
theorem wd_847 : Cond.methodLink RL 102 yX6_weakest ∈ WA := List.mem_of_getElem? (i := 847) (by decide +kernel)
theorem wd_848 : Cond.instanceMethod yX6_weakest ∈ WA := List.mem_of_getElem? (i := 848) (by decide +kernel)
theorem wd_849 : Cond.selects RX6 yX6_weakest yX6_weakest ∈ WA := List.mem_of_getElem? (i := 849) (by decide +kernel)
theorem wd_850 : Cond.code yX6_weakest cX6_weakest 9 (some .int) ∈ WA := List.mem_of_getElem? (i := 850) (by decide +kernel)
theorem wd_851 : Cond.methodLink RL 103 yX5_image ∈ WA := List.mem_of_getElem? (i := 851) (by decide +kernel)
theorem wd_852 : Cond.instanceMethod yX5_image ∈ WA := List.mem_of_getElem? (i := 852) (by decide +kernel)
theorem wd_853 : Cond.selects RX5 yX5_image yX5_image ∈ WA := List.mem_of_getElem? (i := 853) (by decide +kernel)
theorem wd_854 : Cond.code yX5_image cX5_image 2 (some .int) ∈ WA := List.mem_of_getElem? (i := 854) (by decide +kernel)
theorem wd_860 : Cond.methodLink RL 106 yX6_image ∈ WA := List.mem_of_getElem? (i := 860) (by decide +kernel)
theorem wd_861 : Cond.instanceMethod yX6_image ∈ WA := List.mem_of_getElem? (i := 861) (by decide +kernel)
theorem wd_862 : Cond.selects RX6 yX6_image yX6_image ∈ WA := List.mem_of_getElem? (i := 862) (by decide +kernel)
theorem wd_863 : Cond.code yX6_image cX6_image 4 (some .int) ∈ WA := List.mem_of_getElem? (i := 863) (by decide +kernel)
theorem wd_864 : Cond.methodLink RL 107 yX5_restore ∈ WA := List.mem_of_getElem? (i := 864) (by decide +kernel)
theorem wd_865 : Cond.instanceMethod yX5_restore ∈ WA := List.mem_of_getElem? (i := 865) (by decide +kernel)
theorem wd_866 : Cond.selects RX5 yX5_restore yX5_restore ∈ WA := List.mem_of_getElem? (i := 866) (by decide +kernel)
theorem wd_867 : Cond.code yX5_restore cX5_restore 2 (some .int) ∈ WA := List.mem_of_getElem? (i := 867) (by decide +kernel)
theorem wd_868 : Cond.methodLink RL 110 yX6_restore ∈ WA := List.mem_of_getElem? (i := 868) (by decide +kernel)
theorem wd_869 : Cond.instanceMethod yX6_restore ∈ WA := List.mem_of_getElem? (i := 869) (by decide +kernel)
theorem wd_870 : Cond.selects RX6 yX6_restore yX6_restore ∈ WA := List.mem_of_getElem? (i := 870) (by decide +kernel)
theorem wd_871 : Cond.code yX6_restore cX6_restore 4 (some .int) ∈ WA := List.mem_of_getElem? (i := 871) (by decide +kernel)
theorem bp_31 : (Int8.ofInt (31)).toInt32 = (31 : Int32) := by decide
theorem dL_law_0 : decode code 0 = .ok (.new 7, 3) := by decide +kernel
theorem dL_law_3 : decode code 3 = .ok (.dup, 1) := by decide +kernel
theorem dL_law_4 : decode code 4 = .ok (.invokespecial 9, 3) := by decide +kernel
theorem dL_law_7 : decode code 7 = .ok (.astore_n 1, 1) := by decide +kernel
theorem dL_law_8 : decode code 8 = .ok (.new 10, 3) := by decide +kernel
theorem dL_law_11 : decode code 11 = .ok (.dup, 1) := by decide +kernel
theorem dL_law_12 : decode code 12 = .ok (.invokespecial 12, 3) := by decide +kernel
theorem dL_law_15 : decode code 15 = .ok (.astore_n 2, 1) := by decide +kernel
theorem dL_law_16 : decode code 16 = .ok (.iconst 0, 1) := by decide +kernel
theorem dL_law_17 : decode code 17 = .ok (.istore_n 3, 1) := by decide +kernel
theorem dL_law_18 : decode code 18 = .ok (.iload_n 3, 1) := by decide +kernel
theorem dL_law_19 : decode code 19 = .ok (.aload_n 0, 1) := by decide +kernel
theorem dL_law_20 : decode code 20 = .ok (.arraylength, 1) := by decide +kernel
theorem dL_law_21 : decode code 21 = .ok (.iconst 5, 1) := by decide +kernel
theorem dL_law_22 : decode code 22 = .ok (.isub, 1) := by decide +kernel
theorem dL_law_23 : decode code 23 = .ok (.if_icmp .gt 926, 3) := by decide +kernel
theorem dL_law_26 : decode code 26 = .ok (.aload_n 0, 1) := by decide +kernel
theorem dL_law_27 : decode code 27 = .ok (.iload_n 3, 1) := by decide +kernel
theorem dL_law_28 : decode code 28 = .ok (.iaload, 1) := by decide +kernel
theorem dL_law_29 : decode code 29 = .ok (.bipush 31, 2) := by decide +kernel
theorem dL_law_31 : decode code 31 = .ok (.iand, 1) := by decide +kernel
theorem dL_law_32 : decode code 32 = .ok (.tableswitch 911 0 22 #[108, 151, 184, 227, 250, 283, 336, 369, 402, 425, 448, 492, 536, 559, 603, 636, 679, 733, 766, 809, 842, 865, 888], 108) := by decide +kernel
theorem dL_law_140 : decode code 140 = .ok (.aload_n 1, 1) := by decide +kernel
theorem dL_law_141 : decode code 141 = .ok (.aload_n 0, 1) := by decide +kernel
theorem dL_law_142 : decode code 142 = .ok (.iload_n 3, 1) := by decide +kernel
theorem dL_law_143 : decode code 143 = .ok (.iconst 1, 1) := by decide +kernel
theorem dL_law_144 : decode code 144 = .ok (.iadd, 1) := by decide +kernel
theorem dL_law_145 : decode code 145 = .ok (.iaload, 1) := by decide +kernel
theorem dL_law_146 : decode code 146 = .ok (.aload_n 0, 1) := by decide +kernel
theorem dL_law_147 : decode code 147 = .ok (.iload_n 3, 1) := by decide +kernel
theorem dL_law_148 : decode code 148 = .ok (.iconst 2, 1) := by decide +kernel
theorem dL_law_149 : decode code 149 = .ok (.iadd, 1) := by decide +kernel
theorem dL_law_150 : decode code 150 = .ok (.iaload, 1) := by decide +kernel
theorem dL_law_151 : decode code 151 = .ok (.aload_n 0, 1) := by decide +kernel
theorem dL_law_152 : decode code 152 = .ok (.iload_n 3, 1) := by decide +kernel
theorem dL_law_153 : decode code 153 = .ok (.iconst 3, 1) := by decide +kernel
theorem dL_law_154 : decode code 154 = .ok (.iadd, 1) := by decide +kernel
theorem dL_law_155 : decode code 155 = .ok (.iaload, 1) := by decide +kernel
theorem dL_law_156 : decode code 156 = .ok (.invokevirtual 13, 3) := by decide +kernel
theorem dL_law_159 : decode code 159 = .ok (.aload_n 2, 1) := by decide +kernel
theorem dL_law_160 : decode code 160 = .ok (.aload_n 0, 1) := by decide +kernel
theorem dL_law_161 : decode code 161 = .ok (.iload_n 3, 1) := by decide +kernel
theorem dL_law_162 : decode code 162 = .ok (.iconst 1, 1) := by decide +kernel
theorem dL_law_163 : decode code 163 = .ok (.iadd, 1) := by decide +kernel
theorem dL_law_164 : decode code 164 = .ok (.iaload, 1) := by decide +kernel
theorem dL_law_165 : decode code 165 = .ok (.aload_n 0, 1) := by decide +kernel
theorem dL_law_166 : decode code 166 = .ok (.iload_n 3, 1) := by decide +kernel
theorem dL_law_167 : decode code 167 = .ok (.iconst 2, 1) := by decide +kernel
theorem dL_law_168 : decode code 168 = .ok (.iadd, 1) := by decide +kernel
theorem dL_law_169 : decode code 169 = .ok (.iaload, 1) := by decide +kernel
theorem dL_law_170 : decode code 170 = .ok (.aload_n 0, 1) := by decide +kernel
theorem dL_law_171 : decode code 171 = .ok (.iload_n 3, 1) := by decide +kernel
theorem dL_law_172 : decode code 172 = .ok (.iconst 3, 1) := by decide +kernel
theorem dL_law_173 : decode code 173 = .ok (.iadd, 1) := by decide +kernel
theorem dL_law_174 : decode code 174 = .ok (.iaload, 1) := by decide +kernel
theorem dL_law_175 : decode code 175 = .ok (.invokevirtual 17, 3) := by decide +kernel
theorem dL_law_178 : decode code 178 = .ok (.if_icmp .eq 765, 3) := by decide +kernel
theorem dL_law_181 : decode code 181 = .ok (.iconst 0, 1) := by decide +kernel
theorem dL_law_182 : decode code 182 = .ok (.ireturn, 1) := by decide +kernel
theorem dL_law_183 : decode code 183 = .ok (.aload_n 1, 1) := by decide +kernel
theorem dL_law_184 : decode code 184 = .ok (.aload_n 0, 1) := by decide +kernel
theorem dL_law_185 : decode code 185 = .ok (.iload_n 3, 1) := by decide +kernel
theorem dL_law_186 : decode code 186 = .ok (.iconst 1, 1) := by decide +kernel
theorem dL_law_187 : decode code 187 = .ok (.iadd, 1) := by decide +kernel
theorem dL_law_188 : decode code 188 = .ok (.iaload, 1) := by decide +kernel
theorem dL_law_189 : decode code 189 = .ok (.aload_n 0, 1) := by decide +kernel
theorem dL_law_190 : decode code 190 = .ok (.iload_n 3, 1) := by decide +kernel
theorem dL_law_191 : decode code 191 = .ok (.iconst 2, 1) := by decide +kernel
theorem dL_law_192 : decode code 192 = .ok (.iadd, 1) := by decide +kernel
theorem dL_law_193 : decode code 193 = .ok (.iaload, 1) := by decide +kernel
theorem dL_law_194 : decode code 194 = .ok (.invokevirtual 18, 3) := by decide +kernel
theorem dL_law_197 : decode code 197 = .ok (.aload_n 2, 1) := by decide +kernel
theorem dL_law_198 : decode code 198 = .ok (.aload_n 0, 1) := by decide +kernel
theorem dL_law_199 : decode code 199 = .ok (.iload_n 3, 1) := by decide +kernel
theorem dL_law_200 : decode code 200 = .ok (.iconst 1, 1) := by decide +kernel
theorem dL_law_201 : decode code 201 = .ok (.iadd, 1) := by decide +kernel
theorem dL_law_202 : decode code 202 = .ok (.iaload, 1) := by decide +kernel
theorem dL_law_203 : decode code 203 = .ok (.aload_n 0, 1) := by decide +kernel
theorem dL_law_204 : decode code 204 = .ok (.iload_n 3, 1) := by decide +kernel
theorem dL_law_205 : decode code 205 = .ok (.iconst 2, 1) := by decide +kernel
theorem dL_law_206 : decode code 206 = .ok (.iadd, 1) := by decide +kernel
theorem dL_law_207 : decode code 207 = .ok (.iaload, 1) := by decide +kernel
theorem dL_law_208 : decode code 208 = .ok (.invokevirtual 22, 3) := by decide +kernel
theorem dL_law_211 : decode code 211 = .ok (.if_icmp .eq 732, 3) := by decide +kernel
theorem dL_law_214 : decode code 214 = .ok (.iconst 0, 1) := by decide +kernel
theorem dL_law_215 : decode code 215 = .ok (.ireturn, 1) := by decide +kernel
theorem dL_law_216 : decode code 216 = .ok (.aload_n 1, 1) := by decide +kernel
theorem dL_law_217 : decode code 217 = .ok (.aload_n 0, 1) := by decide +kernel
theorem dL_law_218 : decode code 218 = .ok (.iload_n 3, 1) := by decide +kernel
theorem dL_law_219 : decode code 219 = .ok (.iconst 1, 1) := by decide +kernel
theorem dL_law_220 : decode code 220 = .ok (.iadd, 1) := by decide +kernel
theorem dL_law_221 : decode code 221 = .ok (.iaload, 1) := by decide +kernel
theorem dL_law_222 : decode code 222 = .ok (.aload_n 0, 1) := by decide +kernel
theorem dL_law_223 : decode code 223 = .ok (.iload_n 3, 1) := by decide +kernel
theorem dL_law_224 : decode code 224 = .ok (.iconst 2, 1) := by decide +kernel
theorem dL_law_225 : decode code 225 = .ok (.iadd, 1) := by decide +kernel
theorem dL_law_226 : decode code 226 = .ok (.iaload, 1) := by decide +kernel
theorem dL_law_227 : decode code 227 = .ok (.aload_n 0, 1) := by decide +kernel
theorem dL_law_228 : decode code 228 = .ok (.iload_n 3, 1) := by decide +kernel
theorem dL_law_229 : decode code 229 = .ok (.iconst 3, 1) := by decide +kernel
theorem dL_law_230 : decode code 230 = .ok (.iadd, 1) := by decide +kernel
theorem dL_law_231 : decode code 231 = .ok (.iaload, 1) := by decide +kernel
theorem dL_law_232 : decode code 232 = .ok (.invokevirtual 23, 3) := by decide +kernel
theorem dL_law_235 : decode code 235 = .ok (.aload_n 2, 1) := by decide +kernel
theorem dL_law_236 : decode code 236 = .ok (.aload_n 0, 1) := by decide +kernel
theorem dL_law_237 : decode code 237 = .ok (.iload_n 3, 1) := by decide +kernel
theorem dL_law_238 : decode code 238 = .ok (.iconst 1, 1) := by decide +kernel
theorem dL_law_239 : decode code 239 = .ok (.iadd, 1) := by decide +kernel
theorem dL_law_240 : decode code 240 = .ok (.iaload, 1) := by decide +kernel
theorem dL_law_241 : decode code 241 = .ok (.aload_n 0, 1) := by decide +kernel
theorem dL_law_242 : decode code 242 = .ok (.iload_n 3, 1) := by decide +kernel
theorem dL_law_243 : decode code 243 = .ok (.iconst 2, 1) := by decide +kernel
theorem dL_law_244 : decode code 244 = .ok (.iadd, 1) := by decide +kernel
theorem dL_law_245 : decode code 245 = .ok (.iaload, 1) := by decide +kernel
theorem dL_law_246 : decode code 246 = .ok (.aload_n 0, 1) := by decide +kernel
theorem dL_law_247 : decode code 247 = .ok (.iload_n 3, 1) := by decide +kernel
theorem dL_law_248 : decode code 248 = .ok (.iconst 3, 1) := by decide +kernel
theorem dL_law_249 : decode code 249 = .ok (.iadd, 1) := by decide +kernel
theorem dL_law_250 : decode code 250 = .ok (.iaload, 1) := by decide +kernel
theorem dL_law_251 : decode code 251 = .ok (.invokevirtual 26, 3) := by decide +kernel
theorem dL_law_254 : decode code 254 = .ok (.if_icmp .eq 689, 3) := by decide +kernel
theorem dL_law_257 : decode code 257 = .ok (.iconst 0, 1) := by decide +kernel
theorem dL_law_258 : decode code 258 = .ok (.ireturn, 1) := by decide +kernel
theorem dL_law_259 : decode code 259 = .ok (.aload_n 1, 1) := by decide +kernel
theorem dL_law_260 : decode code 260 = .ok (.aload_n 0, 1) := by decide +kernel
theorem dL_law_261 : decode code 261 = .ok (.iload_n 3, 1) := by decide +kernel
theorem dL_law_262 : decode code 262 = .ok (.iconst 1, 1) := by decide +kernel
theorem dL_law_263 : decode code 263 = .ok (.iadd, 1) := by decide +kernel
theorem dL_law_264 : decode code 264 = .ok (.iaload, 1) := by decide +kernel
theorem dL_law_265 : decode code 265 = .ok (.invokevirtual 27, 3) := by decide +kernel
theorem dL_law_268 : decode code 268 = .ok (.aload_n 2, 1) := by decide +kernel
theorem dL_law_269 : decode code 269 = .ok (.aload_n 0, 1) := by decide +kernel
theorem dL_law_270 : decode code 270 = .ok (.iload_n 3, 1) := by decide +kernel
theorem dL_law_271 : decode code 271 = .ok (.iconst 1, 1) := by decide +kernel
theorem dL_law_272 : decode code 272 = .ok (.iadd, 1) := by decide +kernel
theorem dL_law_273 : decode code 273 = .ok (.iaload, 1) := by decide +kernel
theorem dL_law_274 : decode code 274 = .ok (.invokevirtual 31, 3) := by decide +kernel
theorem dL_law_277 : decode code 277 = .ok (.if_icmp .eq 666, 3) := by decide +kernel
theorem dL_law_280 : decode code 280 = .ok (.iconst 0, 1) := by decide +kernel
theorem dL_law_281 : decode code 281 = .ok (.ireturn, 1) := by decide +kernel
theorem dL_law_282 : decode code 282 = .ok (.aload_n 1, 1) := by decide +kernel
theorem dL_law_283 : decode code 283 = .ok (.aload_n 0, 1) := by decide +kernel
theorem dL_law_284 : decode code 284 = .ok (.iload_n 3, 1) := by decide +kernel
theorem dL_law_285 : decode code 285 = .ok (.iconst 1, 1) := by decide +kernel
theorem dL_law_286 : decode code 286 = .ok (.iadd, 1) := by decide +kernel
theorem dL_law_287 : decode code 287 = .ok (.iaload, 1) := by decide +kernel
theorem dL_law_288 : decode code 288 = .ok (.aload_n 0, 1) := by decide +kernel
theorem dL_law_289 : decode code 289 = .ok (.iload_n 3, 1) := by decide +kernel
theorem dL_law_290 : decode code 290 = .ok (.iconst 2, 1) := by decide +kernel
theorem dL_law_291 : decode code 291 = .ok (.iadd, 1) := by decide +kernel
theorem dL_law_292 : decode code 292 = .ok (.iaload, 1) := by decide +kernel
theorem dL_law_293 : decode code 293 = .ok (.invokevirtual 32, 3) := by decide +kernel
theorem dL_law_296 : decode code 296 = .ok (.aload_n 2, 1) := by decide +kernel
theorem dL_law_297 : decode code 297 = .ok (.aload_n 0, 1) := by decide +kernel
theorem dL_law_298 : decode code 298 = .ok (.iload_n 3, 1) := by decide +kernel
theorem dL_law_299 : decode code 299 = .ok (.iconst 1, 1) := by decide +kernel
theorem dL_law_300 : decode code 300 = .ok (.iadd, 1) := by decide +kernel
theorem dL_law_301 : decode code 301 = .ok (.iaload, 1) := by decide +kernel
theorem dL_law_302 : decode code 302 = .ok (.aload_n 0, 1) := by decide +kernel
theorem dL_law_303 : decode code 303 = .ok (.iload_n 3, 1) := by decide +kernel
theorem dL_law_304 : decode code 304 = .ok (.iconst 2, 1) := by decide +kernel
theorem dL_law_305 : decode code 305 = .ok (.iadd, 1) := by decide +kernel
theorem dL_law_306 : decode code 306 = .ok (.iaload, 1) := by decide +kernel
theorem dL_law_307 : decode code 307 = .ok (.invokevirtual 35, 3) := by decide +kernel
theorem dL_law_310 : decode code 310 = .ok (.if_icmp .eq 633, 3) := by decide +kernel
theorem dL_law_313 : decode code 313 = .ok (.iconst 0, 1) := by decide +kernel
theorem dL_law_314 : decode code 314 = .ok (.ireturn, 1) := by decide +kernel
theorem dL_law_315 : decode code 315 = .ok (.aload_n 1, 1) := by decide +kernel
theorem dL_law_316 : decode code 316 = .ok (.aload_n 0, 1) := by decide +kernel
theorem dL_law_317 : decode code 317 = .ok (.iload_n 3, 1) := by decide +kernel
theorem dL_law_318 : decode code 318 = .ok (.iconst 1, 1) := by decide +kernel
theorem dL_law_319 : decode code 319 = .ok (.iadd, 1) := by decide +kernel
theorem dL_law_320 : decode code 320 = .ok (.iaload, 1) := by decide +kernel
theorem dL_law_321 : decode code 321 = .ok (.aload_n 0, 1) := by decide +kernel
theorem dL_law_322 : decode code 322 = .ok (.iload_n 3, 1) := by decide +kernel
theorem dL_law_323 : decode code 323 = .ok (.iconst 2, 1) := by decide +kernel
theorem dL_law_324 : decode code 324 = .ok (.iadd, 1) := by decide +kernel
theorem dL_law_325 : decode code 325 = .ok (.iaload, 1) := by decide +kernel
theorem dL_law_326 : decode code 326 = .ok (.aload_n 0, 1) := by decide +kernel
theorem dL_law_327 : decode code 327 = .ok (.iload_n 3, 1) := by decide +kernel
theorem dL_law_328 : decode code 328 = .ok (.iconst 3, 1) := by decide +kernel
theorem dL_law_329 : decode code 329 = .ok (.iadd, 1) := by decide +kernel
theorem dL_law_330 : decode code 330 = .ok (.iaload, 1) := by decide +kernel
theorem dL_law_331 : decode code 331 = .ok (.aload_n 0, 1) := by decide +kernel
theorem dL_law_332 : decode code 332 = .ok (.iload_n 3, 1) := by decide +kernel
theorem dL_law_333 : decode code 333 = .ok (.iconst 4, 1) := by decide +kernel
theorem dL_law_334 : decode code 334 = .ok (.iadd, 1) := by decide +kernel
theorem dL_law_335 : decode code 335 = .ok (.iaload, 1) := by decide +kernel
theorem dL_law_336 : decode code 336 = .ok (.invokevirtual 36, 3) := by decide +kernel
theorem dL_law_339 : decode code 339 = .ok (.aload_n 2, 1) := by decide +kernel
theorem dL_law_340 : decode code 340 = .ok (.aload_n 0, 1) := by decide +kernel
theorem dL_law_341 : decode code 341 = .ok (.iload_n 3, 1) := by decide +kernel
theorem dL_law_342 : decode code 342 = .ok (.iconst 1, 1) := by decide +kernel
theorem dL_law_343 : decode code 343 = .ok (.iadd, 1) := by decide +kernel
theorem dL_law_344 : decode code 344 = .ok (.iaload, 1) := by decide +kernel
theorem dL_law_345 : decode code 345 = .ok (.aload_n 0, 1) := by decide +kernel
theorem dL_law_346 : decode code 346 = .ok (.iload_n 3, 1) := by decide +kernel
theorem dL_law_347 : decode code 347 = .ok (.iconst 2, 1) := by decide +kernel
theorem dL_law_348 : decode code 348 = .ok (.iadd, 1) := by decide +kernel
theorem dL_law_349 : decode code 349 = .ok (.iaload, 1) := by decide +kernel
theorem dL_law_350 : decode code 350 = .ok (.aload_n 0, 1) := by decide +kernel
theorem dL_law_351 : decode code 351 = .ok (.iload_n 3, 1) := by decide +kernel
theorem dL_law_352 : decode code 352 = .ok (.iconst 3, 1) := by decide +kernel
theorem dL_law_353 : decode code 353 = .ok (.iadd, 1) := by decide +kernel
theorem dL_law_354 : decode code 354 = .ok (.iaload, 1) := by decide +kernel
theorem dL_law_355 : decode code 355 = .ok (.aload_n 0, 1) := by decide +kernel
theorem dL_law_356 : decode code 356 = .ok (.iload_n 3, 1) := by decide +kernel
theorem dL_law_357 : decode code 357 = .ok (.iconst 4, 1) := by decide +kernel
theorem dL_law_358 : decode code 358 = .ok (.iadd, 1) := by decide +kernel
theorem dL_law_359 : decode code 359 = .ok (.iaload, 1) := by decide +kernel
theorem dL_law_360 : decode code 360 = .ok (.invokevirtual 40, 3) := by decide +kernel
theorem dL_law_363 : decode code 363 = .ok (.if_icmp .eq 580, 3) := by decide +kernel
theorem dL_law_366 : decode code 366 = .ok (.iconst 0, 1) := by decide +kernel
theorem dL_law_367 : decode code 367 = .ok (.ireturn, 1) := by decide +kernel
theorem dL_law_368 : decode code 368 = .ok (.aload_n 1, 1) := by decide +kernel
theorem dL_law_369 : decode code 369 = .ok (.aload_n 0, 1) := by decide +kernel
theorem dL_law_370 : decode code 370 = .ok (.iload_n 3, 1) := by decide +kernel
theorem dL_law_371 : decode code 371 = .ok (.iconst 1, 1) := by decide +kernel
theorem dL_law_372 : decode code 372 = .ok (.iadd, 1) := by decide +kernel
theorem dL_law_373 : decode code 373 = .ok (.iaload, 1) := by decide +kernel
theorem dL_law_374 : decode code 374 = .ok (.aload_n 0, 1) := by decide +kernel
theorem dL_law_375 : decode code 375 = .ok (.iload_n 3, 1) := by decide +kernel
theorem dL_law_376 : decode code 376 = .ok (.iconst 2, 1) := by decide +kernel
theorem dL_law_377 : decode code 377 = .ok (.iadd, 1) := by decide +kernel
theorem dL_law_378 : decode code 378 = .ok (.iaload, 1) := by decide +kernel
theorem dL_law_379 : decode code 379 = .ok (.invokevirtual 41, 3) := by decide +kernel
theorem dL_law_382 : decode code 382 = .ok (.aload_n 2, 1) := by decide +kernel
theorem dL_law_383 : decode code 383 = .ok (.aload_n 0, 1) := by decide +kernel
theorem dL_law_384 : decode code 384 = .ok (.iload_n 3, 1) := by decide +kernel
theorem dL_law_385 : decode code 385 = .ok (.iconst 1, 1) := by decide +kernel
theorem dL_law_386 : decode code 386 = .ok (.iadd, 1) := by decide +kernel
theorem dL_law_387 : decode code 387 = .ok (.iaload, 1) := by decide +kernel
theorem dL_law_388 : decode code 388 = .ok (.aload_n 0, 1) := by decide +kernel
theorem dL_law_389 : decode code 389 = .ok (.iload_n 3, 1) := by decide +kernel
theorem dL_law_390 : decode code 390 = .ok (.iconst 2, 1) := by decide +kernel
theorem dL_law_391 : decode code 391 = .ok (.iadd, 1) := by decide +kernel
theorem dL_law_392 : decode code 392 = .ok (.iaload, 1) := by decide +kernel
theorem dL_law_393 : decode code 393 = .ok (.invokevirtual 44, 3) := by decide +kernel
theorem dL_law_396 : decode code 396 = .ok (.if_icmp .eq 547, 3) := by decide +kernel
theorem dL_law_399 : decode code 399 = .ok (.iconst 0, 1) := by decide +kernel
theorem dL_law_400 : decode code 400 = .ok (.ireturn, 1) := by decide +kernel
theorem dL_law_401 : decode code 401 = .ok (.aload_n 1, 1) := by decide +kernel
theorem dL_law_402 : decode code 402 = .ok (.aload_n 0, 1) := by decide +kernel
theorem dL_law_403 : decode code 403 = .ok (.iload_n 3, 1) := by decide +kernel
theorem dL_law_404 : decode code 404 = .ok (.iconst 1, 1) := by decide +kernel
theorem dL_law_405 : decode code 405 = .ok (.iadd, 1) := by decide +kernel
theorem dL_law_406 : decode code 406 = .ok (.iaload, 1) := by decide +kernel
theorem dL_law_407 : decode code 407 = .ok (.aload_n 0, 1) := by decide +kernel
theorem dL_law_408 : decode code 408 = .ok (.iload_n 3, 1) := by decide +kernel
theorem dL_law_409 : decode code 409 = .ok (.iconst 2, 1) := by decide +kernel
theorem dL_law_410 : decode code 410 = .ok (.iadd, 1) := by decide +kernel
theorem dL_law_411 : decode code 411 = .ok (.iaload, 1) := by decide +kernel
theorem dL_law_412 : decode code 412 = .ok (.invokevirtual 45, 3) := by decide +kernel
theorem dL_law_415 : decode code 415 = .ok (.aload_n 2, 1) := by decide +kernel
theorem dL_law_416 : decode code 416 = .ok (.aload_n 0, 1) := by decide +kernel
theorem dL_law_417 : decode code 417 = .ok (.iload_n 3, 1) := by decide +kernel
theorem dL_law_418 : decode code 418 = .ok (.iconst 1, 1) := by decide +kernel
theorem dL_law_419 : decode code 419 = .ok (.iadd, 1) := by decide +kernel
theorem dL_law_420 : decode code 420 = .ok (.iaload, 1) := by decide +kernel
theorem dL_law_421 : decode code 421 = .ok (.aload_n 0, 1) := by decide +kernel
theorem dL_law_422 : decode code 422 = .ok (.iload_n 3, 1) := by decide +kernel
theorem dL_law_423 : decode code 423 = .ok (.iconst 2, 1) := by decide +kernel
theorem dL_law_424 : decode code 424 = .ok (.iadd, 1) := by decide +kernel
theorem dL_law_425 : decode code 425 = .ok (.iaload, 1) := by decide +kernel
theorem dL_law_426 : decode code 426 = .ok (.invokevirtual 48, 3) := by decide +kernel
theorem dL_law_429 : decode code 429 = .ok (.if_icmp .eq 514, 3) := by decide +kernel
theorem dL_law_432 : decode code 432 = .ok (.iconst 0, 1) := by decide +kernel
theorem dL_law_433 : decode code 433 = .ok (.ireturn, 1) := by decide +kernel
theorem dL_law_434 : decode code 434 = .ok (.aload_n 1, 1) := by decide +kernel
theorem dL_law_435 : decode code 435 = .ok (.aload_n 0, 1) := by decide +kernel
theorem dL_law_436 : decode code 436 = .ok (.iload_n 3, 1) := by decide +kernel
theorem dL_law_437 : decode code 437 = .ok (.iconst 1, 1) := by decide +kernel
theorem dL_law_438 : decode code 438 = .ok (.iadd, 1) := by decide +kernel
theorem dL_law_439 : decode code 439 = .ok (.iaload, 1) := by decide +kernel
theorem dL_law_440 : decode code 440 = .ok (.invokevirtual 49, 3) := by decide +kernel
theorem dL_law_443 : decode code 443 = .ok (.aload_n 2, 1) := by decide +kernel
theorem dL_law_444 : decode code 444 = .ok (.aload_n 0, 1) := by decide +kernel
theorem dL_law_445 : decode code 445 = .ok (.iload_n 3, 1) := by decide +kernel
theorem dL_law_446 : decode code 446 = .ok (.iconst 1, 1) := by decide +kernel
theorem dL_law_447 : decode code 447 = .ok (.iadd, 1) := by decide +kernel
theorem dL_law_448 : decode code 448 = .ok (.iaload, 1) := by decide +kernel
theorem dL_law_449 : decode code 449 = .ok (.invokevirtual 52, 3) := by decide +kernel
theorem dL_law_452 : decode code 452 = .ok (.if_icmp .eq 491, 3) := by decide +kernel
theorem dL_law_455 : decode code 455 = .ok (.iconst 0, 1) := by decide +kernel
theorem dL_law_456 : decode code 456 = .ok (.ireturn, 1) := by decide +kernel
theorem dL_law_457 : decode code 457 = .ok (.aload_n 1, 1) := by decide +kernel
theorem dL_law_458 : decode code 458 = .ok (.aload_n 0, 1) := by decide +kernel
theorem dL_law_459 : decode code 459 = .ok (.iload_n 3, 1) := by decide +kernel
theorem dL_law_460 : decode code 460 = .ok (.iconst 1, 1) := by decide +kernel
theorem dL_law_461 : decode code 461 = .ok (.iadd, 1) := by decide +kernel
theorem dL_law_462 : decode code 462 = .ok (.iaload, 1) := by decide +kernel
theorem dL_law_463 : decode code 463 = .ok (.invokevirtual 53, 3) := by decide +kernel
theorem dL_law_466 : decode code 466 = .ok (.aload_n 2, 1) := by decide +kernel
theorem dL_law_467 : decode code 467 = .ok (.aload_n 0, 1) := by decide +kernel
theorem dL_law_468 : decode code 468 = .ok (.iload_n 3, 1) := by decide +kernel
theorem dL_law_469 : decode code 469 = .ok (.iconst 1, 1) := by decide +kernel
theorem dL_law_470 : decode code 470 = .ok (.iadd, 1) := by decide +kernel
theorem dL_law_471 : decode code 471 = .ok (.iaload, 1) := by decide +kernel
theorem dL_law_472 : decode code 472 = .ok (.invokevirtual 56, 3) := by decide +kernel
theorem dL_law_475 : decode code 475 = .ok (.if_icmp .eq 468, 3) := by decide +kernel
theorem dL_law_478 : decode code 478 = .ok (.iconst 0, 1) := by decide +kernel
theorem dL_law_479 : decode code 479 = .ok (.ireturn, 1) := by decide +kernel
theorem dL_law_480 : decode code 480 = .ok (.aload_n 1, 1) := by decide +kernel
theorem dL_law_481 : decode code 481 = .ok (.aload_n 0, 1) := by decide +kernel
theorem dL_law_482 : decode code 482 = .ok (.iload_n 3, 1) := by decide +kernel
theorem dL_law_483 : decode code 483 = .ok (.iconst 1, 1) := by decide +kernel
theorem dL_law_484 : decode code 484 = .ok (.iadd, 1) := by decide +kernel
theorem dL_law_485 : decode code 485 = .ok (.iaload, 1) := by decide +kernel
theorem dL_law_486 : decode code 486 = .ok (.aload_n 0, 1) := by decide +kernel
theorem dL_law_487 : decode code 487 = .ok (.iload_n 3, 1) := by decide +kernel
theorem dL_law_488 : decode code 488 = .ok (.iconst 2, 1) := by decide +kernel
theorem dL_law_489 : decode code 489 = .ok (.iadd, 1) := by decide +kernel
theorem dL_law_490 : decode code 490 = .ok (.iaload, 1) := by decide +kernel
theorem dL_law_491 : decode code 491 = .ok (.aload_n 0, 1) := by decide +kernel
theorem dL_law_492 : decode code 492 = .ok (.iload_n 3, 1) := by decide +kernel
theorem dL_law_493 : decode code 493 = .ok (.iconst 3, 1) := by decide +kernel
theorem dL_law_494 : decode code 494 = .ok (.iadd, 1) := by decide +kernel
theorem dL_law_495 : decode code 495 = .ok (.iaload, 1) := by decide +kernel
theorem dL_law_496 : decode code 496 = .ok (.invokevirtual 57, 3) := by decide +kernel
theorem dL_law_499 : decode code 499 = .ok (.aload_n 2, 1) := by decide +kernel
theorem dL_law_500 : decode code 500 = .ok (.aload_n 0, 1) := by decide +kernel
theorem dL_law_501 : decode code 501 = .ok (.iload_n 3, 1) := by decide +kernel
theorem dL_law_502 : decode code 502 = .ok (.iconst 1, 1) := by decide +kernel
theorem dL_law_503 : decode code 503 = .ok (.iadd, 1) := by decide +kernel
theorem dL_law_504 : decode code 504 = .ok (.iaload, 1) := by decide +kernel
theorem dL_law_505 : decode code 505 = .ok (.aload_n 0, 1) := by decide +kernel
theorem dL_law_506 : decode code 506 = .ok (.iload_n 3, 1) := by decide +kernel
theorem dL_law_507 : decode code 507 = .ok (.iconst 2, 1) := by decide +kernel
theorem dL_law_508 : decode code 508 = .ok (.iadd, 1) := by decide +kernel
theorem dL_law_509 : decode code 509 = .ok (.iaload, 1) := by decide +kernel
theorem dL_law_510 : decode code 510 = .ok (.aload_n 0, 1) := by decide +kernel
theorem dL_law_511 : decode code 511 = .ok (.iload_n 3, 1) := by decide +kernel
theorem dL_law_512 : decode code 512 = .ok (.iconst 3, 1) := by decide +kernel
theorem dL_law_513 : decode code 513 = .ok (.iadd, 1) := by decide +kernel
theorem dL_law_514 : decode code 514 = .ok (.iaload, 1) := by decide +kernel
theorem dL_law_515 : decode code 515 = .ok (.invokevirtual 61, 3) := by decide +kernel
theorem dL_law_518 : decode code 518 = .ok (.lcmp, 1) := by decide +kernel
theorem dL_law_519 : decode code 519 = .ok (.ifCond .eq 424, 3) := by decide +kernel
theorem dL_law_522 : decode code 522 = .ok (.iconst 0, 1) := by decide +kernel
theorem dL_law_523 : decode code 523 = .ok (.ireturn, 1) := by decide +kernel
theorem dL_law_524 : decode code 524 = .ok (.aload_n 1, 1) := by decide +kernel
theorem dL_law_525 : decode code 525 = .ok (.aload_n 0, 1) := by decide +kernel
theorem dL_law_526 : decode code 526 = .ok (.iload_n 3, 1) := by decide +kernel
theorem dL_law_527 : decode code 527 = .ok (.iconst 1, 1) := by decide +kernel
theorem dL_law_528 : decode code 528 = .ok (.iadd, 1) := by decide +kernel
theorem dL_law_529 : decode code 529 = .ok (.iaload, 1) := by decide +kernel
theorem dL_law_530 : decode code 530 = .ok (.aload_n 0, 1) := by decide +kernel
theorem dL_law_531 : decode code 531 = .ok (.iload_n 3, 1) := by decide +kernel
theorem dL_law_532 : decode code 532 = .ok (.iconst 2, 1) := by decide +kernel
theorem dL_law_533 : decode code 533 = .ok (.iadd, 1) := by decide +kernel
theorem dL_law_534 : decode code 534 = .ok (.iaload, 1) := by decide +kernel
theorem dL_law_535 : decode code 535 = .ok (.aload_n 0, 1) := by decide +kernel
theorem dL_law_536 : decode code 536 = .ok (.iload_n 3, 1) := by decide +kernel
theorem dL_law_537 : decode code 537 = .ok (.iconst 3, 1) := by decide +kernel
theorem dL_law_538 : decode code 538 = .ok (.iadd, 1) := by decide +kernel
theorem dL_law_539 : decode code 539 = .ok (.iaload, 1) := by decide +kernel
theorem dL_law_540 : decode code 540 = .ok (.invokevirtual 62, 3) := by decide +kernel
theorem dL_law_543 : decode code 543 = .ok (.aload_n 2, 1) := by decide +kernel
theorem dL_law_544 : decode code 544 = .ok (.aload_n 0, 1) := by decide +kernel
theorem dL_law_545 : decode code 545 = .ok (.iload_n 3, 1) := by decide +kernel
theorem dL_law_546 : decode code 546 = .ok (.iconst 1, 1) := by decide +kernel
theorem dL_law_547 : decode code 547 = .ok (.iadd, 1) := by decide +kernel
theorem dL_law_548 : decode code 548 = .ok (.iaload, 1) := by decide +kernel
theorem dL_law_549 : decode code 549 = .ok (.aload_n 0, 1) := by decide +kernel
theorem dL_law_550 : decode code 550 = .ok (.iload_n 3, 1) := by decide +kernel
theorem dL_law_551 : decode code 551 = .ok (.iconst 2, 1) := by decide +kernel
theorem dL_law_552 : decode code 552 = .ok (.iadd, 1) := by decide +kernel
theorem dL_law_553 : decode code 553 = .ok (.iaload, 1) := by decide +kernel
theorem dL_law_554 : decode code 554 = .ok (.aload_n 0, 1) := by decide +kernel
theorem dL_law_555 : decode code 555 = .ok (.iload_n 3, 1) := by decide +kernel
theorem dL_law_556 : decode code 556 = .ok (.iconst 3, 1) := by decide +kernel
theorem dL_law_557 : decode code 557 = .ok (.iadd, 1) := by decide +kernel
theorem dL_law_558 : decode code 558 = .ok (.iaload, 1) := by decide +kernel
theorem dL_law_559 : decode code 559 = .ok (.invokevirtual 65, 3) := by decide +kernel
theorem dL_law_562 : decode code 562 = .ok (.lcmp, 1) := by decide +kernel
theorem dL_law_563 : decode code 563 = .ok (.ifCond .eq 380, 3) := by decide +kernel
theorem dL_law_566 : decode code 566 = .ok (.iconst 0, 1) := by decide +kernel
theorem dL_law_567 : decode code 567 = .ok (.ireturn, 1) := by decide +kernel
theorem dL_law_568 : decode code 568 = .ok (.aload_n 1, 1) := by decide +kernel
theorem dL_law_569 : decode code 569 = .ok (.aload_n 0, 1) := by decide +kernel
theorem dL_law_570 : decode code 570 = .ok (.iload_n 3, 1) := by decide +kernel
theorem dL_law_571 : decode code 571 = .ok (.iconst 1, 1) := by decide +kernel
theorem dL_law_572 : decode code 572 = .ok (.iadd, 1) := by decide +kernel
theorem dL_law_573 : decode code 573 = .ok (.iaload, 1) := by decide +kernel
theorem dL_law_574 : decode code 574 = .ok (.invokevirtual 66, 3) := by decide +kernel
theorem dL_law_577 : decode code 577 = .ok (.aload_n 2, 1) := by decide +kernel
theorem dL_law_578 : decode code 578 = .ok (.aload_n 0, 1) := by decide +kernel
theorem dL_law_579 : decode code 579 = .ok (.iload_n 3, 1) := by decide +kernel
theorem dL_law_580 : decode code 580 = .ok (.iconst 1, 1) := by decide +kernel
theorem dL_law_581 : decode code 581 = .ok (.iadd, 1) := by decide +kernel
theorem dL_law_582 : decode code 582 = .ok (.iaload, 1) := by decide +kernel
theorem dL_law_583 : decode code 583 = .ok (.invokevirtual 69, 3) := by decide +kernel
theorem dL_law_586 : decode code 586 = .ok (.if_icmp .eq 357, 3) := by decide +kernel
theorem dL_law_589 : decode code 589 = .ok (.iconst 0, 1) := by decide +kernel
theorem dL_law_590 : decode code 590 = .ok (.ireturn, 1) := by decide +kernel
theorem dL_law_591 : decode code 591 = .ok (.aload_n 1, 1) := by decide +kernel
theorem dL_law_592 : decode code 592 = .ok (.aload_n 0, 1) := by decide +kernel
theorem dL_law_593 : decode code 593 = .ok (.iload_n 3, 1) := by decide +kernel
theorem dL_law_594 : decode code 594 = .ok (.iconst 1, 1) := by decide +kernel
theorem dL_law_595 : decode code 595 = .ok (.iadd, 1) := by decide +kernel
theorem dL_law_596 : decode code 596 = .ok (.iaload, 1) := by decide +kernel
theorem dL_law_597 : decode code 597 = .ok (.aload_n 0, 1) := by decide +kernel
theorem dL_law_598 : decode code 598 = .ok (.iload_n 3, 1) := by decide +kernel
theorem dL_law_599 : decode code 599 = .ok (.iconst 2, 1) := by decide +kernel
theorem dL_law_600 : decode code 600 = .ok (.iadd, 1) := by decide +kernel
theorem dL_law_601 : decode code 601 = .ok (.iaload, 1) := by decide +kernel
theorem dL_law_602 : decode code 602 = .ok (.aload_n 0, 1) := by decide +kernel
theorem dL_law_603 : decode code 603 = .ok (.iload_n 3, 1) := by decide +kernel
theorem dL_law_604 : decode code 604 = .ok (.iconst 3, 1) := by decide +kernel
theorem dL_law_605 : decode code 605 = .ok (.iadd, 1) := by decide +kernel
theorem dL_law_606 : decode code 606 = .ok (.iaload, 1) := by decide +kernel
theorem dL_law_607 : decode code 607 = .ok (.invokevirtual 70, 3) := by decide +kernel
theorem dL_law_610 : decode code 610 = .ok (.aload_n 2, 1) := by decide +kernel
theorem dL_law_611 : decode code 611 = .ok (.aload_n 0, 1) := by decide +kernel
theorem dL_law_612 : decode code 612 = .ok (.iload_n 3, 1) := by decide +kernel
theorem dL_law_613 : decode code 613 = .ok (.iconst 1, 1) := by decide +kernel
theorem dL_law_614 : decode code 614 = .ok (.iadd, 1) := by decide +kernel
theorem dL_law_615 : decode code 615 = .ok (.iaload, 1) := by decide +kernel
theorem dL_law_616 : decode code 616 = .ok (.aload_n 0, 1) := by decide +kernel
theorem dL_law_617 : decode code 617 = .ok (.iload_n 3, 1) := by decide +kernel
theorem dL_law_618 : decode code 618 = .ok (.iconst 2, 1) := by decide +kernel
theorem dL_law_619 : decode code 619 = .ok (.iadd, 1) := by decide +kernel
theorem dL_law_620 : decode code 620 = .ok (.iaload, 1) := by decide +kernel
theorem dL_law_621 : decode code 621 = .ok (.aload_n 0, 1) := by decide +kernel
theorem dL_law_622 : decode code 622 = .ok (.iload_n 3, 1) := by decide +kernel
theorem dL_law_623 : decode code 623 = .ok (.iconst 3, 1) := by decide +kernel
theorem dL_law_624 : decode code 624 = .ok (.iadd, 1) := by decide +kernel
theorem dL_law_625 : decode code 625 = .ok (.iaload, 1) := by decide +kernel
theorem dL_law_626 : decode code 626 = .ok (.invokevirtual 73, 3) := by decide +kernel
theorem dL_law_629 : decode code 629 = .ok (.lcmp, 1) := by decide +kernel
theorem dL_law_630 : decode code 630 = .ok (.ifCond .eq 313, 3) := by decide +kernel
theorem dL_law_633 : decode code 633 = .ok (.iconst 0, 1) := by decide +kernel
theorem dL_law_634 : decode code 634 = .ok (.ireturn, 1) := by decide +kernel
theorem dL_law_635 : decode code 635 = .ok (.aload_n 1, 1) := by decide +kernel
theorem dL_law_636 : decode code 636 = .ok (.aload_n 0, 1) := by decide +kernel
theorem dL_law_637 : decode code 637 = .ok (.iload_n 3, 1) := by decide +kernel
theorem dL_law_638 : decode code 638 = .ok (.iconst 1, 1) := by decide +kernel
theorem dL_law_639 : decode code 639 = .ok (.iadd, 1) := by decide +kernel
theorem dL_law_640 : decode code 640 = .ok (.iaload, 1) := by decide +kernel
theorem dL_law_641 : decode code 641 = .ok (.aload_n 0, 1) := by decide +kernel
theorem dL_law_642 : decode code 642 = .ok (.iload_n 3, 1) := by decide +kernel
theorem dL_law_643 : decode code 643 = .ok (.iconst 2, 1) := by decide +kernel
theorem dL_law_644 : decode code 644 = .ok (.iadd, 1) := by decide +kernel
theorem dL_law_645 : decode code 645 = .ok (.iaload, 1) := by decide +kernel
theorem dL_law_646 : decode code 646 = .ok (.invokevirtual 74, 3) := by decide +kernel
theorem dL_law_649 : decode code 649 = .ok (.aload_n 2, 1) := by decide +kernel
theorem dL_law_650 : decode code 650 = .ok (.aload_n 0, 1) := by decide +kernel
theorem dL_law_651 : decode code 651 = .ok (.iload_n 3, 1) := by decide +kernel
theorem dL_law_652 : decode code 652 = .ok (.iconst 1, 1) := by decide +kernel
theorem dL_law_653 : decode code 653 = .ok (.iadd, 1) := by decide +kernel
theorem dL_law_654 : decode code 654 = .ok (.iaload, 1) := by decide +kernel
theorem dL_law_655 : decode code 655 = .ok (.aload_n 0, 1) := by decide +kernel
theorem dL_law_656 : decode code 656 = .ok (.iload_n 3, 1) := by decide +kernel
theorem dL_law_657 : decode code 657 = .ok (.iconst 2, 1) := by decide +kernel
theorem dL_law_658 : decode code 658 = .ok (.iadd, 1) := by decide +kernel
theorem dL_law_659 : decode code 659 = .ok (.iaload, 1) := by decide +kernel
theorem dL_law_660 : decode code 660 = .ok (.invokevirtual 77, 3) := by decide +kernel
theorem dL_law_663 : decode code 663 = .ok (.if_icmp .eq 280, 3) := by decide +kernel
theorem dL_law_666 : decode code 666 = .ok (.iconst 0, 1) := by decide +kernel
theorem dL_law_667 : decode code 667 = .ok (.ireturn, 1) := by decide +kernel
theorem dL_law_668 : decode code 668 = .ok (.aload_n 1, 1) := by decide +kernel
theorem dL_law_669 : decode code 669 = .ok (.aload_n 0, 1) := by decide +kernel
theorem dL_law_670 : decode code 670 = .ok (.iload_n 3, 1) := by decide +kernel
theorem dL_law_671 : decode code 671 = .ok (.iconst 1, 1) := by decide +kernel
theorem dL_law_672 : decode code 672 = .ok (.iadd, 1) := by decide +kernel
theorem dL_law_673 : decode code 673 = .ok (.iaload, 1) := by decide +kernel
theorem dL_law_674 : decode code 674 = .ok (.aload_n 0, 1) := by decide +kernel
theorem dL_law_675 : decode code 675 = .ok (.iload_n 3, 1) := by decide +kernel
theorem dL_law_676 : decode code 676 = .ok (.iconst 2, 1) := by decide +kernel
theorem dL_law_677 : decode code 677 = .ok (.iadd, 1) := by decide +kernel
theorem dL_law_678 : decode code 678 = .ok (.iaload, 1) := by decide +kernel
theorem dL_law_679 : decode code 679 = .ok (.aload_n 0, 1) := by decide +kernel
theorem dL_law_680 : decode code 680 = .ok (.iload_n 3, 1) := by decide +kernel
theorem dL_law_681 : decode code 681 = .ok (.iconst 3, 1) := by decide +kernel
theorem dL_law_682 : decode code 682 = .ok (.iadd, 1) := by decide +kernel
theorem dL_law_683 : decode code 683 = .ok (.iaload, 1) := by decide +kernel
theorem dL_law_684 : decode code 684 = .ok (.invokevirtual 78, 3) := by decide +kernel
theorem dL_law_687 : decode code 687 = .ok (.aload_n 2, 1) := by decide +kernel
theorem dL_law_688 : decode code 688 = .ok (.aload_n 0, 1) := by decide +kernel
theorem dL_law_689 : decode code 689 = .ok (.iload_n 3, 1) := by decide +kernel
theorem dL_law_690 : decode code 690 = .ok (.iconst 1, 1) := by decide +kernel
theorem dL_law_691 : decode code 691 = .ok (.iadd, 1) := by decide +kernel
theorem dL_law_692 : decode code 692 = .ok (.iaload, 1) := by decide +kernel
theorem dL_law_693 : decode code 693 = .ok (.aload_n 0, 1) := by decide +kernel
theorem dL_law_694 : decode code 694 = .ok (.iload_n 3, 1) := by decide +kernel
theorem dL_law_695 : decode code 695 = .ok (.iconst 2, 1) := by decide +kernel
theorem dL_law_696 : decode code 696 = .ok (.iadd, 1) := by decide +kernel
theorem dL_law_697 : decode code 697 = .ok (.iaload, 1) := by decide +kernel
theorem dL_law_698 : decode code 698 = .ok (.aload_n 0, 1) := by decide +kernel
theorem dL_law_699 : decode code 699 = .ok (.iload_n 3, 1) := by decide +kernel
theorem dL_law_700 : decode code 700 = .ok (.iconst 3, 1) := by decide +kernel
theorem dL_law_701 : decode code 701 = .ok (.iadd, 1) := by decide +kernel
theorem dL_law_702 : decode code 702 = .ok (.iaload, 1) := by decide +kernel
theorem dL_law_703 : decode code 703 = .ok (.invokevirtual 81, 3) := by decide +kernel
theorem dL_law_706 : decode code 706 = .ok (.if_icmp .eq 237, 3) := by decide +kernel
theorem dL_law_709 : decode code 709 = .ok (.iconst 0, 1) := by decide +kernel
theorem dL_law_710 : decode code 710 = .ok (.ireturn, 1) := by decide +kernel
theorem dL_law_711 : decode code 711 = .ok (.aload_n 1, 1) := by decide +kernel
theorem dL_law_712 : decode code 712 = .ok (.aload_n 0, 1) := by decide +kernel
theorem dL_law_713 : decode code 713 = .ok (.iload_n 3, 1) := by decide +kernel
theorem dL_law_714 : decode code 714 = .ok (.iconst 1, 1) := by decide +kernel
theorem dL_law_715 : decode code 715 = .ok (.iadd, 1) := by decide +kernel
theorem dL_law_716 : decode code 716 = .ok (.iaload, 1) := by decide +kernel
theorem dL_law_717 : decode code 717 = .ok (.aload_n 0, 1) := by decide +kernel
theorem dL_law_718 : decode code 718 = .ok (.iload_n 3, 1) := by decide +kernel
theorem dL_law_719 : decode code 719 = .ok (.iconst 2, 1) := by decide +kernel
theorem dL_law_720 : decode code 720 = .ok (.iadd, 1) := by decide +kernel
theorem dL_law_721 : decode code 721 = .ok (.iaload, 1) := by decide +kernel
theorem dL_law_722 : decode code 722 = .ok (.aload_n 0, 1) := by decide +kernel
theorem dL_law_723 : decode code 723 = .ok (.iload_n 3, 1) := by decide +kernel
theorem dL_law_724 : decode code 724 = .ok (.iconst 3, 1) := by decide +kernel
theorem dL_law_725 : decode code 725 = .ok (.iadd, 1) := by decide +kernel
theorem dL_law_726 : decode code 726 = .ok (.iaload, 1) := by decide +kernel
theorem dL_law_727 : decode code 727 = .ok (.aload_n 0, 1) := by decide +kernel
theorem dL_law_728 : decode code 728 = .ok (.iload_n 3, 1) := by decide +kernel
theorem dL_law_729 : decode code 729 = .ok (.iconst 4, 1) := by decide +kernel
theorem dL_law_730 : decode code 730 = .ok (.iadd, 1) := by decide +kernel
theorem dL_law_731 : decode code 731 = .ok (.iaload, 1) := by decide +kernel
theorem dL_law_732 : decode code 732 = .ok (.invokevirtual 82, 3) := by decide +kernel
theorem dL_law_735 : decode code 735 = .ok (.aload_n 2, 1) := by decide +kernel
theorem dL_law_736 : decode code 736 = .ok (.aload_n 0, 1) := by decide +kernel
theorem dL_law_737 : decode code 737 = .ok (.iload_n 3, 1) := by decide +kernel
theorem dL_law_738 : decode code 738 = .ok (.iconst 1, 1) := by decide +kernel
theorem dL_law_739 : decode code 739 = .ok (.iadd, 1) := by decide +kernel
theorem dL_law_740 : decode code 740 = .ok (.iaload, 1) := by decide +kernel
theorem dL_law_741 : decode code 741 = .ok (.aload_n 0, 1) := by decide +kernel
theorem dL_law_742 : decode code 742 = .ok (.iload_n 3, 1) := by decide +kernel
theorem dL_law_743 : decode code 743 = .ok (.iconst 2, 1) := by decide +kernel
theorem dL_law_744 : decode code 744 = .ok (.iadd, 1) := by decide +kernel
theorem dL_law_745 : decode code 745 = .ok (.iaload, 1) := by decide +kernel
theorem dL_law_746 : decode code 746 = .ok (.aload_n 0, 1) := by decide +kernel
theorem dL_law_747 : decode code 747 = .ok (.iload_n 3, 1) := by decide +kernel
theorem dL_law_748 : decode code 748 = .ok (.iconst 3, 1) := by decide +kernel
theorem dL_law_749 : decode code 749 = .ok (.iadd, 1) := by decide +kernel
theorem dL_law_750 : decode code 750 = .ok (.iaload, 1) := by decide +kernel
theorem dL_law_751 : decode code 751 = .ok (.aload_n 0, 1) := by decide +kernel
theorem dL_law_752 : decode code 752 = .ok (.iload_n 3, 1) := by decide +kernel
theorem dL_law_753 : decode code 753 = .ok (.iconst 4, 1) := by decide +kernel
theorem dL_law_754 : decode code 754 = .ok (.iadd, 1) := by decide +kernel
theorem dL_law_755 : decode code 755 = .ok (.iaload, 1) := by decide +kernel
theorem dL_law_756 : decode code 756 = .ok (.invokevirtual 86, 3) := by decide +kernel
theorem dL_law_759 : decode code 759 = .ok (.lcmp, 1) := by decide +kernel
theorem dL_law_760 : decode code 760 = .ok (.ifCond .eq 183, 3) := by decide +kernel
theorem dL_law_763 : decode code 763 = .ok (.iconst 0, 1) := by decide +kernel
theorem dL_law_764 : decode code 764 = .ok (.ireturn, 1) := by decide +kernel
theorem dL_law_765 : decode code 765 = .ok (.aload_n 1, 1) := by decide +kernel
theorem dL_law_766 : decode code 766 = .ok (.aload_n 0, 1) := by decide +kernel
theorem dL_law_767 : decode code 767 = .ok (.iload_n 3, 1) := by decide +kernel
theorem dL_law_768 : decode code 768 = .ok (.iconst 1, 1) := by decide +kernel
theorem dL_law_769 : decode code 769 = .ok (.iadd, 1) := by decide +kernel
theorem dL_law_770 : decode code 770 = .ok (.iaload, 1) := by decide +kernel
theorem dL_law_771 : decode code 771 = .ok (.aload_n 0, 1) := by decide +kernel
theorem dL_law_772 : decode code 772 = .ok (.iload_n 3, 1) := by decide +kernel
theorem dL_law_773 : decode code 773 = .ok (.iconst 2, 1) := by decide +kernel
theorem dL_law_774 : decode code 774 = .ok (.iadd, 1) := by decide +kernel
theorem dL_law_775 : decode code 775 = .ok (.iaload, 1) := by decide +kernel
theorem dL_law_776 : decode code 776 = .ok (.invokevirtual 87, 3) := by decide +kernel
theorem dL_law_779 : decode code 779 = .ok (.aload_n 2, 1) := by decide +kernel
theorem dL_law_780 : decode code 780 = .ok (.aload_n 0, 1) := by decide +kernel
theorem dL_law_781 : decode code 781 = .ok (.iload_n 3, 1) := by decide +kernel
theorem dL_law_782 : decode code 782 = .ok (.iconst 1, 1) := by decide +kernel
theorem dL_law_783 : decode code 783 = .ok (.iadd, 1) := by decide +kernel
theorem dL_law_784 : decode code 784 = .ok (.iaload, 1) := by decide +kernel
theorem dL_law_785 : decode code 785 = .ok (.aload_n 0, 1) := by decide +kernel
theorem dL_law_786 : decode code 786 = .ok (.iload_n 3, 1) := by decide +kernel
theorem dL_law_787 : decode code 787 = .ok (.iconst 2, 1) := by decide +kernel
theorem dL_law_788 : decode code 788 = .ok (.iadd, 1) := by decide +kernel
theorem dL_law_789 : decode code 789 = .ok (.iaload, 1) := by decide +kernel
theorem dL_law_790 : decode code 790 = .ok (.invokevirtual 90, 3) := by decide +kernel
theorem dL_law_793 : decode code 793 = .ok (.if_icmp .eq 150, 3) := by decide +kernel
theorem dL_law_796 : decode code 796 = .ok (.iconst 0, 1) := by decide +kernel
theorem dL_law_797 : decode code 797 = .ok (.ireturn, 1) := by decide +kernel
theorem dL_law_798 : decode code 798 = .ok (.aload_n 1, 1) := by decide +kernel
theorem dL_law_799 : decode code 799 = .ok (.aload_n 0, 1) := by decide +kernel
theorem dL_law_800 : decode code 800 = .ok (.iload_n 3, 1) := by decide +kernel
theorem dL_law_801 : decode code 801 = .ok (.iconst 1, 1) := by decide +kernel
theorem dL_law_802 : decode code 802 = .ok (.iadd, 1) := by decide +kernel
theorem dL_law_803 : decode code 803 = .ok (.iaload, 1) := by decide +kernel
theorem dL_law_804 : decode code 804 = .ok (.aload_n 0, 1) := by decide +kernel
theorem dL_law_805 : decode code 805 = .ok (.iload_n 3, 1) := by decide +kernel
theorem dL_law_806 : decode code 806 = .ok (.iconst 2, 1) := by decide +kernel
theorem dL_law_807 : decode code 807 = .ok (.iadd, 1) := by decide +kernel
theorem dL_law_808 : decode code 808 = .ok (.iaload, 1) := by decide +kernel
theorem dL_law_809 : decode code 809 = .ok (.aload_n 0, 1) := by decide +kernel
theorem dL_law_810 : decode code 810 = .ok (.iload_n 3, 1) := by decide +kernel
theorem dL_law_811 : decode code 811 = .ok (.iconst 3, 1) := by decide +kernel
theorem dL_law_812 : decode code 812 = .ok (.iadd, 1) := by decide +kernel
theorem dL_law_813 : decode code 813 = .ok (.iaload, 1) := by decide +kernel
theorem dL_law_814 : decode code 814 = .ok (.invokevirtual 91, 3) := by decide +kernel
theorem dL_law_817 : decode code 817 = .ok (.aload_n 2, 1) := by decide +kernel
theorem dL_law_818 : decode code 818 = .ok (.aload_n 0, 1) := by decide +kernel
theorem dL_law_819 : decode code 819 = .ok (.iload_n 3, 1) := by decide +kernel
theorem dL_law_820 : decode code 820 = .ok (.iconst 1, 1) := by decide +kernel
theorem dL_law_821 : decode code 821 = .ok (.iadd, 1) := by decide +kernel
theorem dL_law_822 : decode code 822 = .ok (.iaload, 1) := by decide +kernel
theorem dL_law_823 : decode code 823 = .ok (.aload_n 0, 1) := by decide +kernel
theorem dL_law_824 : decode code 824 = .ok (.iload_n 3, 1) := by decide +kernel
theorem dL_law_825 : decode code 825 = .ok (.iconst 2, 1) := by decide +kernel
theorem dL_law_826 : decode code 826 = .ok (.iadd, 1) := by decide +kernel
theorem dL_law_827 : decode code 827 = .ok (.iaload, 1) := by decide +kernel
theorem dL_law_828 : decode code 828 = .ok (.aload_n 0, 1) := by decide +kernel
theorem dL_law_829 : decode code 829 = .ok (.iload_n 3, 1) := by decide +kernel
theorem dL_law_830 : decode code 830 = .ok (.iconst 3, 1) := by decide +kernel
theorem dL_law_831 : decode code 831 = .ok (.iadd, 1) := by decide +kernel
theorem dL_law_832 : decode code 832 = .ok (.iaload, 1) := by decide +kernel
theorem dL_law_833 : decode code 833 = .ok (.invokevirtual 94, 3) := by decide +kernel
theorem dL_law_836 : decode code 836 = .ok (.if_icmp .eq 107, 3) := by decide +kernel
theorem dL_law_839 : decode code 839 = .ok (.iconst 0, 1) := by decide +kernel
theorem dL_law_840 : decode code 840 = .ok (.ireturn, 1) := by decide +kernel
theorem dL_law_841 : decode code 841 = .ok (.aload_n 1, 1) := by decide +kernel
theorem dL_law_842 : decode code 842 = .ok (.aload_n 0, 1) := by decide +kernel
theorem dL_law_843 : decode code 843 = .ok (.iload_n 3, 1) := by decide +kernel
theorem dL_law_844 : decode code 844 = .ok (.iconst 1, 1) := by decide +kernel
theorem dL_law_845 : decode code 845 = .ok (.iadd, 1) := by decide +kernel
theorem dL_law_846 : decode code 846 = .ok (.iaload, 1) := by decide +kernel
theorem dL_law_847 : decode code 847 = .ok (.aload_n 0, 1) := by decide +kernel
theorem dL_law_848 : decode code 848 = .ok (.iload_n 3, 1) := by decide +kernel
theorem dL_law_849 : decode code 849 = .ok (.iconst 2, 1) := by decide +kernel
theorem dL_law_850 : decode code 850 = .ok (.iadd, 1) := by decide +kernel
theorem dL_law_851 : decode code 851 = .ok (.iaload, 1) := by decide +kernel
theorem dL_law_852 : decode code 852 = .ok (.invokevirtual 95, 3) := by decide +kernel
theorem dL_law_855 : decode code 855 = .ok (.aload_n 2, 1) := by decide +kernel
theorem dL_law_856 : decode code 856 = .ok (.aload_n 0, 1) := by decide +kernel
theorem dL_law_857 : decode code 857 = .ok (.iload_n 3, 1) := by decide +kernel
theorem dL_law_858 : decode code 858 = .ok (.iconst 1, 1) := by decide +kernel
theorem dL_law_859 : decode code 859 = .ok (.iadd, 1) := by decide +kernel
theorem dL_law_860 : decode code 860 = .ok (.iaload, 1) := by decide +kernel
theorem dL_law_861 : decode code 861 = .ok (.aload_n 0, 1) := by decide +kernel
theorem dL_law_862 : decode code 862 = .ok (.iload_n 3, 1) := by decide +kernel
theorem dL_law_863 : decode code 863 = .ok (.iconst 2, 1) := by decide +kernel
theorem dL_law_864 : decode code 864 = .ok (.iadd, 1) := by decide +kernel
theorem dL_law_865 : decode code 865 = .ok (.iaload, 1) := by decide +kernel
theorem dL_law_866 : decode code 866 = .ok (.invokevirtual 98, 3) := by decide +kernel
theorem dL_law_869 : decode code 869 = .ok (.if_icmp .eq 74, 3) := by decide +kernel
theorem dL_law_872 : decode code 872 = .ok (.iconst 0, 1) := by decide +kernel
theorem dL_law_873 : decode code 873 = .ok (.ireturn, 1) := by decide +kernel
theorem dL_law_874 : decode code 874 = .ok (.aload_n 1, 1) := by decide +kernel
theorem dL_law_875 : decode code 875 = .ok (.aload_n 0, 1) := by decide +kernel
theorem dL_law_876 : decode code 876 = .ok (.iload_n 3, 1) := by decide +kernel
theorem dL_law_877 : decode code 877 = .ok (.iconst 1, 1) := by decide +kernel
theorem dL_law_878 : decode code 878 = .ok (.iadd, 1) := by decide +kernel
theorem dL_law_879 : decode code 879 = .ok (.iaload, 1) := by decide +kernel
theorem dL_law_880 : decode code 880 = .ok (.invokevirtual 99, 3) := by decide +kernel
theorem dL_law_883 : decode code 883 = .ok (.aload_n 2, 1) := by decide +kernel
theorem dL_law_884 : decode code 884 = .ok (.aload_n 0, 1) := by decide +kernel
theorem dL_law_885 : decode code 885 = .ok (.iload_n 3, 1) := by decide +kernel
theorem dL_law_886 : decode code 886 = .ok (.iconst 1, 1) := by decide +kernel
theorem dL_law_887 : decode code 887 = .ok (.iadd, 1) := by decide +kernel
theorem dL_law_888 : decode code 888 = .ok (.iaload, 1) := by decide +kernel
theorem dL_law_889 : decode code 889 = .ok (.invokevirtual 102, 3) := by decide +kernel
theorem dL_law_892 : decode code 892 = .ok (.if_icmp .eq 51, 3) := by decide +kernel
theorem dL_law_895 : decode code 895 = .ok (.iconst 0, 1) := by decide +kernel
theorem dL_law_896 : decode code 896 = .ok (.ireturn, 1) := by decide +kernel
theorem dL_law_897 : decode code 897 = .ok (.aload_n 1, 1) := by decide +kernel
theorem dL_law_898 : decode code 898 = .ok (.aload_n 0, 1) := by decide +kernel
theorem dL_law_899 : decode code 899 = .ok (.iload_n 3, 1) := by decide +kernel
theorem dL_law_900 : decode code 900 = .ok (.iconst 1, 1) := by decide +kernel
theorem dL_law_901 : decode code 901 = .ok (.iadd, 1) := by decide +kernel
theorem dL_law_902 : decode code 902 = .ok (.iaload, 1) := by decide +kernel
theorem dL_law_903 : decode code 903 = .ok (.invokevirtual 103, 3) := by decide +kernel
theorem dL_law_906 : decode code 906 = .ok (.aload_n 2, 1) := by decide +kernel
theorem dL_law_907 : decode code 907 = .ok (.aload_n 0, 1) := by decide +kernel
theorem dL_law_908 : decode code 908 = .ok (.iload_n 3, 1) := by decide +kernel
theorem dL_law_909 : decode code 909 = .ok (.iconst 1, 1) := by decide +kernel
theorem dL_law_910 : decode code 910 = .ok (.iadd, 1) := by decide +kernel
theorem dL_law_911 : decode code 911 = .ok (.iaload, 1) := by decide +kernel
theorem dL_law_912 : decode code 912 = .ok (.invokevirtual 106, 3) := by decide +kernel
theorem dL_law_915 : decode code 915 = .ok (.if_icmp .eq 28, 3) := by decide +kernel
theorem dL_law_918 : decode code 918 = .ok (.iconst 0, 1) := by decide +kernel
theorem dL_law_919 : decode code 919 = .ok (.ireturn, 1) := by decide +kernel
theorem dL_law_920 : decode code 920 = .ok (.aload_n 1, 1) := by decide +kernel
theorem dL_law_921 : decode code 921 = .ok (.aload_n 0, 1) := by decide +kernel
theorem dL_law_922 : decode code 922 = .ok (.iload_n 3, 1) := by decide +kernel
theorem dL_law_923 : decode code 923 = .ok (.iconst 1, 1) := by decide +kernel
theorem dL_law_924 : decode code 924 = .ok (.iadd, 1) := by decide +kernel
theorem dL_law_925 : decode code 925 = .ok (.iaload, 1) := by decide +kernel
theorem dL_law_926 : decode code 926 = .ok (.invokevirtual 107, 3) := by decide +kernel
theorem dL_law_929 : decode code 929 = .ok (.aload_n 2, 1) := by decide +kernel
theorem dL_law_930 : decode code 930 = .ok (.aload_n 0, 1) := by decide +kernel
theorem dL_law_931 : decode code 931 = .ok (.iload_n 3, 1) := by decide +kernel
theorem dL_law_932 : decode code 932 = .ok (.iconst 1, 1) := by decide +kernel
theorem dL_law_933 : decode code 933 = .ok (.iadd, 1) := by decide +kernel
theorem dL_law_934 : decode code 934 = .ok (.iaload, 1) := by decide +kernel
theorem dL_law_935 : decode code 935 = .ok (.invokevirtual 110, 3) := by decide +kernel
theorem dL_law_938 : decode code 938 = .ok (.if_icmp .eq 5, 3) := by decide +kernel
theorem dL_law_941 : decode code 941 = .ok (.iconst 0, 1) := by decide +kernel
theorem dL_law_942 : decode code 942 = .ok (.ireturn, 1) := by decide +kernel
theorem dL_law_943 : decode code 943 = .ok (.iinc 3 5, 3) := by decide +kernel
theorem dL_law_946 : decode code 946 = .ok (.goto (-928), 3) := by decide +kernel
theorem dL_law_949 : decode code 949 = .ok (.iconst 1, 1) := by decide +kernel
theorem dL_law_950 : decode code 950 = .ok (.ireturn, 1) := by decide +kernel
noncomputable def f_L_law_b943 (N : Nat) (xs : Nat → Int32) (L : Nat) (kb18 : Int32 → ZS → Option (Int32 × ZS)) (x3 : Int32) (σ : ZS) : Option (Int32 × ZS) := bd (x3 + (5 : Int32)) fun v16 => kb18 v16 σ
noncomputable def f_L_law_h18 (N : Nat) (xs : Nat → Int32) (L : Nat) : Nat → Int32 → ZS → Option (Int32 × ZS)
  | 0, _, _ => none
  | n + 1, x3, σ => (if ((Int32.ofNat L) - (5 : Int32)) < x3 then some ((1 : Int32), σ) else ck (inb x3 L) (bd ((xs x3.toNatClampNeg) &&& (31 : Int32)) fun v3 => (if v3 = (0 : Int32) then ck (inb (x3 + (1 : Int32)) L) (ck (inb (x3 + (2 : Int32)) L) (ck (inb (x3 + (3 : Int32)) L) (obd (f_X5_node N (xs (x3 + (1 : Int32)).toNatClampNeg) (xs (x3 + (2 : Int32)).toNatClampNeg) (xs (x3 + (3 : Int32)).toNatClampNeg) σ) fun v8 σ9 => ck (inb (x3 + (1 : Int32)) L) (ck (inb (x3 + (2 : Int32)) L) (ck (inb (x3 + (3 : Int32)) L) (obd (f_X6_node N (xs (x3 + (1 : Int32)).toNatClampNeg) (xs (x3 + (2 : Int32)).toNatClampNeg) (xs (x3 + (3 : Int32)).toNatClampNeg) σ9) fun v13 σ14 => (if v8 = v13 then f_L_law_b943 N xs L (fun x3_ σ_ => f_L_law_h18 N xs L n x3_ σ_) x3 σ14 else some ((0 : Int32), σ14)))))))) else (if v3 = (1 : Int32) then ck (inb (x3 + (1 : Int32)) L) (ck (inb (x3 + (2 : Int32)) L) (obd (f_X5_hold N (xs (x3 + (1 : Int32)).toNatClampNeg) (xs (x3 + (2 : Int32)).toNatClampNeg) σ) fun v20 σ21 => ck (inb (x3 + (1 : Int32)) L) (ck (inb (x3 + (2 : Int32)) L) (obd (f_X6_hold N (xs (x3 + (1 : Int32)).toNatClampNeg) (xs (x3 + (2 : Int32)).toNatClampNeg) σ21) fun v24 σ25 => (if v20 = v24 then f_L_law_b943 N xs L (fun x3_ σ_ => f_L_law_h18 N xs L n x3_ σ_) x3 σ25 else some ((0 : Int32), σ25)))))) else (if v3 = (2 : Int32) then ck (inb (x3 + (1 : Int32)) L) (ck (inb (x3 + (2 : Int32)) L) (ck (inb (x3 + (3 : Int32)) L) (obd (f_X5_bar N (xs (x3 + (1 : Int32)).toNatClampNeg) (xs (x3 + (2 : Int32)).toNatClampNeg) (xs (x3 + (3 : Int32)).toNatClampNeg) σ) fun v31 σ32 => ck (inb (x3 + (1 : Int32)) L) (ck (inb (x3 + (2 : Int32)) L) (ck (inb (x3 + (3 : Int32)) L) (obd (f_X6_bar N (xs (x3 + (1 : Int32)).toNatClampNeg) (xs (x3 + (2 : Int32)).toNatClampNeg) (xs (x3 + (3 : Int32)).toNatClampNeg) σ32) fun v36 σ37 => (if v31 = v36 then f_L_law_b943 N xs L (fun x3_ σ_ => f_L_law_h18 N xs L n x3_ σ_) x3 σ37 else some ((0 : Int32), σ37)))))))) else (if v3 = (3 : Int32) then ck (inb (x3 + (1 : Int32)) L) (obd (f_X5_lift N (xs (x3 + (1 : Int32)).toNatClampNeg) σ) fun v41 σ42 => ck (inb (x3 + (1 : Int32)) L) (obd (f_X6_lift N (xs (x3 + (1 : Int32)).toNatClampNeg) σ42) fun v44 σ45 => (if v41 = v44 then f_L_law_b943 N xs L (fun x3_ σ_ => f_L_law_h18 N xs L n x3_ σ_) x3 σ45 else some ((0 : Int32), σ45)))) else (if v3 = (4 : Int32) then ck (inb (x3 + (1 : Int32)) L) (ck (inb (x3 + (2 : Int32)) L) (obd (f_X5_strengthen N (xs (x3 + (1 : Int32)).toNatClampNeg) (xs (x3 + (2 : Int32)).toNatClampNeg) σ) fun v50 σ51 => ck (inb (x3 + (1 : Int32)) L) (ck (inb (x3 + (2 : Int32)) L) (obd (f_X6_strengthen N (xs (x3 + (1 : Int32)).toNatClampNeg) (xs (x3 + (2 : Int32)).toNatClampNeg) σ51) fun v54 σ55 => (if v50 = v54 then f_L_law_b943 N xs L (fun x3_ σ_ => f_L_law_h18 N xs L n x3_ σ_) x3 σ55 else some ((0 : Int32), σ55)))))) else (if v3 = (5 : Int32) then ck (inb (x3 + (1 : Int32)) L) (ck (inb (x3 + (2 : Int32)) L) (ck (inb (x3 + (3 : Int32)) L) (ck (inb (x3 + (4 : Int32)) L) (obd (f_X5_load N (xs (x3 + (1 : Int32)).toNatClampNeg) (xs (x3 + (2 : Int32)).toNatClampNeg) (xs (x3 + (3 : Int32)).toNatClampNeg) (xs (x3 + (4 : Int32)).toNatClampNeg) σ) fun v62 σ63 => ck (inb (x3 + (1 : Int32)) L) (ck (inb (x3 + (2 : Int32)) L) (ck (inb (x3 + (3 : Int32)) L) (ck (inb (x3 + (4 : Int32)) L) (obd (f_X6_load N (xs (x3 + (1 : Int32)).toNatClampNeg) (xs (x3 + (2 : Int32)).toNatClampNeg) (xs (x3 + (3 : Int32)).toNatClampNeg) (xs (x3 + (4 : Int32)).toNatClampNeg) σ63) fun v68 σ69 => (if v62 = v68 then f_L_law_b943 N xs L (fun x3_ σ_ => f_L_law_h18 N xs L n x3_ σ_) x3 σ69 else some ((0 : Int32), σ69)))))))))) else (if v3 = (6 : Int32) then ck (inb (x3 + (1 : Int32)) L) (ck (inb (x3 + (2 : Int32)) L) (obd (f_X5_ofNode N (xs (x3 + (1 : Int32)).toNatClampNeg) (xs (x3 + (2 : Int32)).toNatClampNeg) σ) fun v74 σ75 => ck (inb (x3 + (1 : Int32)) L) (ck (inb (x3 + (2 : Int32)) L) (obd (f_X6_ofNode N (xs (x3 + (1 : Int32)).toNatClampNeg) (xs (x3 + (2 : Int32)).toNatClampNeg) σ75) fun v78 σ79 => (if v74 = v78 then f_L_law_b943 N xs L (fun x3_ σ_ => f_L_law_h18 N xs L n x3_ σ_) x3 σ79 else some ((0 : Int32), σ79)))))) else (if v3 = (7 : Int32) then ck (inb (x3 + (1 : Int32)) L) (ck (inb (x3 + (2 : Int32)) L) (obd (f_X5_ofBar N (xs (x3 + (1 : Int32)).toNatClampNeg) (xs (x3 + (2 : Int32)).toNatClampNeg) σ) fun v84 σ85 => ck (inb (x3 + (1 : Int32)) L) (ck (inb (x3 + (2 : Int32)) L) (obd (f_X6_ofBar N (xs (x3 + (1 : Int32)).toNatClampNeg) (xs (x3 + (2 : Int32)).toNatClampNeg) σ85) fun v88 σ89 => (if v84 = v88 then f_L_law_b943 N xs L (fun x3_ σ_ => f_L_law_h18 N xs L n x3_ σ_) x3 σ89 else some ((0 : Int32), σ89)))))) else (if v3 = (8 : Int32) then ck (inb (x3 + (1 : Int32)) L) (obd (f_X5_count N (xs (x3 + (1 : Int32)).toNatClampNeg) σ) fun v93 σ94 => ck (inb (x3 + (1 : Int32)) L) (obd (f_X6_count N (xs (x3 + (1 : Int32)).toNatClampNeg) σ94) fun v96 σ97 => (if v93 = v96 then f_L_law_b943 N xs L (fun x3_ σ_ => f_L_law_h18 N xs L n x3_ σ_) x3 σ97 else some ((0 : Int32), σ97)))) else (if v3 = (9 : Int32) then ck (inb (x3 + (1 : Int32)) L) (obd (f_X5_mechanism N (xs (x3 + (1 : Int32)).toNatClampNeg) σ) fun v101 σ102 => ck (inb (x3 + (1 : Int32)) L) (obd (f_X6_mechanism N (xs (x3 + (1 : Int32)).toNatClampNeg) σ102) fun v104 σ105 => (if v101 = v104 then f_L_law_b943 N xs L (fun x3_ σ_ => f_L_law_h18 N xs L n x3_ σ_) x3 σ105 else some ((0 : Int32), σ105)))) else (if v3 = (10 : Int32) then ck (inb (x3 + (1 : Int32)) L) (ck (inb (x3 + (2 : Int32)) L) (ck (inb (x3 + (3 : Int32)) L) (obd (f_X5_twist N (xs (x3 + (1 : Int32)).toNatClampNeg) (xs (x3 + (2 : Int32)).toNatClampNeg) (xs (x3 + (3 : Int32)).toNatClampNeg) σ) fun v111 σ112 => ck (inb (x3 + (1 : Int32)) L) (ck (inb (x3 + (2 : Int32)) L) (ck (inb (x3 + (3 : Int32)) L) (obd (f_X6_twist N (xs (x3 + (1 : Int32)).toNatClampNeg) (xs (x3 + (2 : Int32)).toNatClampNeg) (xs (x3 + (3 : Int32)).toNatClampNeg) σ112) fun v116 σ117 => (if v111 = v116 then f_L_law_b943 N xs L (fun x3_ σ_ => f_L_law_h18 N xs L n x3_ σ_) x3 σ117 else some ((0 : Int32), σ117)))))))) else (if v3 = (11 : Int32) then ck (inb (x3 + (1 : Int32)) L) (ck (inb (x3 + (2 : Int32)) L) (ck (inb (x3 + (3 : Int32)) L) (obd (f_X5_bound N (xs (x3 + (1 : Int32)).toNatClampNeg) (xs (x3 + (2 : Int32)).toNatClampNeg) (xs (x3 + (3 : Int32)).toNatClampNeg) σ) fun v123 σ124 => ck (inb (x3 + (1 : Int32)) L) (ck (inb (x3 + (2 : Int32)) L) (ck (inb (x3 + (3 : Int32)) L) (obd (f_X6_bound N (xs (x3 + (1 : Int32)).toNatClampNeg) (xs (x3 + (2 : Int32)).toNatClampNeg) (xs (x3 + (3 : Int32)).toNatClampNeg) σ124) fun v128 σ129 => (if v123 = v128 then f_L_law_b943 N xs L (fun x3_ σ_ => f_L_law_h18 N xs L n x3_ σ_) x3 σ129 else some ((0 : Int32), σ129)))))))) else (if v3 = (12 : Int32) then ck (inb (x3 + (1 : Int32)) L) (obd (f_X5_limits N (xs (x3 + (1 : Int32)).toNatClampNeg) σ) fun v133 σ134 => ck (inb (x3 + (1 : Int32)) L) (obd (f_X6_limits N (xs (x3 + (1 : Int32)).toNatClampNeg) σ134) fun v136 σ137 => (if v133 = v136 then f_L_law_b943 N xs L (fun x3_ σ_ => f_L_law_h18 N xs L n x3_ σ_) x3 σ137 else some ((0 : Int32), σ137)))) else (if v3 = (13 : Int32) then ck (inb (x3 + (1 : Int32)) L) (ck (inb (x3 + (2 : Int32)) L) (ck (inb (x3 + (3 : Int32)) L) (obd (f_X5_factor N (xs (x3 + (1 : Int32)).toNatClampNeg) (xs (x3 + (2 : Int32)).toNatClampNeg) (xs (x3 + (3 : Int32)).toNatClampNeg) σ) fun v143 σ144 => ck (inb (x3 + (1 : Int32)) L) (ck (inb (x3 + (2 : Int32)) L) (ck (inb (x3 + (3 : Int32)) L) (obd (f_X6_factor N (xs (x3 + (1 : Int32)).toNatClampNeg) (xs (x3 + (2 : Int32)).toNatClampNeg) (xs (x3 + (3 : Int32)).toNatClampNeg) σ144) fun v148 σ149 => (if v143 = v148 then f_L_law_b943 N xs L (fun x3_ σ_ => f_L_law_h18 N xs L n x3_ σ_) x3 σ149 else some ((0 : Int32), σ149)))))))) else (if v3 = (14 : Int32) then ck (inb (x3 + (1 : Int32)) L) (ck (inb (x3 + (2 : Int32)) L) (obd (f_X5_near N (xs (x3 + (1 : Int32)).toNatClampNeg) (xs (x3 + (2 : Int32)).toNatClampNeg) σ) fun v154 σ155 => ck (inb (x3 + (1 : Int32)) L) (ck (inb (x3 + (2 : Int32)) L) (obd (f_X6_near N (xs (x3 + (1 : Int32)).toNatClampNeg) (xs (x3 + (2 : Int32)).toNatClampNeg) σ155) fun v158 σ159 => (if v154 = v158 then f_L_law_b943 N xs L (fun x3_ σ_ => f_L_law_h18 N xs L n x3_ σ_) x3 σ159 else some ((0 : Int32), σ159)))))) else (if v3 = (15 : Int32) then ck (inb (x3 + (1 : Int32)) L) (ck (inb (x3 + (2 : Int32)) L) (ck (inb (x3 + (3 : Int32)) L) (obd (f_X5_bears N (xs (x3 + (1 : Int32)).toNatClampNeg) (xs (x3 + (2 : Int32)).toNatClampNeg) (xs (x3 + (3 : Int32)).toNatClampNeg) σ) fun v165 σ166 => ck (inb (x3 + (1 : Int32)) L) (ck (inb (x3 + (2 : Int32)) L) (ck (inb (x3 + (3 : Int32)) L) (obd (f_X6_bears N (xs (x3 + (1 : Int32)).toNatClampNeg) (xs (x3 + (2 : Int32)).toNatClampNeg) (xs (x3 + (3 : Int32)).toNatClampNeg) σ166) fun v170 σ171 => (if v165 = v170 then f_L_law_b943 N xs L (fun x3_ σ_ => f_L_law_h18 N xs L n x3_ σ_) x3 σ171 else some ((0 : Int32), σ171)))))))) else (if v3 = (16 : Int32) then ck (inb (x3 + (1 : Int32)) L) (ck (inb (x3 + (2 : Int32)) L) (ck (inb (x3 + (3 : Int32)) L) (ck (inb (x3 + (4 : Int32)) L) (obd (f_X5_moment N (xs (x3 + (1 : Int32)).toNatClampNeg) (xs (x3 + (2 : Int32)).toNatClampNeg) (xs (x3 + (3 : Int32)).toNatClampNeg) (xs (x3 + (4 : Int32)).toNatClampNeg) σ) fun v178 σ179 => ck (inb (x3 + (1 : Int32)) L) (ck (inb (x3 + (2 : Int32)) L) (ck (inb (x3 + (3 : Int32)) L) (ck (inb (x3 + (4 : Int32)) L) (obd (f_X6_moment N (xs (x3 + (1 : Int32)).toNatClampNeg) (xs (x3 + (2 : Int32)).toNatClampNeg) (xs (x3 + (3 : Int32)).toNatClampNeg) (xs (x3 + (4 : Int32)).toNatClampNeg) σ179) fun v184 σ185 => (if v178 = v184 then f_L_law_b943 N xs L (fun x3_ σ_ => f_L_law_h18 N xs L n x3_ σ_) x3 σ185 else some ((0 : Int32), σ185)))))))))) else (if v3 = (17 : Int32) then ck (inb (x3 + (1 : Int32)) L) (ck (inb (x3 + (2 : Int32)) L) (obd (f_X5_yields N (xs (x3 + (1 : Int32)).toNatClampNeg) (xs (x3 + (2 : Int32)).toNatClampNeg) σ) fun v190 σ191 => ck (inb (x3 + (1 : Int32)) L) (ck (inb (x3 + (2 : Int32)) L) (obd (f_X6_yields N (xs (x3 + (1 : Int32)).toNatClampNeg) (xs (x3 + (2 : Int32)).toNatClampNeg) σ191) fun v194 σ195 => (if v190 = v194 then f_L_law_b943 N xs L (fun x3_ σ_ => f_L_law_h18 N xs L n x3_ σ_) x3 σ195 else some ((0 : Int32), σ195)))))) else (if v3 = (18 : Int32) then ck (inb (x3 + (1 : Int32)) L) (ck (inb (x3 + (2 : Int32)) L) (ck (inb (x3 + (3 : Int32)) L) (obd (f_X5_binding N (xs (x3 + (1 : Int32)).toNatClampNeg) (xs (x3 + (2 : Int32)).toNatClampNeg) (xs (x3 + (3 : Int32)).toNatClampNeg) σ) fun v201 σ202 => ck (inb (x3 + (1 : Int32)) L) (ck (inb (x3 + (2 : Int32)) L) (ck (inb (x3 + (3 : Int32)) L) (obd (f_X6_binding N (xs (x3 + (1 : Int32)).toNatClampNeg) (xs (x3 + (2 : Int32)).toNatClampNeg) (xs (x3 + (3 : Int32)).toNatClampNeg) σ202) fun v206 σ207 => (if v201 = v206 then f_L_law_b943 N xs L (fun x3_ σ_ => f_L_law_h18 N xs L n x3_ σ_) x3 σ207 else some ((0 : Int32), σ207)))))))) else (if v3 = (19 : Int32) then ck (inb (x3 + (1 : Int32)) L) (ck (inb (x3 + (2 : Int32)) L) (obd (f_X5_spare N (xs (x3 + (1 : Int32)).toNatClampNeg) (xs (x3 + (2 : Int32)).toNatClampNeg) σ) fun v212 σ213 => ck (inb (x3 + (1 : Int32)) L) (ck (inb (x3 + (2 : Int32)) L) (obd (f_X6_spare N (xs (x3 + (1 : Int32)).toNatClampNeg) (xs (x3 + (2 : Int32)).toNatClampNeg) σ213) fun v216 σ217 => (if v212 = v216 then f_L_law_b943 N xs L (fun x3_ σ_ => f_L_law_h18 N xs L n x3_ σ_) x3 σ217 else some ((0 : Int32), σ217)))))) else (if v3 = (20 : Int32) then ck (inb (x3 + (1 : Int32)) L) (obd (f_X5_weakest N (xs (x3 + (1 : Int32)).toNatClampNeg) σ) fun v221 σ222 => ck (inb (x3 + (1 : Int32)) L) (obd (f_X6_weakest N (xs (x3 + (1 : Int32)).toNatClampNeg) σ222) fun v224 σ225 => (if v221 = v224 then f_L_law_b943 N xs L (fun x3_ σ_ => f_L_law_h18 N xs L n x3_ σ_) x3 σ225 else some ((0 : Int32), σ225)))) else (if v3 = (21 : Int32) then ck (inb (x3 + (1 : Int32)) L) (obd (f_X5_image N (xs (x3 + (1 : Int32)).toNatClampNeg) σ) fun v229 σ230 => ck (inb (x3 + (1 : Int32)) L) (obd (f_X6_image N (xs (x3 + (1 : Int32)).toNatClampNeg) σ230) fun v232 σ233 => (if v229 = v232 then f_L_law_b943 N xs L (fun x3_ σ_ => f_L_law_h18 N xs L n x3_ σ_) x3 σ233 else some ((0 : Int32), σ233)))) else (if v3 = (22 : Int32) then ck (inb (x3 + (1 : Int32)) L) (obd (f_X5_restore N (xs (x3 + (1 : Int32)).toNatClampNeg) σ) fun v237 σ238 => ck (inb (x3 + (1 : Int32)) L) (obd (f_X6_restore N (xs (x3 + (1 : Int32)).toNatClampNeg) σ238) fun v240 σ241 => (if v237 = v240 then f_L_law_b943 N xs L (fun x3_ σ_ => f_L_law_h18 N xs L n x3_ σ_) x3 σ241 else some ((0 : Int32), σ241)))) else f_L_law_b943 N xs L (fun x3_ σ_ => f_L_law_h18 N xs L n x3_ σ_) x3 σ)))))))))))))))))))))))))
set_option maxHeartbeats 4000000 in
set_option maxRecDepth 100000 in
theorem k_L_law_b943 {l : Launch} {Y : ZY} {G : ZG} {σ' : ZS} {b L : Nat} {xs : Nat → Int32} (h : zOk (l, room_1, 4, 1106, 49703) Y G code RL ret) (hq : zLaw (l, room_1, 4, 1106, 49703) Y b L xs) (N : Nat) {kb18 : Int32 → ZS → Option (Int32 × ZS)} (x3 : Int32) (hb18 : ∀ (x3_ : Int32) (σ_ : ZS), kb18 x3_ σ_ = some ((1 : Int32), σ') → Z (l, room_1, 4, 1106, 49703) Y G σ_ [(0, .ref b), (1, .ref (G.1 0)), (2, .ref (G.1 1067)), (3, .int x3_)] [] 18) (σ : ZS) (hf : f_L_law_b943 N xs L kb18 x3 σ = some ((1 : Int32), σ')) : Z (l, room_1, 4, 1106, 49703) Y G σ [(0, .ref b), (1, .ref (G.1 0)), (2, .ref (G.1 1067)), (3, .int x3)] [] 943 := by
  rw [f_L_law_b943] at hf
  obtain ⟨v16, ev16, hf⟩ := bd_ex hf
  refine z_iinc h (v := v16) (lv' := [(3, .int v16), (0, .ref b), (1, .ref (G.1 0)), (2, .ref (G.1 1067))]) dL_law_943 3 rfl (by rw [ev16]; rfl) rfl rfl ?_
  refine z_goto h (tgt := 18) dL_law_946 (by decide) ?_
  exact z_sub [1, 2, 3, 0] rfl (hb18 _ _ hf)
set_option maxHeartbeats 4000000 in
set_option maxRecDepth 100000 in
theorem k_L_law_h18 {l : Launch} {Y : ZY} {G : ZG} {σ' : ZS} {b L : Nat} {xs : Nat → Int32} (h : zOk (l, room_1, 4, 1106, 49703) Y G code RL ret) (hq : zLaw (l, room_1, 4, 1106, 49703) Y b L xs) (N : Nat) : ∀ (n : Nat) (x3 : Int32) (σ : ZS), f_L_law_h18 N xs L n x3 σ = some ((1 : Int32), σ') → Z (l, room_1, 4, 1106, 49703) Y G σ [(0, .ref b), (1, .ref (G.1 0)), (2, .ref (G.1 1067)), (3, .int x3)] [] 18 := by
  intro n
  induction n with
  | zero =>
    intro x3 σ hf
    rw [f_L_law_h18] at hf
    cases hf
  | succ n ih =>
    intro x3 σ hf
    rw [f_L_law_h18] at hf
    refine z_iload_n h dL_law_18 rfl 3 rfl ?_
    refine z_aload_n h dL_law_19 rfl 0 rfl ?_
    refine z_slen h hq dL_law_20 ?_
    refine z_iconst h (v := (5 : Int32)) dL_law_21 ic_5 ?_
    refine z_isub h dL_law_22 ?_
    refine z_icmp_gt h (tgt := 949) dL_law_23 (by decide) (fun g1 => ?_) (fun g1 => ?_)
    · have hf := it_pos g1 hf
      refine z_iconst h (v := (1 : Int32)) dL_law_949 ic_1 ?_
      exact z_lawret h hq hf dL_law_950
    · have hf := it_neg g1 hf
      refine z_aload_n h dL_law_26 rfl 0 rfl ?_
      refine z_iload_n h dL_law_27 rfl 3 rfl ?_
      obtain ⟨g2, hf⟩ := ck_out hf
      refine z_sld h hq g2 dL_law_28 ?_
      refine z_bipush h (v := (31 : Int32)) dL_law_29 bp_31 ?_
      refine z_iand h dL_law_31 ?_
      refine z_topI (fun v3 ev3 => ?_)
      have hf := bd_to ev3 hf
      by_cases g4 : v3 = (0 : Int32)
      · have hf := it_pos g4 hf
        refine z_tin h (v := 0) (tgt := 140) dL_law_32 (by rw [g4]; rfl) (by decide) (by decide) rfl (by decide) ?_
        refine z_aload_n h dL_law_140 rfl 1 rfl ?_
        refine z_aload_n h dL_law_141 rfl 0 rfl ?_
        refine z_iload_n h dL_law_142 rfl 3 rfl ?_
        refine z_iconst h (v := (1 : Int32)) dL_law_143 ic_1 ?_
        refine z_iadd h dL_law_144 ?_
        obtain ⟨g5, hf⟩ := ck_out hf
        refine z_sld h hq g5 dL_law_145 ?_
        refine z_aload_n h dL_law_146 rfl 0 rfl ?_
        refine z_iload_n h dL_law_147 rfl 3 rfl ?_
        refine z_iconst h (v := (2 : Int32)) dL_law_148 ic_2 ?_
        refine z_iadd h dL_law_149 ?_
        obtain ⟨g6, hf⟩ := ck_out hf
        refine z_sld h hq g6 dL_law_150 ?_
        refine z_aload_n h dL_law_151 rfl 0 rfl ?_
        refine z_iload_n h dL_law_152 rfl 3 rfl ?_
        refine z_iconst h (v := (3 : Int32)) dL_law_153 ic_3 ?_
        refine z_iadd h dL_law_154 ?_
        obtain ⟨g7, hf⟩ := ck_out hf
        refine z_sld h hq g7 dL_law_155 ?_
        obtain ⟨v8, σ9, e9, hf⟩ := obd_out hf
        refine z_cVv h (n := 3) (c_X5_node l G e9) zC5 tg_0 ln_0 rfl rfl wd_129 wd_130 wd_131 wd_2 wd_132 (by decide +kernel) ⟨rfl, rfl⟩ rfl rfl rfl dL_law_156 ⟨Nat.le_of_ble_eq_true rfl, Nat.le_of_ble_eq_true rfl⟩ ?_
        refine z_aload_n h dL_law_159 rfl 2 rfl ?_
        refine z_aload_n h dL_law_160 rfl 0 rfl ?_
        refine z_iload_n h dL_law_161 rfl 3 rfl ?_
        refine z_iconst h (v := (1 : Int32)) dL_law_162 ic_1 ?_
        refine z_iadd h dL_law_163 ?_
        obtain ⟨g10, hf⟩ := ck_out hf
        refine z_sld h hq g10 dL_law_164 ?_
        refine z_aload_n h dL_law_165 rfl 0 rfl ?_
        refine z_iload_n h dL_law_166 rfl 3 rfl ?_
        refine z_iconst h (v := (2 : Int32)) dL_law_167 ic_2 ?_
        refine z_iadd h dL_law_168 ?_
        obtain ⟨g11, hf⟩ := ck_out hf
        refine z_sld h hq g11 dL_law_169 ?_
        refine z_aload_n h dL_law_170 rfl 0 rfl ?_
        refine z_iload_n h dL_law_171 rfl 3 rfl ?_
        refine z_iconst h (v := (3 : Int32)) dL_law_172 ic_3 ?_
        refine z_iadd h dL_law_173 ?_
        obtain ⟨g12, hf⟩ := ck_out hf
        refine z_sld h hq g12 dL_law_174 ?_
        obtain ⟨v13, σ14, e14, hf⟩ := obd_out hf
        refine z_cVv h (n := 3) (c_X6_node l G e14) zC6 tg_1067 ln_1067 rfl rfl wd_151 wd_152 wd_153 wd_5 wd_154 (by decide +kernel) ⟨rfl, rfl⟩ rfl rfl rfl dL_law_175 ⟨Nat.le_of_ble_eq_true rfl, Nat.le_of_ble_eq_true rfl⟩ ?_
        refine z_icmp_eq h (tgt := 943) dL_law_178 (by decide) (fun g15 => ?_) (fun g15 => ?_)
        · have hf := it_pos g15 hf
          exact z_sub [0, 1, 2, 3] rfl (k_L_law_b943 h hq N x3 (fun x3_ σ_ hf_ => ih x3_ σ_ hf_) _ hf)
        · have hf := it_neg g15 hf
          refine z_iconst h (v := (0 : Int32)) dL_law_181 ic_0 ?_
          exact z_lawret h hq hf dL_law_182
      have hf := it_neg g4 hf
      by_cases g17 : v3 = (1 : Int32)
      · have hf := it_pos g17 hf
        refine z_tin h (v := 1) (tgt := 183) dL_law_32 (by rw [g17]; rfl) (by decide) (by decide) rfl (by decide) ?_
        refine z_aload_n h dL_law_183 rfl 1 rfl ?_
        refine z_aload_n h dL_law_184 rfl 0 rfl ?_
        refine z_iload_n h dL_law_185 rfl 3 rfl ?_
        refine z_iconst h (v := (1 : Int32)) dL_law_186 ic_1 ?_
        refine z_iadd h dL_law_187 ?_
        obtain ⟨g18, hf⟩ := ck_out hf
        refine z_sld h hq g18 dL_law_188 ?_
        refine z_aload_n h dL_law_189 rfl 0 rfl ?_
        refine z_iload_n h dL_law_190 rfl 3 rfl ?_
        refine z_iconst h (v := (2 : Int32)) dL_law_191 ic_2 ?_
        refine z_iadd h dL_law_192 ?_
        obtain ⟨g19, hf⟩ := ck_out hf
        refine z_sld h hq g19 dL_law_193 ?_
        obtain ⟨v20, σ21, e21, hf⟩ := obd_out hf
        refine z_cVv h (n := 2) (c_X5_hold l G e21) zC5 tg_0 ln_0 rfl rfl wd_163 wd_164 wd_165 wd_2 wd_166 (by decide +kernel) ⟨rfl, rfl⟩ rfl rfl rfl dL_law_194 ⟨Nat.le_of_ble_eq_true rfl, Nat.le_of_ble_eq_true rfl⟩ ?_
        refine z_aload_n h dL_law_197 rfl 2 rfl ?_
        refine z_aload_n h dL_law_198 rfl 0 rfl ?_
        refine z_iload_n h dL_law_199 rfl 3 rfl ?_
        refine z_iconst h (v := (1 : Int32)) dL_law_200 ic_1 ?_
        refine z_iadd h dL_law_201 ?_
        obtain ⟨g22, hf⟩ := ck_out hf
        refine z_sld h hq g22 dL_law_202 ?_
        refine z_aload_n h dL_law_203 rfl 0 rfl ?_
        refine z_iload_n h dL_law_204 rfl 3 rfl ?_
        refine z_iconst h (v := (2 : Int32)) dL_law_205 ic_2 ?_
        refine z_iadd h dL_law_206 ?_
        obtain ⟨g23, hf⟩ := ck_out hf
        refine z_sld h hq g23 dL_law_207 ?_
        obtain ⟨v24, σ25, e25, hf⟩ := obd_out hf
        refine z_cVv h (n := 2) (c_X6_hold l G e25) zC6 tg_1067 ln_1067 rfl rfl wd_171 wd_172 wd_173 wd_5 wd_174 (by decide +kernel) ⟨rfl, rfl⟩ rfl rfl rfl dL_law_208 ⟨Nat.le_of_ble_eq_true rfl, Nat.le_of_ble_eq_true rfl⟩ ?_
        refine z_icmp_eq h (tgt := 943) dL_law_211 (by decide) (fun g26 => ?_) (fun g26 => ?_)
        · have hf := it_pos g26 hf
          exact z_sub [0, 1, 2, 3] rfl (k_L_law_b943 h hq N x3 (fun x3_ σ_ hf_ => ih x3_ σ_ hf_) _ hf)
        · have hf := it_neg g26 hf
          refine z_iconst h (v := (0 : Int32)) dL_law_214 ic_0 ?_
          exact z_lawret h hq hf dL_law_215
      have hf := it_neg g17 hf
      by_cases g27 : v3 = (2 : Int32)
      · have hf := it_pos g27 hf
        refine z_tin h (v := 2) (tgt := 216) dL_law_32 (by rw [g27]; rfl) (by decide) (by decide) rfl (by decide) ?_
        refine z_aload_n h dL_law_216 rfl 1 rfl ?_
        refine z_aload_n h dL_law_217 rfl 0 rfl ?_
        refine z_iload_n h dL_law_218 rfl 3 rfl ?_
        refine z_iconst h (v := (1 : Int32)) dL_law_219 ic_1 ?_
        refine z_iadd h dL_law_220 ?_
        obtain ⟨g28, hf⟩ := ck_out hf
        refine z_sld h hq g28 dL_law_221 ?_
        refine z_aload_n h dL_law_222 rfl 0 rfl ?_
        refine z_iload_n h dL_law_223 rfl 3 rfl ?_
        refine z_iconst h (v := (2 : Int32)) dL_law_224 ic_2 ?_
        refine z_iadd h dL_law_225 ?_
        obtain ⟨g29, hf⟩ := ck_out hf
        refine z_sld h hq g29 dL_law_226 ?_
        refine z_aload_n h dL_law_227 rfl 0 rfl ?_
        refine z_iload_n h dL_law_228 rfl 3 rfl ?_
        refine z_iconst h (v := (3 : Int32)) dL_law_229 ic_3 ?_
        refine z_iadd h dL_law_230 ?_
        obtain ⟨g30, hf⟩ := ck_out hf
        refine z_sld h hq g30 dL_law_231 ?_
        obtain ⟨v31, σ32, e32, hf⟩ := obd_out hf
        refine z_cVv h (n := 3) (c_X5_bar l G e32) zC5 tg_0 ln_0 rfl rfl wd_179 wd_180 wd_181 wd_2 wd_182 (by decide +kernel) ⟨rfl, rfl⟩ rfl rfl rfl dL_law_232 ⟨Nat.le_of_ble_eq_true rfl, Nat.le_of_ble_eq_true rfl⟩ ?_
        refine z_aload_n h dL_law_235 rfl 2 rfl ?_
        refine z_aload_n h dL_law_236 rfl 0 rfl ?_
        refine z_iload_n h dL_law_237 rfl 3 rfl ?_
        refine z_iconst h (v := (1 : Int32)) dL_law_238 ic_1 ?_
        refine z_iadd h dL_law_239 ?_
        obtain ⟨g33, hf⟩ := ck_out hf
        refine z_sld h hq g33 dL_law_240 ?_
        refine z_aload_n h dL_law_241 rfl 0 rfl ?_
        refine z_iload_n h dL_law_242 rfl 3 rfl ?_
        refine z_iconst h (v := (2 : Int32)) dL_law_243 ic_2 ?_
        refine z_iadd h dL_law_244 ?_
        obtain ⟨g34, hf⟩ := ck_out hf
        refine z_sld h hq g34 dL_law_245 ?_
        refine z_aload_n h dL_law_246 rfl 0 rfl ?_
        refine z_iload_n h dL_law_247 rfl 3 rfl ?_
        refine z_iconst h (v := (3 : Int32)) dL_law_248 ic_3 ?_
        refine z_iadd h dL_law_249 ?_
        obtain ⟨g35, hf⟩ := ck_out hf
        refine z_sld h hq g35 dL_law_250 ?_
        obtain ⟨v36, σ37, e37, hf⟩ := obd_out hf
        refine z_cVv h (n := 3) (c_X6_bar l G e37) zC6 tg_1067 ln_1067 rfl rfl wd_196 wd_197 wd_198 wd_5 wd_199 (by decide +kernel) ⟨rfl, rfl⟩ rfl rfl rfl dL_law_251 ⟨Nat.le_of_ble_eq_true rfl, Nat.le_of_ble_eq_true rfl⟩ ?_
        refine z_icmp_eq h (tgt := 943) dL_law_254 (by decide) (fun g38 => ?_) (fun g38 => ?_)
        · have hf := it_pos g38 hf
          exact z_sub [0, 1, 2, 3] rfl (k_L_law_b943 h hq N x3 (fun x3_ σ_ hf_ => ih x3_ σ_ hf_) _ hf)
        · have hf := it_neg g38 hf
          refine z_iconst h (v := (0 : Int32)) dL_law_257 ic_0 ?_
          exact z_lawret h hq hf dL_law_258
      have hf := it_neg g27 hf
      by_cases g39 : v3 = (3 : Int32)
      · have hf := it_pos g39 hf
        refine z_tin h (v := 3) (tgt := 259) dL_law_32 (by rw [g39]; rfl) (by decide) (by decide) rfl (by decide) ?_
        refine z_aload_n h dL_law_259 rfl 1 rfl ?_
        refine z_aload_n h dL_law_260 rfl 0 rfl ?_
        refine z_iload_n h dL_law_261 rfl 3 rfl ?_
        refine z_iconst h (v := (1 : Int32)) dL_law_262 ic_1 ?_
        refine z_iadd h dL_law_263 ?_
        obtain ⟨g40, hf⟩ := ck_out hf
        refine z_sld h hq g40 dL_law_264 ?_
        obtain ⟨v41, σ42, e42, hf⟩ := obd_out hf
        refine z_cVv h (n := 1) (c_X5_lift l G e42) zC5 tg_0 ln_0 rfl rfl wd_201 wd_202 wd_203 wd_2 wd_204 (by decide +kernel) ⟨rfl, rfl⟩ rfl rfl rfl dL_law_265 ⟨Nat.le_of_ble_eq_true rfl, Nat.le_of_ble_eq_true rfl⟩ ?_
        refine z_aload_n h dL_law_268 rfl 2 rfl ?_
        refine z_aload_n h dL_law_269 rfl 0 rfl ?_
        refine z_iload_n h dL_law_270 rfl 3 rfl ?_
        refine z_iconst h (v := (1 : Int32)) dL_law_271 ic_1 ?_
        refine z_iadd h dL_law_272 ?_
        obtain ⟨g43, hf⟩ := ck_out hf
        refine z_sld h hq g43 dL_law_273 ?_
        obtain ⟨v44, σ45, e45, hf⟩ := obd_out hf
        refine z_cVv h (n := 1) (c_X6_lift l G e45) zC6 tg_1067 ln_1067 rfl rfl wd_213 wd_214 wd_215 wd_5 wd_216 (by decide +kernel) ⟨rfl, rfl⟩ rfl rfl rfl dL_law_274 ⟨Nat.le_of_ble_eq_true rfl, Nat.le_of_ble_eq_true rfl⟩ ?_
        refine z_icmp_eq h (tgt := 943) dL_law_277 (by decide) (fun g46 => ?_) (fun g46 => ?_)
        · have hf := it_pos g46 hf
          exact z_sub [0, 1, 2, 3] rfl (k_L_law_b943 h hq N x3 (fun x3_ σ_ hf_ => ih x3_ σ_ hf_) _ hf)
        · have hf := it_neg g46 hf
          refine z_iconst h (v := (0 : Int32)) dL_law_280 ic_0 ?_
          exact z_lawret h hq hf dL_law_281
      have hf := it_neg g39 hf
      by_cases g47 : v3 = (4 : Int32)
      · have hf := it_pos g47 hf
        refine z_tin h (v := 4) (tgt := 282) dL_law_32 (by rw [g47]; rfl) (by decide) (by decide) rfl (by decide) ?_
        refine z_aload_n h dL_law_282 rfl 1 rfl ?_
        refine z_aload_n h dL_law_283 rfl 0 rfl ?_
        refine z_iload_n h dL_law_284 rfl 3 rfl ?_
        refine z_iconst h (v := (1 : Int32)) dL_law_285 ic_1 ?_
        refine z_iadd h dL_law_286 ?_
        obtain ⟨g48, hf⟩ := ck_out hf
        refine z_sld h hq g48 dL_law_287 ?_
        refine z_aload_n h dL_law_288 rfl 0 rfl ?_
        refine z_iload_n h dL_law_289 rfl 3 rfl ?_
        refine z_iconst h (v := (2 : Int32)) dL_law_290 ic_2 ?_
        refine z_iadd h dL_law_291 ?_
        obtain ⟨g49, hf⟩ := ck_out hf
        refine z_sld h hq g49 dL_law_292 ?_
        obtain ⟨v50, σ51, e51, hf⟩ := obd_out hf
        refine z_cVv h (n := 2) (c_X5_strengthen l G e51) zC5 tg_0 ln_0 rfl rfl wd_221 wd_222 wd_223 wd_2 wd_224 (by decide +kernel) ⟨rfl, rfl⟩ rfl rfl rfl dL_law_293 ⟨Nat.le_of_ble_eq_true rfl, Nat.le_of_ble_eq_true rfl⟩ ?_
        refine z_aload_n h dL_law_296 rfl 2 rfl ?_
        refine z_aload_n h dL_law_297 rfl 0 rfl ?_
        refine z_iload_n h dL_law_298 rfl 3 rfl ?_
        refine z_iconst h (v := (1 : Int32)) dL_law_299 ic_1 ?_
        refine z_iadd h dL_law_300 ?_
        obtain ⟨g52, hf⟩ := ck_out hf
        refine z_sld h hq g52 dL_law_301 ?_
        refine z_aload_n h dL_law_302 rfl 0 rfl ?_
        refine z_iload_n h dL_law_303 rfl 3 rfl ?_
        refine z_iconst h (v := (2 : Int32)) dL_law_304 ic_2 ?_
        refine z_iadd h dL_law_305 ?_
        obtain ⟨g53, hf⟩ := ck_out hf
        refine z_sld h hq g53 dL_law_306 ?_
        obtain ⟨v54, σ55, e55, hf⟩ := obd_out hf
        refine z_cVv h (n := 2) (c_X6_strengthen l G e55) zC6 tg_1067 ln_1067 rfl rfl wd_225 wd_226 wd_227 wd_5 wd_228 (by decide +kernel) ⟨rfl, rfl⟩ rfl rfl rfl dL_law_307 ⟨Nat.le_of_ble_eq_true rfl, Nat.le_of_ble_eq_true rfl⟩ ?_
        refine z_icmp_eq h (tgt := 943) dL_law_310 (by decide) (fun g56 => ?_) (fun g56 => ?_)
        · have hf := it_pos g56 hf
          exact z_sub [0, 1, 2, 3] rfl (k_L_law_b943 h hq N x3 (fun x3_ σ_ hf_ => ih x3_ σ_ hf_) _ hf)
        · have hf := it_neg g56 hf
          refine z_iconst h (v := (0 : Int32)) dL_law_313 ic_0 ?_
          exact z_lawret h hq hf dL_law_314
      have hf := it_neg g47 hf
      by_cases g57 : v3 = (5 : Int32)
      · have hf := it_pos g57 hf
        refine z_tin h (v := 5) (tgt := 315) dL_law_32 (by rw [g57]; rfl) (by decide) (by decide) rfl (by decide) ?_
        refine z_aload_n h dL_law_315 rfl 1 rfl ?_
        refine z_aload_n h dL_law_316 rfl 0 rfl ?_
        refine z_iload_n h dL_law_317 rfl 3 rfl ?_
        refine z_iconst h (v := (1 : Int32)) dL_law_318 ic_1 ?_
        refine z_iadd h dL_law_319 ?_
        obtain ⟨g58, hf⟩ := ck_out hf
        refine z_sld h hq g58 dL_law_320 ?_
        refine z_aload_n h dL_law_321 rfl 0 rfl ?_
        refine z_iload_n h dL_law_322 rfl 3 rfl ?_
        refine z_iconst h (v := (2 : Int32)) dL_law_323 ic_2 ?_
        refine z_iadd h dL_law_324 ?_
        obtain ⟨g59, hf⟩ := ck_out hf
        refine z_sld h hq g59 dL_law_325 ?_
        refine z_aload_n h dL_law_326 rfl 0 rfl ?_
        refine z_iload_n h dL_law_327 rfl 3 rfl ?_
        refine z_iconst h (v := (3 : Int32)) dL_law_328 ic_3 ?_
        refine z_iadd h dL_law_329 ?_
        obtain ⟨g60, hf⟩ := ck_out hf
        refine z_sld h hq g60 dL_law_330 ?_
        refine z_aload_n h dL_law_331 rfl 0 rfl ?_
        refine z_iload_n h dL_law_332 rfl 3 rfl ?_
        refine z_iconst h (v := (4 : Int32)) dL_law_333 ic_4 ?_
        refine z_iadd h dL_law_334 ?_
        obtain ⟨g61, hf⟩ := ck_out hf
        refine z_sld h hq g61 dL_law_335 ?_
        obtain ⟨v62, σ63, e63, hf⟩ := obd_out hf
        refine z_cVv h (n := 4) (c_X5_load l G e63) zC5 tg_0 ln_0 rfl rfl wd_229 wd_230 wd_231 wd_2 wd_232 (by decide +kernel) ⟨rfl, rfl⟩ rfl rfl rfl dL_law_336 ⟨Nat.le_of_ble_eq_true rfl, Nat.le_of_ble_eq_true rfl⟩ ?_
        refine z_aload_n h dL_law_339 rfl 2 rfl ?_
        refine z_aload_n h dL_law_340 rfl 0 rfl ?_
        refine z_iload_n h dL_law_341 rfl 3 rfl ?_
        refine z_iconst h (v := (1 : Int32)) dL_law_342 ic_1 ?_
        refine z_iadd h dL_law_343 ?_
        obtain ⟨g64, hf⟩ := ck_out hf
        refine z_sld h hq g64 dL_law_344 ?_
        refine z_aload_n h dL_law_345 rfl 0 rfl ?_
        refine z_iload_n h dL_law_346 rfl 3 rfl ?_
        refine z_iconst h (v := (2 : Int32)) dL_law_347 ic_2 ?_
        refine z_iadd h dL_law_348 ?_
        obtain ⟨g65, hf⟩ := ck_out hf
        refine z_sld h hq g65 dL_law_349 ?_
        refine z_aload_n h dL_law_350 rfl 0 rfl ?_
        refine z_iload_n h dL_law_351 rfl 3 rfl ?_
        refine z_iconst h (v := (3 : Int32)) dL_law_352 ic_3 ?_
        refine z_iadd h dL_law_353 ?_
        obtain ⟨g66, hf⟩ := ck_out hf
        refine z_sld h hq g66 dL_law_354 ?_
        refine z_aload_n h dL_law_355 rfl 0 rfl ?_
        refine z_iload_n h dL_law_356 rfl 3 rfl ?_
        refine z_iconst h (v := (4 : Int32)) dL_law_357 ic_4 ?_
        refine z_iadd h dL_law_358 ?_
        obtain ⟨g67, hf⟩ := ck_out hf
        refine z_sld h hq g67 dL_law_359 ?_
        obtain ⟨v68, σ69, e69, hf⟩ := obd_out hf
        refine z_cVv h (n := 4) (c_X6_load l G e69) zC6 tg_1067 ln_1067 rfl rfl wd_237 wd_238 wd_239 wd_5 wd_240 (by decide +kernel) ⟨rfl, rfl⟩ rfl rfl rfl dL_law_360 ⟨Nat.le_of_ble_eq_true rfl, Nat.le_of_ble_eq_true rfl⟩ ?_
        refine z_icmp_eq h (tgt := 943) dL_law_363 (by decide) (fun g70 => ?_) (fun g70 => ?_)
        · have hf := it_pos g70 hf
          exact z_sub [0, 1, 2, 3] rfl (k_L_law_b943 h hq N x3 (fun x3_ σ_ hf_ => ih x3_ σ_ hf_) _ hf)
        · have hf := it_neg g70 hf
          refine z_iconst h (v := (0 : Int32)) dL_law_366 ic_0 ?_
          exact z_lawret h hq hf dL_law_367
      have hf := it_neg g57 hf
      by_cases g71 : v3 = (6 : Int32)
      · have hf := it_pos g71 hf
        refine z_tin h (v := 6) (tgt := 368) dL_law_32 (by rw [g71]; rfl) (by decide) (by decide) rfl (by decide) ?_
        refine z_aload_n h dL_law_368 rfl 1 rfl ?_
        refine z_aload_n h dL_law_369 rfl 0 rfl ?_
        refine z_iload_n h dL_law_370 rfl 3 rfl ?_
        refine z_iconst h (v := (1 : Int32)) dL_law_371 ic_1 ?_
        refine z_iadd h dL_law_372 ?_
        obtain ⟨g72, hf⟩ := ck_out hf
        refine z_sld h hq g72 dL_law_373 ?_
        refine z_aload_n h dL_law_374 rfl 0 rfl ?_
        refine z_iload_n h dL_law_375 rfl 3 rfl ?_
        refine z_iconst h (v := (2 : Int32)) dL_law_376 ic_2 ?_
        refine z_iadd h dL_law_377 ?_
        obtain ⟨g73, hf⟩ := ck_out hf
        refine z_sld h hq g73 dL_law_378 ?_
        obtain ⟨v74, σ75, e75, hf⟩ := obd_out hf
        refine z_cVv h (n := 2) (c_X5_ofNode l G e75) zC5 tg_0 ln_0 rfl rfl wd_241 wd_242 wd_243 wd_2 wd_244 (by decide +kernel) ⟨rfl, rfl⟩ rfl rfl rfl dL_law_379 ⟨Nat.le_of_ble_eq_true rfl, Nat.le_of_ble_eq_true rfl⟩ ?_
        refine z_aload_n h dL_law_382 rfl 2 rfl ?_
        refine z_aload_n h dL_law_383 rfl 0 rfl ?_
        refine z_iload_n h dL_law_384 rfl 3 rfl ?_
        refine z_iconst h (v := (1 : Int32)) dL_law_385 ic_1 ?_
        refine z_iadd h dL_law_386 ?_
        obtain ⟨g76, hf⟩ := ck_out hf
        refine z_sld h hq g76 dL_law_387 ?_
        refine z_aload_n h dL_law_388 rfl 0 rfl ?_
        refine z_iload_n h dL_law_389 rfl 3 rfl ?_
        refine z_iconst h (v := (2 : Int32)) dL_law_390 ic_2 ?_
        refine z_iadd h dL_law_391 ?_
        obtain ⟨g77, hf⟩ := ck_out hf
        refine z_sld h hq g77 dL_law_392 ?_
        obtain ⟨v78, σ79, e79, hf⟩ := obd_out hf
        refine z_cVv h (n := 2) (c_X6_ofNode l G e79) zC6 tg_1067 ln_1067 rfl rfl wd_245 wd_246 wd_247 wd_5 wd_248 (by decide +kernel) ⟨rfl, rfl⟩ rfl rfl rfl dL_law_393 ⟨Nat.le_of_ble_eq_true rfl, Nat.le_of_ble_eq_true rfl⟩ ?_
        refine z_icmp_eq h (tgt := 943) dL_law_396 (by decide) (fun g80 => ?_) (fun g80 => ?_)
        · have hf := it_pos g80 hf
          exact z_sub [0, 1, 2, 3] rfl (k_L_law_b943 h hq N x3 (fun x3_ σ_ hf_ => ih x3_ σ_ hf_) _ hf)
        · have hf := it_neg g80 hf
          refine z_iconst h (v := (0 : Int32)) dL_law_399 ic_0 ?_
          exact z_lawret h hq hf dL_law_400
      have hf := it_neg g71 hf
      by_cases g81 : v3 = (7 : Int32)
      · have hf := it_pos g81 hf
        refine z_tin h (v := 7) (tgt := 401) dL_law_32 (by rw [g81]; rfl) (by decide) (by decide) rfl (by decide) ?_
        refine z_aload_n h dL_law_401 rfl 1 rfl ?_
        refine z_aload_n h dL_law_402 rfl 0 rfl ?_
        refine z_iload_n h dL_law_403 rfl 3 rfl ?_
        refine z_iconst h (v := (1 : Int32)) dL_law_404 ic_1 ?_
        refine z_iadd h dL_law_405 ?_
        obtain ⟨g82, hf⟩ := ck_out hf
        refine z_sld h hq g82 dL_law_406 ?_
        refine z_aload_n h dL_law_407 rfl 0 rfl ?_
        refine z_iload_n h dL_law_408 rfl 3 rfl ?_
        refine z_iconst h (v := (2 : Int32)) dL_law_409 ic_2 ?_
        refine z_iadd h dL_law_410 ?_
        obtain ⟨g83, hf⟩ := ck_out hf
        refine z_sld h hq g83 dL_law_411 ?_
        obtain ⟨v84, σ85, e85, hf⟩ := obd_out hf
        refine z_cVv h (n := 2) (c_X5_ofBar l G e85) zC5 tg_0 ln_0 rfl rfl wd_249 wd_250 wd_251 wd_2 wd_252 (by decide +kernel) ⟨rfl, rfl⟩ rfl rfl rfl dL_law_412 ⟨Nat.le_of_ble_eq_true rfl, Nat.le_of_ble_eq_true rfl⟩ ?_
        refine z_aload_n h dL_law_415 rfl 2 rfl ?_
        refine z_aload_n h dL_law_416 rfl 0 rfl ?_
        refine z_iload_n h dL_law_417 rfl 3 rfl ?_
        refine z_iconst h (v := (1 : Int32)) dL_law_418 ic_1 ?_
        refine z_iadd h dL_law_419 ?_
        obtain ⟨g86, hf⟩ := ck_out hf
        refine z_sld h hq g86 dL_law_420 ?_
        refine z_aload_n h dL_law_421 rfl 0 rfl ?_
        refine z_iload_n h dL_law_422 rfl 3 rfl ?_
        refine z_iconst h (v := (2 : Int32)) dL_law_423 ic_2 ?_
        refine z_iadd h dL_law_424 ?_
        obtain ⟨g87, hf⟩ := ck_out hf
        refine z_sld h hq g87 dL_law_425 ?_
        obtain ⟨v88, σ89, e89, hf⟩ := obd_out hf
        refine z_cVv h (n := 2) (c_X6_ofBar l G e89) zC6 tg_1067 ln_1067 rfl rfl wd_261 wd_262 wd_263 wd_5 wd_264 (by decide +kernel) ⟨rfl, rfl⟩ rfl rfl rfl dL_law_426 ⟨Nat.le_of_ble_eq_true rfl, Nat.le_of_ble_eq_true rfl⟩ ?_
        refine z_icmp_eq h (tgt := 943) dL_law_429 (by decide) (fun g90 => ?_) (fun g90 => ?_)
        · have hf := it_pos g90 hf
          exact z_sub [0, 1, 2, 3] rfl (k_L_law_b943 h hq N x3 (fun x3_ σ_ hf_ => ih x3_ σ_ hf_) _ hf)
        · have hf := it_neg g90 hf
          refine z_iconst h (v := (0 : Int32)) dL_law_432 ic_0 ?_
          exact z_lawret h hq hf dL_law_433
      have hf := it_neg g81 hf
      by_cases g91 : v3 = (8 : Int32)
      · have hf := it_pos g91 hf
        refine z_tin h (v := 8) (tgt := 434) dL_law_32 (by rw [g91]; rfl) (by decide) (by decide) rfl (by decide) ?_
        refine z_aload_n h dL_law_434 rfl 1 rfl ?_
        refine z_aload_n h dL_law_435 rfl 0 rfl ?_
        refine z_iload_n h dL_law_436 rfl 3 rfl ?_
        refine z_iconst h (v := (1 : Int32)) dL_law_437 ic_1 ?_
        refine z_iadd h dL_law_438 ?_
        obtain ⟨g92, hf⟩ := ck_out hf
        refine z_sld h hq g92 dL_law_439 ?_
        obtain ⟨v93, σ94, e94, hf⟩ := obd_out hf
        refine z_cVv h (n := 1) (c_X5_count l G e94) zC5 tg_0 ln_0 rfl rfl wd_273 wd_274 wd_275 wd_2 wd_276 (by decide +kernel) ⟨rfl, rfl⟩ rfl rfl rfl dL_law_440 ⟨Nat.le_of_ble_eq_true rfl, Nat.le_of_ble_eq_true rfl⟩ ?_
        refine z_aload_n h dL_law_443 rfl 2 rfl ?_
        refine z_aload_n h dL_law_444 rfl 0 rfl ?_
        refine z_iload_n h dL_law_445 rfl 3 rfl ?_
        refine z_iconst h (v := (1 : Int32)) dL_law_446 ic_1 ?_
        refine z_iadd h dL_law_447 ?_
        obtain ⟨g95, hf⟩ := ck_out hf
        refine z_sld h hq g95 dL_law_448 ?_
        obtain ⟨v96, σ97, e97, hf⟩ := obd_out hf
        refine z_cVv h (n := 1) (c_X6_count l G e97) zC6 tg_1067 ln_1067 rfl rfl wd_420 wd_421 wd_422 wd_5 wd_423 (by decide +kernel) ⟨rfl, rfl⟩ rfl rfl rfl dL_law_449 ⟨Nat.le_of_ble_eq_true rfl, Nat.le_of_ble_eq_true rfl⟩ ?_
        refine z_icmp_eq h (tgt := 943) dL_law_452 (by decide) (fun g98 => ?_) (fun g98 => ?_)
        · have hf := it_pos g98 hf
          exact z_sub [0, 1, 2, 3] rfl (k_L_law_b943 h hq N x3 (fun x3_ σ_ hf_ => ih x3_ σ_ hf_) _ hf)
        · have hf := it_neg g98 hf
          refine z_iconst h (v := (0 : Int32)) dL_law_455 ic_0 ?_
          exact z_lawret h hq hf dL_law_456
      have hf := it_neg g91 hf
      by_cases g99 : v3 = (9 : Int32)
      · have hf := it_pos g99 hf
        refine z_tin h (v := 9) (tgt := 457) dL_law_32 (by rw [g99]; rfl) (by decide) (by decide) rfl (by decide) ?_
        refine z_aload_n h dL_law_457 rfl 1 rfl ?_
        refine z_aload_n h dL_law_458 rfl 0 rfl ?_
        refine z_iload_n h dL_law_459 rfl 3 rfl ?_
        refine z_iconst h (v := (1 : Int32)) dL_law_460 ic_1 ?_
        refine z_iadd h dL_law_461 ?_
        obtain ⟨g100, hf⟩ := ck_out hf
        refine z_sld h hq g100 dL_law_462 ?_
        obtain ⟨v101, σ102, e102, hf⟩ := obd_out hf
        refine z_cVv h (n := 1) (c_X5_mechanism l G e102) zC5 tg_0 ln_0 rfl rfl wd_486 wd_487 wd_488 wd_2 wd_489 (by decide +kernel) ⟨rfl, rfl⟩ rfl rfl rfl dL_law_463 ⟨Nat.le_of_ble_eq_true rfl, Nat.le_of_ble_eq_true rfl⟩ ?_
        refine z_aload_n h dL_law_466 rfl 2 rfl ?_
        refine z_aload_n h dL_law_467 rfl 0 rfl ?_
        refine z_iload_n h dL_law_468 rfl 3 rfl ?_
        refine z_iconst h (v := (1 : Int32)) dL_law_469 ic_1 ?_
        refine z_iadd h dL_law_470 ?_
        obtain ⟨g103, hf⟩ := ck_out hf
        refine z_sld h hq g103 dL_law_471 ?_
        obtain ⟨v104, σ105, e105, hf⟩ := obd_out hf
        refine z_cVv h (n := 1) (c_X6_mechanism l G e105) zC6 tg_1067 ln_1067 rfl rfl wd_494 wd_495 wd_496 wd_5 wd_497 (by decide +kernel) ⟨rfl, rfl⟩ rfl rfl rfl dL_law_472 ⟨Nat.le_of_ble_eq_true rfl, Nat.le_of_ble_eq_true rfl⟩ ?_
        refine z_icmp_eq h (tgt := 943) dL_law_475 (by decide) (fun g106 => ?_) (fun g106 => ?_)
        · have hf := it_pos g106 hf
          exact z_sub [0, 1, 2, 3] rfl (k_L_law_b943 h hq N x3 (fun x3_ σ_ hf_ => ih x3_ σ_ hf_) _ hf)
        · have hf := it_neg g106 hf
          refine z_iconst h (v := (0 : Int32)) dL_law_478 ic_0 ?_
          exact z_lawret h hq hf dL_law_479
      have hf := it_neg g99 hf
      by_cases g107 : v3 = (10 : Int32)
      · have hf := it_pos g107 hf
        refine z_tin h (v := 10) (tgt := 480) dL_law_32 (by rw [g107]; rfl) (by decide) (by decide) rfl (by decide) ?_
        refine z_aload_n h dL_law_480 rfl 1 rfl ?_
        refine z_aload_n h dL_law_481 rfl 0 rfl ?_
        refine z_iload_n h dL_law_482 rfl 3 rfl ?_
        refine z_iconst h (v := (1 : Int32)) dL_law_483 ic_1 ?_
        refine z_iadd h dL_law_484 ?_
        obtain ⟨g108, hf⟩ := ck_out hf
        refine z_sld h hq g108 dL_law_485 ?_
        refine z_aload_n h dL_law_486 rfl 0 rfl ?_
        refine z_iload_n h dL_law_487 rfl 3 rfl ?_
        refine z_iconst h (v := (2 : Int32)) dL_law_488 ic_2 ?_
        refine z_iadd h dL_law_489 ?_
        obtain ⟨g109, hf⟩ := ck_out hf
        refine z_sld h hq g109 dL_law_490 ?_
        refine z_aload_n h dL_law_491 rfl 0 rfl ?_
        refine z_iload_n h dL_law_492 rfl 3 rfl ?_
        refine z_iconst h (v := (3 : Int32)) dL_law_493 ic_3 ?_
        refine z_iadd h dL_law_494 ?_
        obtain ⟨g110, hf⟩ := ck_out hf
        refine z_sld h hq g110 dL_law_495 ?_
        obtain ⟨v111, σ112, e112, hf⟩ := obd_out hf
        refine z_cVv h (n := 3) (c_X5_twist l G e112) zC5 tg_0 ln_0 rfl rfl wd_498 wd_499 wd_500 wd_2 wd_501 (by decide +kernel) ⟨rfl, rfl⟩ rfl rfl rfl dL_law_496 ⟨Nat.le_of_ble_eq_true rfl, Nat.le_of_ble_eq_true rfl⟩ ?_
        refine z_aload_n h dL_law_499 rfl 2 rfl ?_
        refine z_aload_n h dL_law_500 rfl 0 rfl ?_
        refine z_iload_n h dL_law_501 rfl 3 rfl ?_
        refine z_iconst h (v := (1 : Int32)) dL_law_502 ic_1 ?_
        refine z_iadd h dL_law_503 ?_
        obtain ⟨g113, hf⟩ := ck_out hf
        refine z_sld h hq g113 dL_law_504 ?_
        refine z_aload_n h dL_law_505 rfl 0 rfl ?_
        refine z_iload_n h dL_law_506 rfl 3 rfl ?_
        refine z_iconst h (v := (2 : Int32)) dL_law_507 ic_2 ?_
        refine z_iadd h dL_law_508 ?_
        obtain ⟨g114, hf⟩ := ck_out hf
        refine z_sld h hq g114 dL_law_509 ?_
        refine z_aload_n h dL_law_510 rfl 0 rfl ?_
        refine z_iload_n h dL_law_511 rfl 3 rfl ?_
        refine z_iconst h (v := (3 : Int32)) dL_law_512 ic_3 ?_
        refine z_iadd h dL_law_513 ?_
        obtain ⟨g115, hf⟩ := ck_out hf
        refine z_sld h hq g115 dL_law_514 ?_
        obtain ⟨v116, σ117, e117, hf⟩ := obd_out hf
        refine z_cVv h (n := 3) (c_X6_twist l G e117) zC6 tg_1067 ln_1067 rfl rfl wd_530 wd_531 wd_532 wd_5 wd_533 (by decide +kernel) ⟨rfl, rfl⟩ rfl rfl rfl dL_law_515 ⟨Nat.le_of_ble_eq_true rfl, Nat.le_of_ble_eq_true rfl⟩ ?_
        refine z_lif_eq h (tgt := 943) dL_law_518 dL_law_519 (by decide) (fun g118 => ?_) (fun g118 => ?_)
        · have hf := it_pos g118 hf
          exact z_sub [0, 1, 2, 3] rfl (k_L_law_b943 h hq N x3 (fun x3_ σ_ hf_ => ih x3_ σ_ hf_) _ hf)
        · have hf := it_neg g118 hf
          refine z_iconst h (v := (0 : Int32)) dL_law_522 ic_0 ?_
          exact z_lawret h hq hf dL_law_523
      have hf := it_neg g107 hf
      by_cases g119 : v3 = (11 : Int32)
      · have hf := it_pos g119 hf
        refine z_tin h (v := 11) (tgt := 524) dL_law_32 (by rw [g119]; rfl) (by decide) (by decide) rfl (by decide) ?_
        refine z_aload_n h dL_law_524 rfl 1 rfl ?_
        refine z_aload_n h dL_law_525 rfl 0 rfl ?_
        refine z_iload_n h dL_law_526 rfl 3 rfl ?_
        refine z_iconst h (v := (1 : Int32)) dL_law_527 ic_1 ?_
        refine z_iadd h dL_law_528 ?_
        obtain ⟨g120, hf⟩ := ck_out hf
        refine z_sld h hq g120 dL_law_529 ?_
        refine z_aload_n h dL_law_530 rfl 0 rfl ?_
        refine z_iload_n h dL_law_531 rfl 3 rfl ?_
        refine z_iconst h (v := (2 : Int32)) dL_law_532 ic_2 ?_
        refine z_iadd h dL_law_533 ?_
        obtain ⟨g121, hf⟩ := ck_out hf
        refine z_sld h hq g121 dL_law_534 ?_
        refine z_aload_n h dL_law_535 rfl 0 rfl ?_
        refine z_iload_n h dL_law_536 rfl 3 rfl ?_
        refine z_iconst h (v := (3 : Int32)) dL_law_537 ic_3 ?_
        refine z_iadd h dL_law_538 ?_
        obtain ⟨g122, hf⟩ := ck_out hf
        refine z_sld h hq g122 dL_law_539 ?_
        obtain ⟨v123, σ124, e124, hf⟩ := obd_out hf
        refine z_cVv h (n := 3) (c_X5_bound l G e124) zC5 tg_0 ln_0 rfl rfl wd_554 wd_555 wd_556 wd_2 wd_557 (by decide +kernel) ⟨rfl, rfl⟩ rfl rfl rfl dL_law_540 ⟨Nat.le_of_ble_eq_true rfl, Nat.le_of_ble_eq_true rfl⟩ ?_
        refine z_aload_n h dL_law_543 rfl 2 rfl ?_
        refine z_aload_n h dL_law_544 rfl 0 rfl ?_
        refine z_iload_n h dL_law_545 rfl 3 rfl ?_
        refine z_iconst h (v := (1 : Int32)) dL_law_546 ic_1 ?_
        refine z_iadd h dL_law_547 ?_
        obtain ⟨g125, hf⟩ := ck_out hf
        refine z_sld h hq g125 dL_law_548 ?_
        refine z_aload_n h dL_law_549 rfl 0 rfl ?_
        refine z_iload_n h dL_law_550 rfl 3 rfl ?_
        refine z_iconst h (v := (2 : Int32)) dL_law_551 ic_2 ?_
        refine z_iadd h dL_law_552 ?_
        obtain ⟨g126, hf⟩ := ck_out hf
        refine z_sld h hq g126 dL_law_553 ?_
        refine z_aload_n h dL_law_554 rfl 0 rfl ?_
        refine z_iload_n h dL_law_555 rfl 3 rfl ?_
        refine z_iconst h (v := (3 : Int32)) dL_law_556 ic_3 ?_
        refine z_iadd h dL_law_557 ?_
        obtain ⟨g127, hf⟩ := ck_out hf
        refine z_sld h hq g127 dL_law_558 ?_
        obtain ⟨v128, σ129, e129, hf⟩ := obd_out hf
        refine z_cVv h (n := 3) (c_X6_bound l G e129) zC6 tg_1067 ln_1067 rfl rfl wd_577 wd_578 wd_579 wd_5 wd_580 (by decide +kernel) ⟨rfl, rfl⟩ rfl rfl rfl dL_law_559 ⟨Nat.le_of_ble_eq_true rfl, Nat.le_of_ble_eq_true rfl⟩ ?_
        refine z_lif_eq h (tgt := 943) dL_law_562 dL_law_563 (by decide) (fun g130 => ?_) (fun g130 => ?_)
        · have hf := it_pos g130 hf
          exact z_sub [0, 1, 2, 3] rfl (k_L_law_b943 h hq N x3 (fun x3_ σ_ hf_ => ih x3_ σ_ hf_) _ hf)
        · have hf := it_neg g130 hf
          refine z_iconst h (v := (0 : Int32)) dL_law_566 ic_0 ?_
          exact z_lawret h hq hf dL_law_567
      have hf := it_neg g119 hf
      by_cases g131 : v3 = (12 : Int32)
      · have hf := it_pos g131 hf
        refine z_tin h (v := 12) (tgt := 568) dL_law_32 (by rw [g131]; rfl) (by decide) (by decide) rfl (by decide) ?_
        refine z_aload_n h dL_law_568 rfl 1 rfl ?_
        refine z_aload_n h dL_law_569 rfl 0 rfl ?_
        refine z_iload_n h dL_law_570 rfl 3 rfl ?_
        refine z_iconst h (v := (1 : Int32)) dL_law_571 ic_1 ?_
        refine z_iadd h dL_law_572 ?_
        obtain ⟨g132, hf⟩ := ck_out hf
        refine z_sld h hq g132 dL_law_573 ?_
        obtain ⟨v133, σ134, e134, hf⟩ := obd_out hf
        refine z_cVv h (n := 1) (c_X5_limits l G e134) zC5 tg_0 ln_0 rfl rfl wd_585 wd_586 wd_587 wd_2 wd_588 (by decide +kernel) ⟨rfl, rfl⟩ rfl rfl rfl dL_law_574 ⟨Nat.le_of_ble_eq_true rfl, Nat.le_of_ble_eq_true rfl⟩ ?_
        refine z_aload_n h dL_law_577 rfl 2 rfl ?_
        refine z_aload_n h dL_law_578 rfl 0 rfl ?_
        refine z_iload_n h dL_law_579 rfl 3 rfl ?_
        refine z_iconst h (v := (1 : Int32)) dL_law_580 ic_1 ?_
        refine z_iadd h dL_law_581 ?_
        obtain ⟨g135, hf⟩ := ck_out hf
        refine z_sld h hq g135 dL_law_582 ?_
        obtain ⟨v136, σ137, e137, hf⟩ := obd_out hf
        refine z_cVv h (n := 1) (c_X6_limits l G e137) zC6 tg_1067 ln_1067 rfl rfl wd_613 wd_614 wd_615 wd_5 wd_616 (by decide +kernel) ⟨rfl, rfl⟩ rfl rfl rfl dL_law_583 ⟨Nat.le_of_ble_eq_true rfl, Nat.le_of_ble_eq_true rfl⟩ ?_
        refine z_icmp_eq h (tgt := 943) dL_law_586 (by decide) (fun g138 => ?_) (fun g138 => ?_)
        · have hf := it_pos g138 hf
          exact z_sub [0, 1, 2, 3] rfl (k_L_law_b943 h hq N x3 (fun x3_ σ_ hf_ => ih x3_ σ_ hf_) _ hf)
        · have hf := it_neg g138 hf
          refine z_iconst h (v := (0 : Int32)) dL_law_589 ic_0 ?_
          exact z_lawret h hq hf dL_law_590
      have hf := it_neg g131 hf
      by_cases g139 : v3 = (13 : Int32)
      · have hf := it_pos g139 hf
        refine z_tin h (v := 13) (tgt := 591) dL_law_32 (by rw [g139]; rfl) (by decide) (by decide) rfl (by decide) ?_
        refine z_aload_n h dL_law_591 rfl 1 rfl ?_
        refine z_aload_n h dL_law_592 rfl 0 rfl ?_
        refine z_iload_n h dL_law_593 rfl 3 rfl ?_
        refine z_iconst h (v := (1 : Int32)) dL_law_594 ic_1 ?_
        refine z_iadd h dL_law_595 ?_
        obtain ⟨g140, hf⟩ := ck_out hf
        refine z_sld h hq g140 dL_law_596 ?_
        refine z_aload_n h dL_law_597 rfl 0 rfl ?_
        refine z_iload_n h dL_law_598 rfl 3 rfl ?_
        refine z_iconst h (v := (2 : Int32)) dL_law_599 ic_2 ?_
        refine z_iadd h dL_law_600 ?_
        obtain ⟨g141, hf⟩ := ck_out hf
        refine z_sld h hq g141 dL_law_601 ?_
        refine z_aload_n h dL_law_602 rfl 0 rfl ?_
        refine z_iload_n h dL_law_603 rfl 3 rfl ?_
        refine z_iconst h (v := (3 : Int32)) dL_law_604 ic_3 ?_
        refine z_iadd h dL_law_605 ?_
        obtain ⟨g142, hf⟩ := ck_out hf
        refine z_sld h hq g142 dL_law_606 ?_
        obtain ⟨v143, σ144, e144, hf⟩ := obd_out hf
        refine z_cVv h (n := 3) (c_X5_factor l G e144) zC5 tg_0 ln_0 rfl rfl wd_688 wd_689 wd_690 wd_2 wd_691 (by decide +kernel) ⟨rfl, rfl⟩ rfl rfl rfl dL_law_607 ⟨Nat.le_of_ble_eq_true rfl, Nat.le_of_ble_eq_true rfl⟩ ?_
        refine z_aload_n h dL_law_610 rfl 2 rfl ?_
        refine z_aload_n h dL_law_611 rfl 0 rfl ?_
        refine z_iload_n h dL_law_612 rfl 3 rfl ?_
        refine z_iconst h (v := (1 : Int32)) dL_law_613 ic_1 ?_
        refine z_iadd h dL_law_614 ?_
        obtain ⟨g145, hf⟩ := ck_out hf
        refine z_sld h hq g145 dL_law_615 ?_
        refine z_aload_n h dL_law_616 rfl 0 rfl ?_
        refine z_iload_n h dL_law_617 rfl 3 rfl ?_
        refine z_iconst h (v := (2 : Int32)) dL_law_618 ic_2 ?_
        refine z_iadd h dL_law_619 ?_
        obtain ⟨g146, hf⟩ := ck_out hf
        refine z_sld h hq g146 dL_law_620 ?_
        refine z_aload_n h dL_law_621 rfl 0 rfl ?_
        refine z_iload_n h dL_law_622 rfl 3 rfl ?_
        refine z_iconst h (v := (3 : Int32)) dL_law_623 ic_3 ?_
        refine z_iadd h dL_law_624 ?_
        obtain ⟨g147, hf⟩ := ck_out hf
        refine z_sld h hq g147 dL_law_625 ?_
        obtain ⟨v148, σ149, e149, hf⟩ := obd_out hf
        refine z_cVv h (n := 3) (c_X6_factor l G e149) zC6 tg_1067 ln_1067 rfl rfl wd_698 wd_699 wd_700 wd_5 wd_701 (by decide +kernel) ⟨rfl, rfl⟩ rfl rfl rfl dL_law_626 ⟨Nat.le_of_ble_eq_true rfl, Nat.le_of_ble_eq_true rfl⟩ ?_
        refine z_lif_eq h (tgt := 943) dL_law_629 dL_law_630 (by decide) (fun g150 => ?_) (fun g150 => ?_)
        · have hf := it_pos g150 hf
          exact z_sub [0, 1, 2, 3] rfl (k_L_law_b943 h hq N x3 (fun x3_ σ_ hf_ => ih x3_ σ_ hf_) _ hf)
        · have hf := it_neg g150 hf
          refine z_iconst h (v := (0 : Int32)) dL_law_633 ic_0 ?_
          exact z_lawret h hq hf dL_law_634
      have hf := it_neg g139 hf
      by_cases g151 : v3 = (14 : Int32)
      · have hf := it_pos g151 hf
        refine z_tin h (v := 14) (tgt := 635) dL_law_32 (by rw [g151]; rfl) (by decide) (by decide) rfl (by decide) ?_
        refine z_aload_n h dL_law_635 rfl 1 rfl ?_
        refine z_aload_n h dL_law_636 rfl 0 rfl ?_
        refine z_iload_n h dL_law_637 rfl 3 rfl ?_
        refine z_iconst h (v := (1 : Int32)) dL_law_638 ic_1 ?_
        refine z_iadd h dL_law_639 ?_
        obtain ⟨g152, hf⟩ := ck_out hf
        refine z_sld h hq g152 dL_law_640 ?_
        refine z_aload_n h dL_law_641 rfl 0 rfl ?_
        refine z_iload_n h dL_law_642 rfl 3 rfl ?_
        refine z_iconst h (v := (2 : Int32)) dL_law_643 ic_2 ?_
        refine z_iadd h dL_law_644 ?_
        obtain ⟨g153, hf⟩ := ck_out hf
        refine z_sld h hq g153 dL_law_645 ?_
        obtain ⟨v154, σ155, e155, hf⟩ := obd_out hf
        refine z_cVv h (n := 2) (c_X5_near l G e155) zC5 tg_0 ln_0 rfl rfl wd_707 wd_708 wd_709 wd_2 wd_710 (by decide +kernel) ⟨rfl, rfl⟩ rfl rfl rfl dL_law_646 ⟨Nat.le_of_ble_eq_true rfl, Nat.le_of_ble_eq_true rfl⟩ ?_
        refine z_aload_n h dL_law_649 rfl 2 rfl ?_
        refine z_aload_n h dL_law_650 rfl 0 rfl ?_
        refine z_iload_n h dL_law_651 rfl 3 rfl ?_
        refine z_iconst h (v := (1 : Int32)) dL_law_652 ic_1 ?_
        refine z_iadd h dL_law_653 ?_
        obtain ⟨g156, hf⟩ := ck_out hf
        refine z_sld h hq g156 dL_law_654 ?_
        refine z_aload_n h dL_law_655 rfl 0 rfl ?_
        refine z_iload_n h dL_law_656 rfl 3 rfl ?_
        refine z_iconst h (v := (2 : Int32)) dL_law_657 ic_2 ?_
        refine z_iadd h dL_law_658 ?_
        obtain ⟨g157, hf⟩ := ck_out hf
        refine z_sld h hq g157 dL_law_659 ?_
        obtain ⟨v158, σ159, e159, hf⟩ := obd_out hf
        refine z_cVv h (n := 2) (c_X6_near l G e159) zC6 tg_1067 ln_1067 rfl rfl wd_720 wd_721 wd_722 wd_5 wd_723 (by decide +kernel) ⟨rfl, rfl⟩ rfl rfl rfl dL_law_660 ⟨Nat.le_of_ble_eq_true rfl, Nat.le_of_ble_eq_true rfl⟩ ?_
        refine z_icmp_eq h (tgt := 943) dL_law_663 (by decide) (fun g160 => ?_) (fun g160 => ?_)
        · have hf := it_pos g160 hf
          exact z_sub [0, 1, 2, 3] rfl (k_L_law_b943 h hq N x3 (fun x3_ σ_ hf_ => ih x3_ σ_ hf_) _ hf)
        · have hf := it_neg g160 hf
          refine z_iconst h (v := (0 : Int32)) dL_law_666 ic_0 ?_
          exact z_lawret h hq hf dL_law_667
      have hf := it_neg g151 hf
      by_cases g161 : v3 = (15 : Int32)
      · have hf := it_pos g161 hf
        refine z_tin h (v := 15) (tgt := 668) dL_law_32 (by rw [g161]; rfl) (by decide) (by decide) rfl (by decide) ?_
        refine z_aload_n h dL_law_668 rfl 1 rfl ?_
        refine z_aload_n h dL_law_669 rfl 0 rfl ?_
        refine z_iload_n h dL_law_670 rfl 3 rfl ?_
        refine z_iconst h (v := (1 : Int32)) dL_law_671 ic_1 ?_
        refine z_iadd h dL_law_672 ?_
        obtain ⟨g162, hf⟩ := ck_out hf
        refine z_sld h hq g162 dL_law_673 ?_
        refine z_aload_n h dL_law_674 rfl 0 rfl ?_
        refine z_iload_n h dL_law_675 rfl 3 rfl ?_
        refine z_iconst h (v := (2 : Int32)) dL_law_676 ic_2 ?_
        refine z_iadd h dL_law_677 ?_
        obtain ⟨g163, hf⟩ := ck_out hf
        refine z_sld h hq g163 dL_law_678 ?_
        refine z_aload_n h dL_law_679 rfl 0 rfl ?_
        refine z_iload_n h dL_law_680 rfl 3 rfl ?_
        refine z_iconst h (v := (3 : Int32)) dL_law_681 ic_3 ?_
        refine z_iadd h dL_law_682 ?_
        obtain ⟨g164, hf⟩ := ck_out hf
        refine z_sld h hq g164 dL_law_683 ?_
        obtain ⟨v165, σ166, e166, hf⟩ := obd_out hf
        refine z_cVv h (n := 3) (c_X5_bears l G e166) zC5 tg_0 ln_0 rfl rfl wd_736 wd_737 wd_738 wd_2 wd_739 (by decide +kernel) ⟨rfl, rfl⟩ rfl rfl rfl dL_law_684 ⟨Nat.le_of_ble_eq_true rfl, Nat.le_of_ble_eq_true rfl⟩ ?_
        refine z_aload_n h dL_law_687 rfl 2 rfl ?_
        refine z_aload_n h dL_law_688 rfl 0 rfl ?_
        refine z_iload_n h dL_law_689 rfl 3 rfl ?_
        refine z_iconst h (v := (1 : Int32)) dL_law_690 ic_1 ?_
        refine z_iadd h dL_law_691 ?_
        obtain ⟨g167, hf⟩ := ck_out hf
        refine z_sld h hq g167 dL_law_692 ?_
        refine z_aload_n h dL_law_693 rfl 0 rfl ?_
        refine z_iload_n h dL_law_694 rfl 3 rfl ?_
        refine z_iconst h (v := (2 : Int32)) dL_law_695 ic_2 ?_
        refine z_iadd h dL_law_696 ?_
        obtain ⟨g168, hf⟩ := ck_out hf
        refine z_sld h hq g168 dL_law_697 ?_
        refine z_aload_n h dL_law_698 rfl 0 rfl ?_
        refine z_iload_n h dL_law_699 rfl 3 rfl ?_
        refine z_iconst h (v := (3 : Int32)) dL_law_700 ic_3 ?_
        refine z_iadd h dL_law_701 ?_
        obtain ⟨g169, hf⟩ := ck_out hf
        refine z_sld h hq g169 dL_law_702 ?_
        obtain ⟨v170, σ171, e171, hf⟩ := obd_out hf
        refine z_cVv h (n := 3) (c_X6_bears l G e171) zC6 tg_1067 ln_1067 rfl rfl wd_744 wd_745 wd_746 wd_5 wd_747 (by decide +kernel) ⟨rfl, rfl⟩ rfl rfl rfl dL_law_703 ⟨Nat.le_of_ble_eq_true rfl, Nat.le_of_ble_eq_true rfl⟩ ?_
        refine z_icmp_eq h (tgt := 943) dL_law_706 (by decide) (fun g172 => ?_) (fun g172 => ?_)
        · have hf := it_pos g172 hf
          exact z_sub [0, 1, 2, 3] rfl (k_L_law_b943 h hq N x3 (fun x3_ σ_ hf_ => ih x3_ σ_ hf_) _ hf)
        · have hf := it_neg g172 hf
          refine z_iconst h (v := (0 : Int32)) dL_law_709 ic_0 ?_
          exact z_lawret h hq hf dL_law_710
      have hf := it_neg g161 hf
      by_cases g173 : v3 = (16 : Int32)
      · have hf := it_pos g173 hf
        refine z_tin h (v := 16) (tgt := 711) dL_law_32 (by rw [g173]; rfl) (by decide) (by decide) rfl (by decide) ?_
        refine z_aload_n h dL_law_711 rfl 1 rfl ?_
        refine z_aload_n h dL_law_712 rfl 0 rfl ?_
        refine z_iload_n h dL_law_713 rfl 3 rfl ?_
        refine z_iconst h (v := (1 : Int32)) dL_law_714 ic_1 ?_
        refine z_iadd h dL_law_715 ?_
        obtain ⟨g174, hf⟩ := ck_out hf
        refine z_sld h hq g174 dL_law_716 ?_
        refine z_aload_n h dL_law_717 rfl 0 rfl ?_
        refine z_iload_n h dL_law_718 rfl 3 rfl ?_
        refine z_iconst h (v := (2 : Int32)) dL_law_719 ic_2 ?_
        refine z_iadd h dL_law_720 ?_
        obtain ⟨g175, hf⟩ := ck_out hf
        refine z_sld h hq g175 dL_law_721 ?_
        refine z_aload_n h dL_law_722 rfl 0 rfl ?_
        refine z_iload_n h dL_law_723 rfl 3 rfl ?_
        refine z_iconst h (v := (3 : Int32)) dL_law_724 ic_3 ?_
        refine z_iadd h dL_law_725 ?_
        obtain ⟨g176, hf⟩ := ck_out hf
        refine z_sld h hq g176 dL_law_726 ?_
        refine z_aload_n h dL_law_727 rfl 0 rfl ?_
        refine z_iload_n h dL_law_728 rfl 3 rfl ?_
        refine z_iconst h (v := (4 : Int32)) dL_law_729 ic_4 ?_
        refine z_iadd h dL_law_730 ?_
        obtain ⟨g177, hf⟩ := ck_out hf
        refine z_sld h hq g177 dL_law_731 ?_
        obtain ⟨v178, σ179, e179, hf⟩ := obd_out hf
        refine z_cVv h (n := 4) (c_X5_moment l G e179) zC5 tg_0 ln_0 rfl rfl wd_748 wd_749 wd_750 wd_2 wd_751 (by decide +kernel) ⟨rfl, rfl⟩ rfl rfl rfl dL_law_732 ⟨Nat.le_of_ble_eq_true rfl, Nat.le_of_ble_eq_true rfl⟩ ?_
        refine z_aload_n h dL_law_735 rfl 2 rfl ?_
        refine z_aload_n h dL_law_736 rfl 0 rfl ?_
        refine z_iload_n h dL_law_737 rfl 3 rfl ?_
        refine z_iconst h (v := (1 : Int32)) dL_law_738 ic_1 ?_
        refine z_iadd h dL_law_739 ?_
        obtain ⟨g180, hf⟩ := ck_out hf
        refine z_sld h hq g180 dL_law_740 ?_
        refine z_aload_n h dL_law_741 rfl 0 rfl ?_
        refine z_iload_n h dL_law_742 rfl 3 rfl ?_
        refine z_iconst h (v := (2 : Int32)) dL_law_743 ic_2 ?_
        refine z_iadd h dL_law_744 ?_
        obtain ⟨g181, hf⟩ := ck_out hf
        refine z_sld h hq g181 dL_law_745 ?_
        refine z_aload_n h dL_law_746 rfl 0 rfl ?_
        refine z_iload_n h dL_law_747 rfl 3 rfl ?_
        refine z_iconst h (v := (3 : Int32)) dL_law_748 ic_3 ?_
        refine z_iadd h dL_law_749 ?_
        obtain ⟨g182, hf⟩ := ck_out hf
        refine z_sld h hq g182 dL_law_750 ?_
        refine z_aload_n h dL_law_751 rfl 0 rfl ?_
        refine z_iload_n h dL_law_752 rfl 3 rfl ?_
        refine z_iconst h (v := (4 : Int32)) dL_law_753 ic_4 ?_
        refine z_iadd h dL_law_754 ?_
        obtain ⟨g183, hf⟩ := ck_out hf
        refine z_sld h hq g183 dL_law_755 ?_
        obtain ⟨v184, σ185, e185, hf⟩ := obd_out hf
        refine z_cVv h (n := 4) (c_X6_moment l G e185) zC6 tg_1067 ln_1067 rfl rfl wd_768 wd_769 wd_770 wd_5 wd_771 (by decide +kernel) ⟨rfl, rfl⟩ rfl rfl rfl dL_law_756 ⟨Nat.le_of_ble_eq_true rfl, Nat.le_of_ble_eq_true rfl⟩ ?_
        refine z_lif_eq h (tgt := 943) dL_law_759 dL_law_760 (by decide) (fun g186 => ?_) (fun g186 => ?_)
        · have hf := it_pos g186 hf
          exact z_sub [0, 1, 2, 3] rfl (k_L_law_b943 h hq N x3 (fun x3_ σ_ hf_ => ih x3_ σ_ hf_) _ hf)
        · have hf := it_neg g186 hf
          refine z_iconst h (v := (0 : Int32)) dL_law_763 ic_0 ?_
          exact z_lawret h hq hf dL_law_764
      have hf := it_neg g173 hf
      by_cases g187 : v3 = (17 : Int32)
      · have hf := it_pos g187 hf
        refine z_tin h (v := 17) (tgt := 765) dL_law_32 (by rw [g187]; rfl) (by decide) (by decide) rfl (by decide) ?_
        refine z_aload_n h dL_law_765 rfl 1 rfl ?_
        refine z_aload_n h dL_law_766 rfl 0 rfl ?_
        refine z_iload_n h dL_law_767 rfl 3 rfl ?_
        refine z_iconst h (v := (1 : Int32)) dL_law_768 ic_1 ?_
        refine z_iadd h dL_law_769 ?_
        obtain ⟨g188, hf⟩ := ck_out hf
        refine z_sld h hq g188 dL_law_770 ?_
        refine z_aload_n h dL_law_771 rfl 0 rfl ?_
        refine z_iload_n h dL_law_772 rfl 3 rfl ?_
        refine z_iconst h (v := (2 : Int32)) dL_law_773 ic_2 ?_
        refine z_iadd h dL_law_774 ?_
        obtain ⟨g189, hf⟩ := ck_out hf
        refine z_sld h hq g189 dL_law_775 ?_
        obtain ⟨v190, σ191, e191, hf⟩ := obd_out hf
        refine z_cVv h (n := 2) (c_X5_yields l G e191) zC5 tg_0 ln_0 rfl rfl wd_784 wd_785 wd_786 wd_2 wd_787 (by decide +kernel) ⟨rfl, rfl⟩ rfl rfl rfl dL_law_776 ⟨Nat.le_of_ble_eq_true rfl, Nat.le_of_ble_eq_true rfl⟩ ?_
        refine z_aload_n h dL_law_779 rfl 2 rfl ?_
        refine z_aload_n h dL_law_780 rfl 0 rfl ?_
        refine z_iload_n h dL_law_781 rfl 3 rfl ?_
        refine z_iconst h (v := (1 : Int32)) dL_law_782 ic_1 ?_
        refine z_iadd h dL_law_783 ?_
        obtain ⟨g192, hf⟩ := ck_out hf
        refine z_sld h hq g192 dL_law_784 ?_
        refine z_aload_n h dL_law_785 rfl 0 rfl ?_
        refine z_iload_n h dL_law_786 rfl 3 rfl ?_
        refine z_iconst h (v := (2 : Int32)) dL_law_787 ic_2 ?_
        refine z_iadd h dL_law_788 ?_
        obtain ⟨g193, hf⟩ := ck_out hf
        refine z_sld h hq g193 dL_law_789 ?_
        obtain ⟨v194, σ195, e195, hf⟩ := obd_out hf
        refine z_cVv h (n := 2) (c_X6_yields l G e195) zC6 tg_1067 ln_1067 rfl rfl wd_797 wd_798 wd_799 wd_5 wd_800 (by decide +kernel) ⟨rfl, rfl⟩ rfl rfl rfl dL_law_790 ⟨Nat.le_of_ble_eq_true rfl, Nat.le_of_ble_eq_true rfl⟩ ?_
        refine z_icmp_eq h (tgt := 943) dL_law_793 (by decide) (fun g196 => ?_) (fun g196 => ?_)
        · have hf := it_pos g196 hf
          exact z_sub [0, 1, 2, 3] rfl (k_L_law_b943 h hq N x3 (fun x3_ σ_ hf_ => ih x3_ σ_ hf_) _ hf)
        · have hf := it_neg g196 hf
          refine z_iconst h (v := (0 : Int32)) dL_law_796 ic_0 ?_
          exact z_lawret h hq hf dL_law_797
      have hf := it_neg g187 hf
      by_cases g197 : v3 = (18 : Int32)
      · have hf := it_pos g197 hf
        refine z_tin h (v := 18) (tgt := 798) dL_law_32 (by rw [g197]; rfl) (by decide) (by decide) rfl (by decide) ?_
        refine z_aload_n h dL_law_798 rfl 1 rfl ?_
        refine z_aload_n h dL_law_799 rfl 0 rfl ?_
        refine z_iload_n h dL_law_800 rfl 3 rfl ?_
        refine z_iconst h (v := (1 : Int32)) dL_law_801 ic_1 ?_
        refine z_iadd h dL_law_802 ?_
        obtain ⟨g198, hf⟩ := ck_out hf
        refine z_sld h hq g198 dL_law_803 ?_
        refine z_aload_n h dL_law_804 rfl 0 rfl ?_
        refine z_iload_n h dL_law_805 rfl 3 rfl ?_
        refine z_iconst h (v := (2 : Int32)) dL_law_806 ic_2 ?_
        refine z_iadd h dL_law_807 ?_
        obtain ⟨g199, hf⟩ := ck_out hf
        refine z_sld h hq g199 dL_law_808 ?_
        refine z_aload_n h dL_law_809 rfl 0 rfl ?_
        refine z_iload_n h dL_law_810 rfl 3 rfl ?_
        refine z_iconst h (v := (3 : Int32)) dL_law_811 ic_3 ?_
        refine z_iadd h dL_law_812 ?_
        obtain ⟨g200, hf⟩ := ck_out hf
        refine z_sld h hq g200 dL_law_813 ?_
        obtain ⟨v201, σ202, e202, hf⟩ := obd_out hf
        refine z_cVv h (n := 3) (c_X5_binding l G e202) zC5 tg_0 ln_0 rfl rfl wd_801 wd_802 wd_803 wd_2 wd_804 (by decide +kernel) ⟨rfl, rfl⟩ rfl rfl rfl dL_law_814 ⟨Nat.le_of_ble_eq_true rfl, Nat.le_of_ble_eq_true rfl⟩ ?_
        refine z_aload_n h dL_law_817 rfl 2 rfl ?_
        refine z_aload_n h dL_law_818 rfl 0 rfl ?_
        refine z_iload_n h dL_law_819 rfl 3 rfl ?_
        refine z_iconst h (v := (1 : Int32)) dL_law_820 ic_1 ?_
        refine z_iadd h dL_law_821 ?_
        obtain ⟨g203, hf⟩ := ck_out hf
        refine z_sld h hq g203 dL_law_822 ?_
        refine z_aload_n h dL_law_823 rfl 0 rfl ?_
        refine z_iload_n h dL_law_824 rfl 3 rfl ?_
        refine z_iconst h (v := (2 : Int32)) dL_law_825 ic_2 ?_
        refine z_iadd h dL_law_826 ?_
        obtain ⟨g204, hf⟩ := ck_out hf
        refine z_sld h hq g204 dL_law_827 ?_
        refine z_aload_n h dL_law_828 rfl 0 rfl ?_
        refine z_iload_n h dL_law_829 rfl 3 rfl ?_
        refine z_iconst h (v := (3 : Int32)) dL_law_830 ic_3 ?_
        refine z_iadd h dL_law_831 ?_
        obtain ⟨g205, hf⟩ := ck_out hf
        refine z_sld h hq g205 dL_law_832 ?_
        obtain ⟨v206, σ207, e207, hf⟩ := obd_out hf
        refine z_cVv h (n := 3) (c_X6_binding l G e207) zC6 tg_1067 ln_1067 rfl rfl wd_817 wd_818 wd_819 wd_5 wd_820 (by decide +kernel) ⟨rfl, rfl⟩ rfl rfl rfl dL_law_833 ⟨Nat.le_of_ble_eq_true rfl, Nat.le_of_ble_eq_true rfl⟩ ?_
        refine z_icmp_eq h (tgt := 943) dL_law_836 (by decide) (fun g208 => ?_) (fun g208 => ?_)
        · have hf := it_pos g208 hf
          exact z_sub [0, 1, 2, 3] rfl (k_L_law_b943 h hq N x3 (fun x3_ σ_ hf_ => ih x3_ σ_ hf_) _ hf)
        · have hf := it_neg g208 hf
          refine z_iconst h (v := (0 : Int32)) dL_law_839 ic_0 ?_
          exact z_lawret h hq hf dL_law_840
      have hf := it_neg g197 hf
      by_cases g209 : v3 = (19 : Int32)
      · have hf := it_pos g209 hf
        refine z_tin h (v := 19) (tgt := 841) dL_law_32 (by rw [g209]; rfl) (by decide) (by decide) rfl (by decide) ?_
        refine z_aload_n h dL_law_841 rfl 1 rfl ?_
        refine z_aload_n h dL_law_842 rfl 0 rfl ?_
        refine z_iload_n h dL_law_843 rfl 3 rfl ?_
        refine z_iconst h (v := (1 : Int32)) dL_law_844 ic_1 ?_
        refine z_iadd h dL_law_845 ?_
        obtain ⟨g210, hf⟩ := ck_out hf
        refine z_sld h hq g210 dL_law_846 ?_
        refine z_aload_n h dL_law_847 rfl 0 rfl ?_
        refine z_iload_n h dL_law_848 rfl 3 rfl ?_
        refine z_iconst h (v := (2 : Int32)) dL_law_849 ic_2 ?_
        refine z_iadd h dL_law_850 ?_
        obtain ⟨g211, hf⟩ := ck_out hf
        refine z_sld h hq g211 dL_law_851 ?_
        obtain ⟨v212, σ213, e213, hf⟩ := obd_out hf
        refine z_cVv h (n := 2) (c_X5_spare l G e213) zC5 tg_0 ln_0 rfl rfl wd_821 wd_822 wd_823 wd_2 wd_824 (by decide +kernel) ⟨rfl, rfl⟩ rfl rfl rfl dL_law_852 ⟨Nat.le_of_ble_eq_true rfl, Nat.le_of_ble_eq_true rfl⟩ ?_
        refine z_aload_n h dL_law_855 rfl 2 rfl ?_
        refine z_aload_n h dL_law_856 rfl 0 rfl ?_
        refine z_iload_n h dL_law_857 rfl 3 rfl ?_
        refine z_iconst h (v := (1 : Int32)) dL_law_858 ic_1 ?_
        refine z_iadd h dL_law_859 ?_
        obtain ⟨g214, hf⟩ := ck_out hf
        refine z_sld h hq g214 dL_law_860 ?_
        refine z_aload_n h dL_law_861 rfl 0 rfl ?_
        refine z_iload_n h dL_law_862 rfl 3 rfl ?_
        refine z_iconst h (v := (2 : Int32)) dL_law_863 ic_2 ?_
        refine z_iadd h dL_law_864 ?_
        obtain ⟨g215, hf⟩ := ck_out hf
        refine z_sld h hq g215 dL_law_865 ?_
        obtain ⟨v216, σ217, e217, hf⟩ := obd_out hf
        refine z_cVv h (n := 2) (c_X6_spare l G e217) zC6 tg_1067 ln_1067 rfl rfl wd_835 wd_836 wd_837 wd_5 wd_838 (by decide +kernel) ⟨rfl, rfl⟩ rfl rfl rfl dL_law_866 ⟨Nat.le_of_ble_eq_true rfl, Nat.le_of_ble_eq_true rfl⟩ ?_
        refine z_icmp_eq h (tgt := 943) dL_law_869 (by decide) (fun g218 => ?_) (fun g218 => ?_)
        · have hf := it_pos g218 hf
          exact z_sub [0, 1, 2, 3] rfl (k_L_law_b943 h hq N x3 (fun x3_ σ_ hf_ => ih x3_ σ_ hf_) _ hf)
        · have hf := it_neg g218 hf
          refine z_iconst h (v := (0 : Int32)) dL_law_872 ic_0 ?_
          exact z_lawret h hq hf dL_law_873
      have hf := it_neg g209 hf
      by_cases g219 : v3 = (20 : Int32)
      · have hf := it_pos g219 hf
        refine z_tin h (v := 20) (tgt := 874) dL_law_32 (by rw [g219]; rfl) (by decide) (by decide) rfl (by decide) ?_
        refine z_aload_n h dL_law_874 rfl 1 rfl ?_
        refine z_aload_n h dL_law_875 rfl 0 rfl ?_
        refine z_iload_n h dL_law_876 rfl 3 rfl ?_
        refine z_iconst h (v := (1 : Int32)) dL_law_877 ic_1 ?_
        refine z_iadd h dL_law_878 ?_
        obtain ⟨g220, hf⟩ := ck_out hf
        refine z_sld h hq g220 dL_law_879 ?_
        obtain ⟨v221, σ222, e222, hf⟩ := obd_out hf
        refine z_cVv h (n := 1) (c_X5_weakest l G e222) zC5 tg_0 ln_0 rfl rfl wd_839 wd_840 wd_841 wd_2 wd_842 (by decide +kernel) ⟨rfl, rfl⟩ rfl rfl rfl dL_law_880 ⟨Nat.le_of_ble_eq_true rfl, Nat.le_of_ble_eq_true rfl⟩ ?_
        refine z_aload_n h dL_law_883 rfl 2 rfl ?_
        refine z_aload_n h dL_law_884 rfl 0 rfl ?_
        refine z_iload_n h dL_law_885 rfl 3 rfl ?_
        refine z_iconst h (v := (1 : Int32)) dL_law_886 ic_1 ?_
        refine z_iadd h dL_law_887 ?_
        obtain ⟨g223, hf⟩ := ck_out hf
        refine z_sld h hq g223 dL_law_888 ?_
        obtain ⟨v224, σ225, e225, hf⟩ := obd_out hf
        refine z_cVv h (n := 1) (c_X6_weakest l G e225) zC6 tg_1067 ln_1067 rfl rfl wd_847 wd_848 wd_849 wd_5 wd_850 (by decide +kernel) ⟨rfl, rfl⟩ rfl rfl rfl dL_law_889 ⟨Nat.le_of_ble_eq_true rfl, Nat.le_of_ble_eq_true rfl⟩ ?_
        refine z_icmp_eq h (tgt := 943) dL_law_892 (by decide) (fun g226 => ?_) (fun g226 => ?_)
        · have hf := it_pos g226 hf
          exact z_sub [0, 1, 2, 3] rfl (k_L_law_b943 h hq N x3 (fun x3_ σ_ hf_ => ih x3_ σ_ hf_) _ hf)
        · have hf := it_neg g226 hf
          refine z_iconst h (v := (0 : Int32)) dL_law_895 ic_0 ?_
          exact z_lawret h hq hf dL_law_896
      have hf := it_neg g219 hf
      by_cases g227 : v3 = (21 : Int32)
      · have hf := it_pos g227 hf
        refine z_tin h (v := 21) (tgt := 897) dL_law_32 (by rw [g227]; rfl) (by decide) (by decide) rfl (by decide) ?_
        refine z_aload_n h dL_law_897 rfl 1 rfl ?_
        refine z_aload_n h dL_law_898 rfl 0 rfl ?_
        refine z_iload_n h dL_law_899 rfl 3 rfl ?_
        refine z_iconst h (v := (1 : Int32)) dL_law_900 ic_1 ?_
        refine z_iadd h dL_law_901 ?_
        obtain ⟨g228, hf⟩ := ck_out hf
        refine z_sld h hq g228 dL_law_902 ?_
        obtain ⟨v229, σ230, e230, hf⟩ := obd_out hf
        refine z_cVv h (n := 1) (c_X5_image l G e230) zC5 tg_0 ln_0 rfl rfl wd_851 wd_852 wd_853 wd_2 wd_854 (by decide +kernel) ⟨rfl, rfl⟩ rfl rfl rfl dL_law_903 ⟨Nat.le_of_ble_eq_true rfl, Nat.le_of_ble_eq_true rfl⟩ ?_
        refine z_aload_n h dL_law_906 rfl 2 rfl ?_
        refine z_aload_n h dL_law_907 rfl 0 rfl ?_
        refine z_iload_n h dL_law_908 rfl 3 rfl ?_
        refine z_iconst h (v := (1 : Int32)) dL_law_909 ic_1 ?_
        refine z_iadd h dL_law_910 ?_
        obtain ⟨g231, hf⟩ := ck_out hf
        refine z_sld h hq g231 dL_law_911 ?_
        obtain ⟨v232, σ233, e233, hf⟩ := obd_out hf
        refine z_cVv h (n := 1) (c_X6_image l G e233) zC6 tg_1067 ln_1067 rfl rfl wd_860 wd_861 wd_862 wd_5 wd_863 (by decide +kernel) ⟨rfl, rfl⟩ rfl rfl rfl dL_law_912 ⟨Nat.le_of_ble_eq_true rfl, Nat.le_of_ble_eq_true rfl⟩ ?_
        refine z_icmp_eq h (tgt := 943) dL_law_915 (by decide) (fun g234 => ?_) (fun g234 => ?_)
        · have hf := it_pos g234 hf
          exact z_sub [0, 1, 2, 3] rfl (k_L_law_b943 h hq N x3 (fun x3_ σ_ hf_ => ih x3_ σ_ hf_) _ hf)
        · have hf := it_neg g234 hf
          refine z_iconst h (v := (0 : Int32)) dL_law_918 ic_0 ?_
          exact z_lawret h hq hf dL_law_919
      have hf := it_neg g227 hf
      by_cases g235 : v3 = (22 : Int32)
      · have hf := it_pos g235 hf
        refine z_tin h (v := 22) (tgt := 920) dL_law_32 (by rw [g235]; rfl) (by decide) (by decide) rfl (by decide) ?_
        refine z_aload_n h dL_law_920 rfl 1 rfl ?_
        refine z_aload_n h dL_law_921 rfl 0 rfl ?_
        refine z_iload_n h dL_law_922 rfl 3 rfl ?_
        refine z_iconst h (v := (1 : Int32)) dL_law_923 ic_1 ?_
        refine z_iadd h dL_law_924 ?_
        obtain ⟨g236, hf⟩ := ck_out hf
        refine z_sld h hq g236 dL_law_925 ?_
        obtain ⟨v237, σ238, e238, hf⟩ := obd_out hf
        refine z_cVv h (n := 1) (c_X5_restore l G e238) zC5 tg_0 ln_0 rfl rfl wd_864 wd_865 wd_866 wd_2 wd_867 (by decide +kernel) ⟨rfl, rfl⟩ rfl rfl rfl dL_law_926 ⟨Nat.le_of_ble_eq_true rfl, Nat.le_of_ble_eq_true rfl⟩ ?_
        refine z_aload_n h dL_law_929 rfl 2 rfl ?_
        refine z_aload_n h dL_law_930 rfl 0 rfl ?_
        refine z_iload_n h dL_law_931 rfl 3 rfl ?_
        refine z_iconst h (v := (1 : Int32)) dL_law_932 ic_1 ?_
        refine z_iadd h dL_law_933 ?_
        obtain ⟨g239, hf⟩ := ck_out hf
        refine z_sld h hq g239 dL_law_934 ?_
        obtain ⟨v240, σ241, e241, hf⟩ := obd_out hf
        refine z_cVv h (n := 1) (c_X6_restore l G e241) zC6 tg_1067 ln_1067 rfl rfl wd_868 wd_869 wd_870 wd_5 wd_871 (by decide +kernel) ⟨rfl, rfl⟩ rfl rfl rfl dL_law_935 ⟨Nat.le_of_ble_eq_true rfl, Nat.le_of_ble_eq_true rfl⟩ ?_
        refine z_icmp_eq h (tgt := 943) dL_law_938 (by decide) (fun g242 => ?_) (fun g242 => ?_)
        · have hf := it_pos g242 hf
          exact z_sub [0, 1, 2, 3] rfl (k_L_law_b943 h hq N x3 (fun x3_ σ_ hf_ => ih x3_ σ_ hf_) _ hf)
        · have hf := it_neg g242 hf
          refine z_iconst h (v := (0 : Int32)) dL_law_941 ic_0 ?_
          exact z_lawret h hq hf dL_law_942
      have hf := it_neg g235 hf
      refine z_tout h (tgt := 943) dL_law_32 (by have := lv_neT (a := 0) g4 rfl; have := lv_neT (a := 1) g17 rfl; have := lv_neT (a := 2) g27 rfl; have := lv_neT (a := 3) g39 rfl; have := lv_neT (a := 4) g47 rfl; have := lv_neT (a := 5) g57 rfl; have := lv_neT (a := 6) g71 rfl; have := lv_neT (a := 7) g81 rfl; have := lv_neT (a := 8) g91 rfl; have := lv_neT (a := 9) g99 rfl; have := lv_neT (a := 10) g107 rfl; have := lv_neT (a := 11) g119 rfl; have := lv_neT (a := 12) g131 rfl; have := lv_neT (a := 13) g139 rfl; have := lv_neT (a := 14) g151 rfl; have := lv_neT (a := 15) g161 rfl; have := lv_neT (a := 16) g173 rfl; have := lv_neT (a := 17) g187 rfl; have := lv_neT (a := 18) g197 rfl; have := lv_neT (a := 19) g209 rfl; have := lv_neT (a := 20) g219 rfl; have := lv_neT (a := 21) g227 rfl; have := lv_neT (a := 22) g235 rfl; omega) (by decide) ?_
      exact z_sub [0, 1, 2, 3] rfl (k_L_law_b943 h hq N x3 (fun x3_ σ_ hf_ => ih x3_ σ_ hf_) _ hf)
