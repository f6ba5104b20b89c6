theorem wd_0 : Cond.classLink RL 7 RX5 ∈ WA := List.mem_of_getElem? (i := 0) (by decide +kernel)
theorem wd_1 : Cond.instantiable RX5 9 ∈ WA := List.mem_of_getElem? (i := 1) (by decide +kernel)
theorem wd_3 : Cond.classLink RL 10 RX6 ∈ WA := List.mem_of_getElem? (i := 3) (by decide +kernel)
theorem wd_4 : Cond.instantiable RX6 53 ∈ WA := List.mem_of_getElem? (i := 4) (by decide +kernel)
theorem wd_6 : Cond.methodLink RL 9 yX5_init ∈ WA := List.mem_of_getElem? (i := 6) (by decide +kernel)
theorem wd_7 : Cond.instanceMethod yX5_init ∈ WA := List.mem_of_getElem? (i := 7) (by decide +kernel)
theorem wd_8 : Cond.code yX5_init cX5_init 2 none ∈ WA := List.mem_of_getElem? (i := 8) (by decide +kernel)
theorem wd_84 : Cond.methodLink RL 12 yX6_init ∈ WA := List.mem_of_getElem? (i := 84) (by decide +kernel)
theorem wd_85 : Cond.instanceMethod yX6_init ∈ WA := List.mem_of_getElem? (i := 85) (by decide +kernel)
theorem wd_86 : Cond.code yX6_init cX6_init 1 none ∈ WA := List.mem_of_getElem? (i := 86) (by decide +kernel)
-- ===== the law's entry: two objects are made; then the loop =====
section ZMAKE
variable {p : Program} {l : Launch} {e : Env} {R : Room} {s : State} {m : MethodId} {args : Array Value} {below : List Frame} {meth : Method} {c : Code} {H : Heap} {locs : List Loc} {cells slots : Nat} {Q : State → Prop} {cc : ByteArray} {pc : Nat} {ls : Array Slot} {rest : List Value}
theorem lw_make {G : ZG} {A : Nat → Prop} {nL : Nat} (hx : p.tables.exec = Jvm.exec) (hb : c.code = cc) (hml : c.maxLocals = nL) {own : String} (hown : s.vm.findClass own = some m.cls) (hts : ∀ w ∈ WA, w.before args s = true) (hK : va_K G.2.1 vwCl (zT G) s) (hNw : zNW s) (hO : zOv s) (hA : ∀ q : Nat, s.heap.size ≤ q → A q) (hls : ls.size = nL)
    {k : Nat} {C : String} {T : u_T} {N index index2 : Nat} (hC : zCl k C T N) {fs0 : List Value} (ty : Nat → FieldType) (hty : ∀ j, j < N → parseFieldDescriptor (T j).2.2.1 = some (ty j)) (hfs : ∀ j, j < N → defaultValue (ty j) = vp_V fs0 j) (w1 : Cond.classLink own index C ∈ WA) (w2 : Cond.instantiable C N ∈ WA) (w3 : Cond.initialized C ∈ WA)
    {y : MethodName} {bytes : ByteArray} {maxL mc ms : Nat} {rm : Room} {fin : Nat → List Value} {xs : Nat → List va_E} (M : zCt l G y bytes maxL rm k fs0 fin xs mc ms) (w4 : Cond.methodLink own index2 y ∈ WA) (w5 : Cond.instanceMethod y ∈ WA) (w6 : Cond.initialized y.cls ∈ WA) (w7 : Cond.code y bytes maxL none ∈ WA) (hy1 : y.name = "<init>")
    (hd : (y.cls ≠ "java/lang/invoke/MethodHandle" ∧ y.cls ≠ "java/lang/invoke/VarHandle") ∧ (parseMethodDescriptor y.desc).map (fun d => d.parameters.length) = some 0) (hrm : rm.cells = mc ∧ rm.slots = ms) (hR : Nat.ble (rm.frames + 1) R.frames && Nat.ble (8 + (maxL + 11) + rm.locals) R.locals) (hcat : Nat.ble (((Value.ref 0 :: rest).map fun v => v.category).sum) 8 = true) (hc : Nat.ble (cells + 1 + mc) R.cells = true) (hs : Nat.ble (slots + N + ms) R.slots = true)
    (d1 : decode cc pc = .ok (.new index, 3)) (d2 : decode cc (pc + 3) = .ok (.dup, 1)) (d3 : decode cc (pc + 3 + 1) = .ok (.invokespecial index2, 3)) (hS : va_S A s.heap H locs)
    (kk : ∀ (H1 : Heap) (locs1 : List Loc), (∀ q : Nat, q < H.size → H1[q]? = H[q]?) → H1.size = H.size + 1 + (xs (H.size + 1)).length → va_P G.2.1 vwCl (cW H.size (H.size + 1) (.inr (k, fin (H.size + 1))) (xs (H.size + 1))) H1 → va_S A s.heap H1 locs1 → W p l e R s m args below meth c H1 locs1 (cells + 1 + mc) (slots + N + ms) Q (F0 m (pc + 3 + 1 + 3) ls (.ref H.size :: rest))) : W p l e R s m args below meth c H locs cells slots Q (F0 m pc ls rest) := by
  have hc1 := Nat.le_of_ble_eq_true hc
  have hs1 := Nat.le_of_ble_eq_true hs
  rw [Bool.and_eq_true] at hR
  have hKn := hK.1 k _ hC.1
  refine W.newcK hx hb hown (hts _ w1) (hts _ w2) (hts _ w3) rfl d1 (by omega) (by omega) hKn.2.1 rfl fun H1 kC hkC e1 z1 o1 => ?_
  refine lv_dup hx hb d2 rfl ?_
  have hGd : GoodIn WA (Cond.code y bytes maxL none :: WA) := fun w hw => by
    rcases List.mem_cons.mp hw with rfl | hw
    · exact WA_good _ w7
    · exact WA_good _ hw
  have hPq : va_P G.2.1 vwCl [(H.size, .inr (k, fs0))] H1 := fun i x hx => by
    have hi : i < 1 := (List.getElem?_eq_some_iff.mp hx).1
    rw [show i = 0 by omega] at hx
    cases hx
    exact ⟨_, hC.1, (u_born ty hts hC.2.2.1 hKn hkC e1 hty).to hfs⟩
  have hr0 := va_runI (l := l) (e := e) (R := R) (below := below) (meth := meth) (locs := locs) (cells := cells + 1) (slots := slots + N) (H := H1) (b := H.size) (As := []) (rest := .ref H.size :: rest) (g := F0 m (pc + 3 + 1) ls (.ref H.size :: .ref H.size :: rest)) (index := index2) (n := 0) ⟨hx, hb, hml, hown, hts⟩ (M (H.size + 1) H.size (by omega)) ⟨callB_of 0 hts hGd rfl hrm.1 hrm.2 (hts _ w6) (hts _ w4) ⟨hd.1.1, hd.1.2, hd.2⟩ ⟨Nat.le_of_ble_eq_true hR.1, Nat.le_of_ble_eq_true hR.2⟩, hy1, hts _ w5⟩ ⟨fun a1 U g mk q => by
    obtain ⟨q0, q1, qP, qK, qN, qO⟩ := q
    exact ⟨q0, q1, qP, va_K.moved (u := U) (U := U.calling g mk a1) (Vm.Alike.refl U.vm) qK, zNW.same (s := U) (U := U.calling g mk a1) rfl qN, zOv.same (s := U) (U := U.calling g mk a1) rfl qO⟩, fun U hU hW => ⟨rfl, by rw [hU]; exact z1, by rw [hU]; exact hPq, va_K.moved hW.alike hK, hNw.warm hW, hO.moved hW⟩⟩ rfl rfl hls rfl (lv_room (Nat.le_of_ble_eq_true hcat)) d3 ⟨hc1, hs1⟩
  intro T hT X
  obtain ⟨v, st₀, t, T', L, g0, X', hL, e1', e2, ⟨⟨hv, hsz1, hP1⟩, hz1, hk1⟩, stp⟩ := hr0 T hT X
  cases hv
  rw [g0] at hz1 hk1
  have hold : ∀ q : Nat, q < H.size → T'.heap[q]? = H[q]? := fun q h1 => by rw [e1', hk1 q (by omega) (fun w => by omega), o1 q h1]
  obtain ⟨t2, a1, b1⟩ := kk T'.heap (locs ++ L) hold (by rw [e1', hsz1]) (by rw [e1']; exact hP1) ⟨Nat.le_trans hS.1 (by rw [e1']; omega), fun q h1 h2 => by rw [hold q (Nat.lt_of_lt_of_le h1 hS.1)]; exact hS.2.1 q h1 h2, fun q hq => by
      rcases List.mem_append.mp hq with h | h
      · exact hS.2.2 q h
      · have hq2 : @Eq Nat q.base H.size ∨ @LE.le Nat _ (H.size + 1) q.base := hL q h
        have hq3 : s.heap.size ≤ H.size := hS.1
        exact hA _ (by rcases hq2 with w | w <;> omega)⟩ T' rfl X'
  exact ⟨t2, stp t2 a1, b1⟩
end ZMAKE
theorem zN_on : ∀ w ∈ zNF, w.onTables = true := by decide +kernel
theorem zM_on : ∀ w ∈ zNM, w.onTables = true := by decide +kernel
set_option maxHeartbeats 4000000 in
set_option maxRecDepth 100000 in
theorem start_open (hp : ∀ (xs : Nat → Int32) (L : Nat), L ≤ 2560 → ∃ (N : Nat) (σ' : ZS), f_L_law_h18 N xs L N 0 z0 = some ((1 : Int32), σ')) {p : Program} {e : Env} {s : State} {m : MethodId} {below : List Frame} {meth : Method} {c : Code} (l : Launch) {b L : Nat} {xs : Nat → Int32} (hL : L ≤ 2560) (C0 : lw_At p s m meth c b L xs) : W p l e room_1 s m #[Value.ref b] below meth c s.heap [] 0 0 (lw_Z below #[Value.ref b] s) (entryFrame m ([Value.ref b] : List Value).toArray 4) := by
  obtain ⟨hx, hb, hr, hml, hown, hts0, hX, hbl, hlocks, hgv⟩ := id C0
  have hts : ∀ w ∈ WA, w.before #[Value.ref b] s = true := fun w hw => hts0 w (wsin_all w hw)
  have hNw : zNW s := ⟨fun w hw => va_Nw.of (zN_on w hw) (hts0 w (zNFin w hw)), fun w hw => va_Nw.of (zM_on w hw) (hts0 w (zNMin w hw))⟩
  have hO : zOv s := ⟨va_AO.of (hts0 _ zOvin.1), hts0 _ zOvin.2.1, hts0 _ zOvin.2.2⟩
  obtain ⟨c0, i0, hKn0⟩ := u_known (C := RX0) (T := TX0) (N := 12) (n := 12) hts0 wsinX0 (hts _ wd_18)
  obtain ⟨c1, i1, hKn1⟩ := u_known (C := RX1) (T := TX1) (N := 2) (n := 2) hts0 wsinX1 (hts _ wd_24)
  obtain ⟨c2, i2, hKn2⟩ := u_known (C := RX2) (T := TX2) (N := 9) (n := 9) hts0 wsinX2 (hts _ wd_13)
  obtain ⟨c3, i3, hKn3⟩ := u_known (C := RX3) (T := TX3) (N := 4) (n := 4) hts0 wsinX3 (hts _ wd_45)
  obtain ⟨c4, i4, hKn4⟩ := u_known (C := RX4) (T := TX4) (N := 7) (n := 7) hts0 wsinX4 (hts _ wd_63)
  obtain ⟨c5, i5, hKn5⟩ := u_known (C := RX5) (T := TX5) (N := 9) (n := 9) hts0 wsinX5 (hts _ wd_1)
  obtain ⟨c6, i6, hKn6⟩ := u_known (C := RX6) (T := TX6) (N := 53) (n := 53) hts0 wsinX6 (hts _ wd_4)
  obtain ⟨dC, dI, hKc⟩ : ∃ (dC : Nat → ClassId) (dI : Nat → Nat → Nat), ∀ (k : Nat) (q : vw_C), vwCl[k]? = some q → u_Kn s q.1 q.2.1 q.2.2 (dC k) (dI k) := by
    refine ⟨fun k => if k = 0 then c0 else if k = 1 then c1 else if k = 2 then c2 else if k = 3 then c3 else if k = 4 then c4 else if k = 5 then c5 else c6, fun k => if k = 0 then i0 else if k = 1 then i1 else if k = 2 then i2 else if k = 3 then i3 else if k = 4 then i4 else if k = 5 then i5 else i6, ?_⟩
    intro k q hq
    match k, hq with
    | 0, hq => cases hq; exact hKn0
    | 1, hq => cases hq; exact hKn1
    | 2, hq => cases hq; exact hKn2
    | 3, hq => cases hq; exact hKn3
    | 4, hq => cases hq; exact hKn4
    | 5, hq => cases hq; exact hKn5
    | 6, hq => cases hq; exact hKn6
    | k + 7, hq => simp [vwCl] at hq
  obtain ⟨aI, kI, mI, fI1, fI2, fI3⟩ := Cond.arrayClass_spec (hts _ wd_31)
  obtain ⟨aJ, kJ, mJ, fJ1, fJ2, fJ3⟩ := Cond.arrayClass_spec (hts _ wd_50)
  obtain ⟨aZ, kZ, mZ, fZ1, fZ2, fZ3⟩ := Cond.arrayClass_spec (hts _ wd_103)
  obtain ⟨mQ, aQ, kQ, fQ1, fQ0, fQ2, fQ3, fQ4⟩ := Cond.arrayOver_spec hO.1
  obtain ⟨m5, a5, k5, f51, f52, f53, f54⟩ := Cond.arrayOver_specA hO.2.1
  obtain ⟨m6, a6, k6, f61, f62, f63, f64⟩ := Cond.arrayOver_specA hO.2.2
  obtain ⟨G, hG⟩ : ∃ G : ZG, G = zG s.heap.size (dC, dI) (fun t => if t = 1 then aI else if t = 2 then aJ else if t = 3 then aZ else if t = 4 then aQ else if t = 5 then a5 else a6) := ⟨_, rfl⟩
  have hG2 : G.2.1 = (dC, dI) := by rw [hG]; rfl
  have hK : va_K G.2.1 vwCl (zT G) s := by
    rw [hG2]
    refine ⟨hKc, fun k q hq => ?_⟩
    rw [hG] at hq
    match k, hq with
    | 0, hq => cases hq; exact ⟨fun n z => ⟨fun k h => (by cases h), kI, fI2, mI, fI3⟩, fI1⟩
    | 1, hq => cases hq; exact ⟨fun n z => ⟨fun k h => (by cases h), kJ, fJ2, mJ, fJ3⟩, fJ1⟩
    | 2, hq => cases hq; exact ⟨fun n z => ⟨fun k h => (by cases h), kZ, fZ2, mZ, fZ3⟩, fZ1⟩
    | 3, hq => cases hq; exact ⟨fun n z => ⟨fun k h => (by cases h), kQ, fQ2, mQ, fQ3⟩, kQ, mQ, fQ2, fQ3, fQ1, fQ4⟩
    | 4, hq => cases hq; exact ⟨fun n z => ⟨fun k h => (by cases h), k5, f52, m5, f53⟩, f54⟩
    | 5, hq => cases hq; exact ⟨fun n z => ⟨fun k h => (by cases h), k6, f62, m6, f63⟩, f64⟩
    | k + 6, hq => simp [zT] at hq
  have hA : ∀ q : Nat, s.heap.size ≤ q → (fun q : Nat => s.heap.size ≤ q) q := fun _ h => h
  have hS : va_S (fun q : Nat => s.heap.size ≤ q) s.heap s.heap [] := va_S.rf
  have hl := lv_entry ([.ref b]) (n := 4) (Nat.le_of_ble_eq_true rfl)
  rw [lg_entry_eq]
  generalize (lg_sl ([.ref b]) ++ List.replicate (4 - (lg_sl ([.ref b])).length) Slot.unset).toArray = ls at hl ⊢
  have hl : lv_has ls 4 [(0, .ref b)] := hl
  refine lw_make (G := G) (A := fun q : Nat => s.heap.size ≤ q) (nL := 4) hx hb hml hown hts hK hNw hO hA hl.1 zC5 (fs0 := blk5) tyX5 tyX5_ok (by decide +kernel) wd_0 wd_1 wd_2 (c_X5_init l G) wd_6 wd_7 wd_2 wd_8 rfl (by decide +kernel) ⟨rfl, rfl⟩ rfl rfl rfl rfl dL_law_0 dL_law_3 dL_law_4 hS (fun H1 locs1 o1 z1 hP1 hS1 => ?_)
  rw [es_X5_len] at z1
  refine lv_astore_n (lv' := [(1, .ref s.heap.size), (0, .ref b)]) hx hb dL_law_7 rfl hl (by decide) rfl (fun ls hl => ?_)
  refine lw_make (G := G) (A := fun q : Nat => s.heap.size ≤ q) (nL := 4) hx hb hml hown hts hK hNw hO hA hl.1 zC6 (fs0 := blk6) tyX6 tyX6_ok (by decide +kernel) wd_3 wd_4 wd_5 (c_X6_init l G) wd_84 wd_85 wd_5 wd_86 rfl (by decide +kernel) ⟨rfl, rfl⟩ rfl rfl rfl rfl dL_law_8 dL_law_11 dL_law_12 hS1 (fun H2 locs2 o2 z2 hP2 hS2 => ?_)
  rw [es_X6_len] at z2
  have e1 : H1.size = s.heap.size + 1067 := by rw [z1]
  rw [e1] at hP2 o2 ⊢
  refine lv_astore_n (lv' := [(2, .ref (s.heap.size + 1067)), (1, .ref s.heap.size), (0, .ref b)]) hx hb dL_law_15 rfl hl (by decide) rfl (fun ls hl => ?_)
  refine lv_iconst (v := 0) hx hb dL_law_16 (by decide) ?_
  refine lv_istore_n (lv' := [(3, .int 0), (2, .ref (s.heap.size + 1067)), (1, .ref s.heap.size), (0, .ref b)]) hx hb dL_law_17 rfl hl (by decide) rfl (fun ls hl => ?_)
  have hl := lv_sub hl (l' := [(0, .ref b), (1, .ref s.heap.size), (2, .ref (s.heap.size + 1067)), (3, .int 0)]) [3, 2, 1, 0] rfl
  have hPa : va_P G.2.1 vwCl (cW s.heap.size (s.heap.size + 1) (.inr (5, fin_X5 G (s.heap.size + 1))) (es_X5 G (s.heap.size + 1))) H2 := hP1.kept (fun k q hk => o2 q.1 (by have := (hP1 k q hk).lt; omega))
  have hP : va_P G.2.1 vwCl (zW G z0) H2 := by
    rw [hG] at hPa hP2 ⊢
    exact zc_all hPa hP2
  obtain ⟨N, σ', hf⟩ := hp xs L hL
  have ha0 : G.1 0 = s.heap.size := by rw [hG]; rfl
  have ha1 : G.1 1067 = s.heap.size + 1067 := by rw [hG]; rfl
  have hz := k_L_law_h18 (l := l) (Y := (p, e, s, m, #[Value.ref b], below, meth, c, (fun q : Nat => s.heap.size ≤ q), lw_Z below #[Value.ref b] s)) (G := G) (σ' := σ') (b := b) (L := L) (xs := xs) ⟨hx, hb, hml, hown, hts, hr, hlocks, hK, by rw [hG]; exact zG_inj _ _ _, fun q hq => (by
    rcases hq with ⟨c, -, h⟩ | h
    · rw [hG] at h
      have h : q = s.heap.size + zOff c := h
      show s.heap.size ≤ q
      omega
    · exact h), hNw⟩ ⟨rfl, rfl, rfl, rfl, hX, hbl, Nat.le_of_ble_eq_true rfl, Nat.le_of_ble_eq_true rfl⟩ N N 0 z0 hf
  rw [ha0, ha1] at hz
  exact hz H2 locs2 ls hP hS2 hl
