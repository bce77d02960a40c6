/-! ===== what is made: rows, objects, constructors ===== -/
section AXN
variable {X : cxT} {l : Launch} {D : va_G} {Y : Nat → ClassId} {cc : ByteArray} {nL : Nat} {own : String} {Ts : List Cond} {rm : Room} {rt : Option FieldType} {cs sl pc : Nat} {L : List (Option Value)} {ws : va_W} {st st0 : List Value}
theorem a_objInit (C : axC X l D Y cc nL own Ts rm rt) {index a : Nat} (hd : decode cc pc = .ok (.invokespecial index, 3)) (hlk : ∀ w ∈ ([.methodLink own index objectInit, .instanceMethod objectInit, .code objectInit ⟨#[0xb1]⟩ 1 none] : List Cond), w ∈ Ts) (hroom : 1 ≤ rm.frames ∧ 20 ≤ rm.locals) (hW : (st.map fun v => v.category).sum ≤ 8) (kk : ax X cs sl (pc + 3) L ws st) : ax X cs sl pc L ws (.ref a :: st) := by
  obtain ⟨p, l9, e, R, s, m, args, below, meth, c, Q, D9, A, n9, Y9⟩ := X
  obtain ⟨⟨hx, hb, hml, hown, hts⟩, ⟨rfl, rfl, rfl, rfl, rfl, hr, hlocks⟩, hK, hA⟩ := C
  intro H locs ls hP hD hS hl
  exact W.objInit hx hb hown (hts _ (hlk _ (by simp))) (hts _ (hlk _ (by simp))) (hts _ (hlk _ (by simp))) rfl (by rw [hml]; exact hl.1) rfl hd hroom.1 (by show 2 * 0 + _ + 12 ≤ _; have := hroom.2; omega) (kk H locs ls hP hD hS hl)
theorem a_putF {Cn : String} (C : axC X l D Y cc nL own Ts rm rt) (hin2 : axI X) {index ci k a : Nat} {fs : List Value} {v : Value} {ty : FieldType} (hF : aF Ts own index ci k) (hG : aG ci k ty true) (hCn : ∃ T N, vwCl[ci]? = some (Cn, T, N)) (ho : Cn = own) (hd : decode cc pc = .ok (.putfield index, 3)) (q0 : Nat) (he : ws[q0]? = some (a, .inr (ci, fs))) (hn : narrow ty v = v) (hfit : fits ty v = true) (hlen : k < fs.length) (kk : ax X cs sl (pc + 3) L (ws.set q0 (a, .inr (ci, fs.set k v))) st) : ax X cs sl pc L ws (v :: .ref a :: st) := by
  obtain ⟨p, l9, e, R, s, m, args, below, meth, c, Q, D9, A, n9, Y9⟩ := X
  obtain ⟨⟨hx, hb, hml, hown, hts⟩, ⟨rfl, rfl, rfl, rfl, rfl, hr, hlocks⟩, hK, hA⟩ := C
  intro H locs ls hP hD hS hl
  obtain ⟨Cn1, T, N, h1, h2, h3, h4⟩ := hF
  obtain ⟨Cn', T', N', ty0, g1, g2, g3, g4, g5, g6⟩ := hG
  obtain ⟨T3, N3, hC3⟩ := hCn
  cases Option.some.inj (h1.symm.trans g1)
  cases Option.some.inj (h1.symm.trans hC3)
  exact va_putF hx hb hts h2 ty0 g2 g3 hown hK.1 hP hD hS q0 he h1 k h3 (hts _ h4) (fun _ h9 => h9) g4 hin2 (g6.trans ho) g5 hn hfit hlen hd (fun H1 locs1 hP1 hD1 hS1 => kk H1 locs1 ls hP1 hD1 hS1 hl)
theorem a_newa (C : axC X l D Y cc nL own Ts rm rt) {atype : ArrayType} {ty : FieldType} (t0 : Nat) (hd : decode cc pc = .ok (.newarray atype, 2)) (hty : newarray.typeOf atype = ty) (hprim : ∀ s cA, va_RA s cA ty ↔ s.vm.findClass ("[" ++ ty.toString) = some cA) (harr : Cond.arrayClass (newarray.typeOf atype) ∈ Ts) (ht : (tysOf Y)[t0]? = some (Y t0, ty)) {n : Int32} (N : Nat) (a0 : vp_A) (ha : ∀ cA : ClassId, vp_cell cA a0 = arrV cA N (fun _ => defaultValue ty)) (hn : ¬ n < 0) (hN : n.toNatClampNeg = N) (hbytes : N * componentBytes ty ≤ 536870912) (hroom : cs + 1 ≤ rm.cells ∧ sl + N ≤ rm.slots)
    (kk : ∀ q : Nat, ax X (cs + 1) (sl + N) (pc + 2) L (ws ++ [(q, .inl (Y t0, a0))]) (.ref q :: st)) : ax X cs sl pc L ws (.int n :: st) := by
  obtain ⟨p, l9, e, R, s, m, args, below, meth, c, Q, D9, A, n9, Y9⟩ := X
  obtain ⟨⟨hx, hb, hml, hown, hts⟩, ⟨rfl, rfl, rfl, rfl, rfl, hr, hlocks⟩, hK, hA⟩ := C
  intro H locs ls hP hD hS hl
  refine va_newa hx hb (hts _ harr) hty hK.1 hP hD hS hA ha hn hN hbytes hroom.1 hroom.2 hd (fun q cA H1 hK1 hP1 hD1 hS1 => ?_)
  have e1 : cA = Y9 t0 := by
    have z1 := (hprim s cA).mp (hK1.2 (tysOf Y9).length (cA, ty) (by rw [List.getElem?_append_right (Nat.le_refl _), Nat.sub_self]; rfl)).2
    have z2 := (hprim s (Y9 t0)).mp (hK.1.2 t0 _ ht).2
    exact Option.some.inj (z1.symm.trans z2)
  subst e1
  exact kk q H1 locs ls hP1 hD1 hS1 hl
theorem a_newq (C : axC X l D Y cc nL own Ts rm rt) {index : Nat} (hd : decode cc pc = .ok (.anewarray index, 3)) (hlk : Cond.classLink own index "SandKeepsSea$State" ∈ Ts) {n : Int32} (N : Nat) (hn : ¬ n < 0) (hN : n.toNatClampNeg = N) (hbytes : N * 4 ≤ 536870912) (hroom : cs + 1 ≤ rm.cells ∧ sl + N ≤ rm.slots)
    (kk : ∀ q : Nat, ax X (cs + 1) (sl + N) (pc + 3) L (ws ++ [(q, .inl (Y 4, N, .inr (.inr (.inr (.inr (fun _ => none))))))]) (.ref q :: st)) : ax X cs sl pc L ws (.int n :: st) := by
  obtain ⟨p, l9, e, R, s, m, args, below, meth, c, Q, D9, A, n9, Y9⟩ := X
  obtain ⟨⟨hx, hb, hml, hown, hts⟩, ⟨rfl, rfl, rfl, rfl, rfl, hr, hlocks⟩, hK, hA⟩ := C
  intro H locs ls hP hD hS hl
  refine va_newq hx hb hown (hts _ hlk) hK.2.2.2.2 hK.1 hP hD hS hA hn hN hbytes hroom.1 hroom.2 hd (fun q cA H1 hK1 hP1 hD1 hS1 => ?_)
  have e1 : cA = Y9 4 := by
    obtain ⟨_, _, _, _, _, z1⟩ := (hK1.2 (tysOf Y9).length (cA, .object "SandKeepsSea$State") (by rw [List.getElem?_append_right (Nat.le_refl _), Nat.sub_self]; rfl)).2
    obtain ⟨_, _, _, _, _, z2⟩ := (hK.1.2 4 (Y9 4, .object "SandKeepsSea$State") rfl).2
    exact Option.some.inj (z1.symm.trans z2)
  subst e1
  exact kk q H1 locs ls hP1 hD1 hS1 hl
theorem a_new (C : axC X l D Y cc nL own Ts rm rt) {index ci N : Nat} {Cn : String} {T : u_T} (ty : Nat → FieldType) (hd : decode cc pc = .ok (.new index, 3)) (hc : vwCl[ci]? = some (Cn, T, N)) (hin : ∀ w ∈ u_ws Cn T N, w ∈ Ts) (hty : ∀ k, k < N → parseFieldDescriptor (T k).2.2.1 = some (ty k)) (hlk : ∀ w ∈ ([.classLink own index Cn, .instantiable Cn N, .initialized Cn] : List Cond), w ∈ Ts) (fs : List Value) (hfs : ∀ j, j < N → defaultValue (ty j) = vp_V fs j) (hroom : cs + 1 ≤ rm.cells ∧ sl + N ≤ rm.slots)
    (kk : ∀ q : Nat, ax X (cs + 1) (sl + N) (pc + 3) L (ws ++ [(q, .inr (ci, fs))]) (.ref q :: st)) : ax X cs sl pc L ws st := by
  obtain ⟨p, l9, e, R, s, m, args, below, meth, c, Q, D9, A, n9, Y9⟩ := X
  obtain ⟨⟨hx, hb, hml, hown, hts⟩, ⟨rfl, rfl, rfl, rfl, rfl, hr, hlocks⟩, hK, hA⟩ := C
  intro H locs ls hP hD hS hl
  exact va_new hx hb hts hin ty hty hown (hts _ (hlk _ (by simp))) (hts _ (hlk _ (by simp))) (hts _ (hlk _ (by simp))) hK.1 hP hD hS hA hc hfs hroom.1 hroom.2 hd (fun q H1 hP1 hD1 hS1 => kk q H1 locs ls hP1 hD1 hS1 hl)
theorem a_astq (C : axC X l D Y cc nL own Ts rm rt) {a n v ci : Nat} {vs : List Value} {f : Nat → Option Nat} {i : Int32} (hd : decode cc pc = .ok (.aastore, 1)) (q0 qk : Nat) (he : ws[q0]? = some (a, .inl (Y 4, n, .inr (.inr (.inr (.inr f)))))) (hv : ws[qk]? = some (v, .inr (ci, vs))) {T : u_T} {N : Nat} (hc : vwCl[ci]? = some ("SandKeepsSea$State", T, N)) (hin : vp_in i n) (kk : ax X cs sl (pc + 1) L (ws.set q0 (a, .inl (Y 4, n, .inr (.inr (.inr (.inr (va_up f i.toNatClampNeg (some v)))))))) st) : ax X cs sl pc L ws (.ref v :: .int i :: .ref a :: st) := by
  obtain ⟨p, l9, e, R, s, m, args, below, meth, c, Q, D9, A, n9, Y9⟩ := X
  obtain ⟨⟨hx, hb, hml, hown, hts⟩, ⟨rfl, rfl, rfl, rfl, rfl, hr, hlocks⟩, hK, hA⟩ := C
  intro H locs ls hP hD hS hl
  exact va_astq hx hb hK.1 hP hD hS q0 4 qk ci he rfl hv hc hin hd (fun H1 locs1 hP1 hD1 hS1 => kk H1 locs1 ls hP1 hD1 hS1 hl)
theorem a_widen {k n : Nat} (h1 : cs ≤ k) (h2 : sl ≤ n) (kk : ax X k n pc L ws st) : ax X cs sl pc L ws st := by
  obtain ⟨p, l9, e, R, s, m, args, below, meth, c, Q, D9, A, n9, Y9⟩ := X
  intro H locs ls hP hD hS hl
  exact W.widen h1 h2 (kk H locs ls hP hD hS hl)
variable {y : MethodName} {wy wy' : List Cond} {rmc : Room} {bytes : ByteArray} {maxL index mc ms : Nat} {As : List Value} {b : Nat} {w : va_W} {post : Option Value → va_W → Prop}
/-- a constructor -/
theorem a_gI (C : axC X l D Y cc nL own Ts rm rt) (hM : am l D Y y wy rmc (.ref b :: As) w mc ms post) (hg : GoodIn Ts wy) (hw : wy = Cond.code y bytes maxL none :: wy') (hlk : ∀ w ∈ ([.initialized y.cls, .methodLink own index y, .instanceMethod y] : List Cond), w ∈ Ts)
    (hd0 : y.name = "<init>" ∧ y.cls ≠ "java/lang/invoke/MethodHandle" ∧ y.cls ≠ "java/lang/invoke/VarHandle" ∧ (parseMethodDescriptor y.desc).map (fun d => d.parameters.length) = some As.length)
    (hR : (rmc.cells = mc ∧ rmc.slots = ms) ∧ (rmc.frames + 1 ≤ rm.frames ∧ 8 + (maxL + 11) + rmc.locals ≤ rm.locals) ∧ (cs + mc ≤ rm.cells ∧ sl + ms ≤ rm.slots))
    (hst : st0 = As.reverse ++ .ref b :: st) (hWd : (st.map fun v => v.category).sum ≤ 8) (hdg : decode cc pc = .ok (.invokespecial index, 3))
    (is ir : List Nat) (hC0 : wAt ws is w) (hn : va_nd is = true) (wr : va_W) (hR0 : wAt ws ir wr) (hnr : va_nd ir = true) (hdis : ∀ i ∈ ir, i ∉ is)
    (kk : ∀ r w', post r w' → ax X (cs + mc) (sl + ms) (pc + 3) L (wr ++ w') (r.toList ++ st)) : ax X cs sl pc L ws st0 := by
  obtain ⟨p, l9, e, R, s, m, args, below, meth, c, Q, D9, A, n9, Y9⟩ := X
  obtain ⟨⟨hx, hb, hml, hown, hts⟩, ⟨rfl, rfl, rfl, rfl, rfl, hr, hlocks⟩, hK, hA⟩ := C
  have hC := wAt_map hC0
  have hR1 := wAt_map hR0
  intro H locs ls hP hD hS hl
  have hPc := wPart_P hP hC
  have hFc := va_free (wc := w) hD hS hA is hC
  have hDc : va_D (fun _ => True) w := (hD.sub is hn hC).weaken (fun _ _ _ _ => trivial)
  subst hst
  refine a_run (va_runI (As := As) (rest := st) ⟨hx, hb, hml, hown, hts⟩ (hM H.size) (cwI As.length hts hg hw hR.1.1 hR.1.2 (hts _ (hlk _ (by simp))) (hts _ (hlk _ (by simp))) (hts _ (hlk _ (by simp))) hd0.1 hd0.2 hR.2.1) ⟨am_blind, fun U hU hW => ⟨rfl, by rw [hU], by rw [hU]; exact hPc, vK.call hW hU hS hFc hK, hDc⟩⟩ rfl rfl hl.1 rfl (lv_room hWd) hdg hR.2.2) hS hFc (fun r w' H1 locs1 hp hP1 hD1 hz hk hS1 => ?_)
  obtain ⟨hP2, hD2⟩ := va_join hP hD is ir hC hR1 hnr hdis hk hFc hP1 hD1
  exact kk r w' hp H1 locs1 ls hP2 hD2 hS1 hl
/-- a private constructor of a nest mate -/
theorem a_gIN (C : axC X l D Y cc nL own Ts rm rt) {host : String} (hM : am l D Y y wy rmc (.ref b :: As) w mc ms post) (hg : GoodIn Ts wy) (hw : wy = Cond.code y bytes maxL none :: wy') (hN : (own, index, y, host) ∈ nestT) (hlk : ∀ w ∈ ([.initialized y.cls, .instanceMethod y] : List Cond), w ∈ Ts)
    (hd0 : y.name = "<init>" ∧ y.cls ≠ "java/lang/invoke/MethodHandle" ∧ y.cls ≠ "java/lang/invoke/VarHandle" ∧ (parseMethodDescriptor y.desc).map (fun d => d.parameters.length) = some As.length)
    (hR : (rmc.cells = mc ∧ rmc.slots = ms) ∧ (rmc.frames + 1 ≤ rm.frames ∧ 8 + (maxL + 11) + rmc.locals ≤ rm.locals) ∧ (cs + mc ≤ rm.cells ∧ sl + ms ≤ rm.slots))
    (hst : st0 = As.reverse ++ .ref b :: st) (hWd : (st.map fun v => v.category).sum ≤ 8) (hdg : decode cc pc = .ok (.invokespecial index, 3))
    (is ir : List Nat) (hC0 : wAt ws is w) (hn : va_nd is = true) (wr : va_W) (hR0 : wAt ws ir wr) (hnr : va_nd ir = true) (hdis : ∀ i ∈ ir, i ∉ is)
    (kk : ∀ r w', post r w' → ax X (cs + mc) (sl + ms) (pc + 3) L (wr ++ w') (r.toList ++ st)) : ax X cs sl pc L ws st0 := by
  obtain ⟨p, l9, e, R, s, m, args, below, meth, c, Q, D9, A, n9, Y9⟩ := X
  obtain ⟨⟨hx, hb, hml, hown, hts⟩, ⟨rfl, rfl, rfl, rfl, rfl, hr, hlocks⟩, hK, hA⟩ := C
  have hC := wAt_map hC0
  have hR1 := wAt_map hR0
  intro H locs ls hP hD hS hl
  have hPc := wPart_P hP hC
  have hFc := va_free (wc := w) hD hS hA is hC
  have hDc : va_D (fun _ => True) w := (hD.sub is hn hC).weaken (fun _ _ _ _ => trivial)
  subst hst
  refine a_run (va_runIN (As := As) (rest := st) ⟨hx, hb, hml, hown, hts⟩ (hM H.size) ⟨va_cnB (host := host) As.length hts hg hw hR.1.1 hR.1.2 (hK.2.1 _ hN) (hts _ (hlk _ (by simp))) hd0.2 hR.2.1, hd0.1, hts _ (hlk _ (by simp))⟩ ⟨am_blind, fun U hU hW => ⟨rfl, by rw [hU], by rw [hU]; exact hPc, vK.call hW hU hS hFc hK, hDc⟩⟩ rfl rfl hl.1 rfl (lv_room hWd) hdg hR.2.2) hS hFc (fun r w' H1 locs1 hp hP1 hD1 hz hk hS1 => ?_)
  obtain ⟨hP2, hD2⟩ := va_join hP hD is ir hC hR1 hnr hdis hk hFc hP1 hD1
  exact kk r w' hp H1 locs1 ls hP2 hD2 hS1 hl
end AXN
