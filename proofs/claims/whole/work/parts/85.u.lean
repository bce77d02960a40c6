/-! ===== methods with a row in their table: their contracts, what they catch, their calls ===== -/
theorem vy_ofWH {l : Launch} {y : MethodName} {ws ws' : List Cond} {rm : Room} {Pc : Array Value → State → Prop} {Qc : Array Value → State → Outcome → State → Prop} {mc ms : Nat} {free : Addr → Prop} {cc : ByteArray} {maxL : Nat} {ret : Option FieldType} {hh : List (Nat × Nat × Nat × Nat)}
    (hy : plainName y.cls = true) (hw : ws = Cond.codeWith y cc maxL ret hh :: ws')
    (body : ∀ p e s m args below meth c s₁, BodyLoose p l y (headSpec ws rm) cc maxL ret e s m args below meth c s₁ → c.maxLocals = maxL → c.exceptionTable.toList = tableOf hh → Pc args s →
      W p l e (headSpec ws rm).room s m args below meth c s.heap [] 0 0 (MQ below Qc args s mc ms free) (entryFrame m args maxL)) : Met l y ws rm Pc Qc mc ms free := by
  refine MetFree.of_bodyS (code := cc) (maxLocals := maxL) (ret := ret) hy ?_ ?_
  · intro args s m h hn
    obtain ⟨m9, meth, c, hn9, h1, h2, h3, h4, -, h5, h6, -⟩ := Cond.codeWith_spec (atoms_spec (ws := ws) h _ (by rw [hw]; exact List.mem_cons_self))
    cases hn.symm.trans hn9
    exact ⟨meth, c, h1, h2, h3, h4, h5, h6⟩
  · intro p e s m args below meth c s₁ B hml hP _
    have hh0 : s₁.heap = s.heap := by rw [B.state]; rfl
    have ht := vx_table (x := y) B (atoms_spec (ws := ws) B.pre _ (by rw [hw]; exact List.mem_cons_self))
    obtain ⟨t, a1, o, b1, b2, b3⟩ := body p e s m args below meth c s₁ B hml ht hP s₁ hh0 (Stand.of_body B)
    exact ⟨t, o, a1, b1, b2, ⟨b3.1, b3.2⟩⟩
def axH : cxT → List (Nat × Nat × Nat × Nat) → Prop := fun ⟨_, _, _, _, _, _, _, _, _, c, _, _, _, _, _⟩ hh => c.exceptionTable.toList = tableOf hh
theorem am.ofH {l : Launch} {D : va_G} {Y : Nat → ClassId} {y : MethodName} {wy wy' : List Cond} {rm : Room} {av : List Value} {w : va_W} {mc ms : Nat} {post : Option Value → va_W → Prop} {cc : ByteArray} {maxL : Nat} {rt : Option FieldType} {hh : List (Nat × Nat × Nat × Nat)}
    (hy : plainName y.cls = true) (hw : wy = Cond.codeWith y cc maxL rt hh :: wy') (own : String) (hown : y.cls = own) (hn : (lg_sl av).length ≤ maxL) (L0 : List (Option Value)) (hL : lvOf 0 L0 = lv_args 0 av)
    (body : ∀ X : cxT, axC X l D Y cc maxL own wy rm rt → axQ X mc ms post → axH X hh → ax X 0 0 0 L0 w []) : am l D Y y wy rm av w mc ms post := by
  intro sz
  refine vy_ofWH (cc := cc) (maxL := maxL) (ret := rt) (hh := hh) hy hw ?_
  intro p e s m args below meth c s₁ B hml htab hv
  obtain ⟨rfl, hsz, hP, hK, hD0⟩ := hv
  subst hsz
  have hts := atoms_spec (ws := wy) B.pre
  have hown' : s.vm.findClass own = some m.cls := by rw [← hown]; exact findClass_of_methodNamed B.named
  have hl := lv_entry av (n := maxL) hn
  rw [lg_entry_eq]
  have hb := body (p, l, e, (headSpec wy rm).room, s, m, av.toArray, below, meth, c, MQ below (amQ D (va_A w s.heap.size) post) av.toArray s mc ms (va_A w s.heap.size), D, va_A w s.heap.size, maxL, Y) ⟨⟨B.exec, B.bytes, hml, hown', hts⟩, ⟨rfl, rfl, rfl, rfl, rfl, B.returns, B.notSynchronized⟩, hK, fun q h => Or.inr h⟩ rfl htab
  exact hb s.heap [] _ hP (hD0.self) va_S.rf (lvOf_args hl (fun q hq => by rw [hL] at hq; exact hq))
theorem wSelf_P {D : va_G} {cl : List vw_C} {A : Nat → Prop} {is : List Nat} {ws w : va_W} {H H1 : Heap} (hP : va_P D cl ws H) (hD : va_D A ws) (hC : is.map (fun i => ws[i]?) = w.map some) (hk : ∀ q : Nat, q < H.size → ¬ va_A w H.size q → H1[q]? = H[q]?) (hP1 : va_P D cl w H1) : va_P D cl ws H1 := by
  intro k q hq
  by_cases hm : k ∈ is
  · obtain ⟨j, hj⟩ := List.getElem?_of_mem hm
    have e : (is.map (fun i => ws[i]?))[j]? = some (some q) := by rw [List.getElem?_map, hj]; simp [hq]
    rw [hC, List.getElem?_map] at e
    cases hw : w[j]? with
    | none => rw [hw] at e; cases e
    | some q' => rw [hw] at e; exact hP1 j q (hw.trans (Option.some.inj e))
  · have hl := (hP k q hq).lt
    refine (hP k q hq).kept (hk q.1 hl (fun z => ?_))
    rcases z with ⟨k2, e, z⟩ | z
    · obtain ⟨i, h3, h4⟩ := wPick hC z
      have hij := hD.1 k i q (q.1, e) hq h4 rfl
      subst hij
      exact hm (List.mem_of_getElem? h3)
    · omega
section AXU
variable {X : cxT} {l : Launch} {D : va_G} {Y : Nat → ClassId} {cc : ByteArray} {nL : Nat} {own : String} {Ts : List Cond} {rm : Room} {rt : Option FieldType} {cs sl pc : Nat} {L : List (Option Value)} {ws : va_W} {st st0 : List Value}
variable {y : MethodName} {wy wy' : List Cond} {rmc : Room} {bytes : ByteArray} {maxL index mc ms : Nat} {rc : Option FieldType} {As : List Value} {b : Nat} {w w' : va_W} {r : Option Value} {Cn : String}
/-- a call that throws; the one row of this method's table takes it -/
theorem a_catchV (C : axC X l D Y cc nL own Ts rm rt) {a0 a1 hpc ct : Nat} (hH : axH X [(a0, a1, hpc, ct)]) (hM : amt l D Y y wy rmc (.ref b :: As) w mc ms) (hg : GoodIn Ts (wsV own index Cn y wy)) (hw : wy = Cond.code y bytes maxL rc :: wy')
    (hd0 : y.cls = Cn ∧ y.cls ≠ "java/lang/invoke/MethodHandle" ∧ y.cls ≠ "java/lang/invoke/VarHandle" ∧ (parseMethodDescriptor y.desc).map (fun d => d.parameters.length) = some As.length)
    (hR : (rmc.cells = mc ∧ rmc.slots = ms) ∧ (rmc.frames + 1 ≤ rm.frames ∧ 8 + (maxL + 11) + rmc.locals ≤ rm.locals) ∧ (cs + mc ≤ rm.cells ∧ sl + ms ≤ rm.slots))
    (hst : st0 = As.reverse ++ .ref b :: st) (hWd : (st.map fun v => v.category).sum ≤ 8) (hdg : decode cc pc = .ok (.invokevirtual index, 3)) {ci N : Nat} {T : u_T} {fs : List Value} (hc : vwCl[ci]? = some (Cn, T, N)) (he : w[0]? = some (b, .inr (ci, fs)))
    (is : List Nat) (hC0 : wAt ws is w) (hn : va_nd is = true) (hcov : ∀ x ∈ tableOf [(a0, a1, hpc, ct)], covers x pc = true ∧ x.handlerPc = hpc ∧ x.catchType = ct) (h0 : ct ≠ 0) (hlink : Cond.classLink own ct NSE ∈ Ts)
    (kk : ∀ q : Nat, ax X (cs + mc) (sl + ms) hpc L ws [.ref q]) : ax X cs sl pc L ws st0 := by
  obtain ⟨p, l9, e, R, s, m, args, below, meth, c, Q, D9, A, n9, Y9⟩ := X
  obtain ⟨⟨hx, hb, hml, hown, hts⟩, ⟨rfl, rfl, rfl, rfl, rfl, hr, hlocks⟩, hK, hA⟩ := C
  have hC := wAt_map hC0
  intro H locs ls hP hD hS hl
  have hPc := wPart_P hP hC
  have hFc := va_free (wc := w) hD hS hA is hC
  have hDc : va_D (fun _ => True) w := (hD.sub is hn hC).weaken (fun _ _ _ _ => trivial)
  subst hst
  have hrun := vx_runV (p := p) (e := e) (below := below) (meth := meth) (locs := locs) (As := As) (rest := st) (g := F0 m pc ls (As.reverse ++ .ref b :: st)) ⟨hx, hb, hml, hown, hts⟩ (hM H.size) (cwV As.length hts hg hw hR.1.1 hR.1.2 hd0 hR.2.1) ⟨am_blind, va_recv hK.1 hPc hc he, fun U hU hW => ⟨rfl, by rw [hU], by rw [hU]; exact hPc, vK.call hW hU hS hFc hK, hDc⟩⟩ rfl rfl hl.1 rfl (lv_room hWd) hdg hR.2.2
  intro T0 hT X0
  rcases hrun T0 hT X0 with ⟨v, st₀, t, T', L1, h0', X', hL, e1, e2, hq, hgo⟩ | ⟨q, st₀, t, T', L1, E, ce, h0', X', hL, e1, e2, ⟨hE, hPw, hz, hk⟩, hce, hcv, hcl, hgo⟩
  · exact hq.elim
  · subst hE
    rw [h0'] at hz hk
    obtain ⟨x, hx1⟩ : ∃ x, c.exceptionTable.toList = [x] := ⟨_, hH⟩
    have hx2 := hcov x (by have h9 : c.exceptionTable.toList = tableOf [(a0, a1, hpc, ct)] := hH; rw [← h9, hx1]; exact List.mem_singleton.mpr rfl)
    have hP' : va_P D9 vwCl ws T'.heap := by rw [e1]; exact wSelf_P hP hD hC hk hPw
    have hS' : va_S A s.heap T'.heap (locs ++ L1) := ⟨Nat.le_trans hS.1 (by rw [e1]; exact hz), fun q h1 h2 => by rw [e1, hk q (Nat.lt_of_lt_of_le h1 hS.1) (fun z => h2 (hFc q z))]; exact hS.2.1 q h1 h2, fun q hq => by
      rcases List.mem_append.mp hq with h | h
      · exact hS.2.2 q h
      · exact hFc _ (hL q h)⟩
    have hcat := vy_catch (p := p) (l := l9) (e := e) (R := R) (args := args) (below := below) (meth := meth) (H := T'.heap) (locs := locs ++ L1) (cells := cs + mc) (slots := sl + ms) (pc := pc) (Q := Q) (ls := ls) (rest := st) (own := own) (E := NSE) (ce := ce) (q := q) hown x hx1 hx2.1 (by rw [hx2.2.2]; exact h0) (by rw [hx2.2.2]; exact hts _ hlink) (by rw [e1]; exact hce) hcv hcl (by rw [hx2.2.1]; exact kk q T'.heap (locs ++ L1) ls hP' hD hS' hl)
    obtain ⟨t2, a2, b2⟩ := hcat T' rfl X'
    exact ⟨t2, hgo.trans a2, b2⟩
/-- a static method with a table of its own -/
theorem a_fSW (C : axC X l D Y cc nL own Ts rm rt) {hh : List (Nat × Nat × Nat × Nat)} (hM : am l D Y y wy rmc As w mc ms (fun r' w'' => r' = r ∧ w'' = w')) (hg : GoodIn Ts (va_wsS own index y wy)) (hw : wy = Cond.codeWith y bytes maxL rc hh :: wy')
    (hd0 : y.cls ≠ "java/lang/invoke/MethodHandle" ∧ y.cls ≠ "java/lang/invoke/VarHandle" ∧ (parseMethodDescriptor y.desc).map (fun d => d.parameters.length) = some As.length)
    (hR : (rmc.cells = mc ∧ rmc.slots = ms) ∧ (rmc.frames + 1 ≤ rm.frames ∧ 8 + (maxL + 11) + rmc.locals ≤ rm.locals) ∧ (cs + mc ≤ rm.cells ∧ sl + ms ≤ rm.slots))
    (hst : st0 = As.reverse ++ st) (hWd : (st.map fun v => v.category).sum ≤ 8) (hdg : decode cc pc = .ok (.invokestatic index, 3))
    (is ir : List Nat) (hC : wAt ws is w) (hn : va_nd is = true) (ha : w'.map Prod.fst = w.map Prod.fst) (wn : va_W) (h1 : wAt wn is w') (h2 : wSame ws wn ir) (n9 : Nat) (hlen : wn.length = n9) (hcov : wCov n9 is ir = true)
    (kk : ax X (cs + mc) (sl + ms) (pc + 3) L wn (r.toList ++ st)) : ax X cs sl pc L ws st0 := by
  obtain ⟨p, l9, e, R, s, m, args, below, meth, c, Q, D9, A, n9, Y9⟩ := X
  obtain ⟨⟨hx, hb, hml, hown, hts⟩, ⟨rfl, rfl, rfl, rfl, rfl, hr, hlocks⟩, hK, hA⟩ := C
  intro H locs ls hP hD hS hl
  have hPc := wPart_P hP (wAt_map hC)
  have hFc := va_free (wc := w) hD hS hA is (wAt_map hC)
  have hDc : va_D (fun _ => True) w := (hD.sub is hn (wAt_map hC)).weaken (fun _ _ _ _ => trivial)
  subst hst
  refine a_run (vx_runSW (hh := hh) (As := As) (rest := st) ⟨hx, hb, hml, hown, hts⟩ (hM H.size) (vx_cwSW As.length hts hg hw hR.1.1 hR.1.2 hd0 hR.2.1) ⟨am_blind, fun U hU hW => ⟨rfl, by rw [hU], by rw [hU]; exact hPc, vK.call hW hU hS hFc hK, hDc⟩⟩ rfl rfl hl.1 rfl (lv_room hWd) hdg hR.2.2) hS hFc (fun r9 w9 H1 locs1 hp hP1 hD1 hz hk hS1 => ?_)
  obtain ⟨rfl, rfl⟩ := hp
  obtain ⟨hP2, hD2⟩ := wNew hP hD hC ha h1 h2 (by rw [hlen]; exact hcov) hk hP1
  exact kk H1 locs1 ls hP2 hD2 hS1 hl
end AXU
