/-! ===== a method that throws, and its caller ===== -/
abbrev NSE : String := "java/util/NoSuchElementException"
abbrev NSR : String := "java/lang/RuntimeException"
abbrev NSN : List String := ["java/lang/Exception"]
def amtX (D : va_G) (w : va_W) (A : Nat → Prop) : String → State → State → Prop := fun E st t => E = NSE ∧ va_P D vwCl w t.heap ∧ va_F A st t
/-- it throws, and the world is as it was -/
def amt (l : Launch) (D : va_G) (Y : Nat → ClassId) (y : MethodName) (wy : List Cond) (rm : Room) (av : List Value) (w : va_W) (mc ms : Nat) : Prop :=
  ∀ sz : Nat, vx_Met l y wy rm (va_Pc av (fun U => U.heap.size = sz ∧ va_P D vwCl w U.heap ∧ vK D Y (va_A w sz) U ∧ va_D (fun _ => True) w)) (fun _ _ _ _ => False) (amtX D w (va_A w sz)) mc ms (va_A w sz)
def axT : cxT → Nat → Nat → va_W → Prop := fun ⟨_, _, _, _, s, _, args, below, _, c, Q, D, A, _, _⟩ mc ms w => Q = vx_MQ below (fun _ _ _ _ => False) (amtX D w A) args s mc ms A ∧ ∀ x ∈ c.exceptionTable.toList, False
theorem amt.of {l : Launch} {D : va_G} {Y : Nat → ClassId} {y : MethodName} {wy wy' : List Cond} {rm : Room} {av : List Value} {w : va_W} {mc ms : Nat} {cc : ByteArray} {maxL : Nat} {rt : Option FieldType}
    (hy : plainName y.cls = true) (hw : wy = Cond.code y cc maxL rt :: wy') (own : String) (hown : y.cls = own) (hn : (lg_sl av).length ≤ maxL) (L0 : List (Option Value)) (hL : lvOf 0 L0 = lv_args 0 av)
    (body : ∀ X : cxT, axC X l D Y cc maxL own wy rm rt → axT X mc ms w → ax X 0 0 0 L0 w []) : amt l D Y y wy rm av w mc ms := by
  intro sz
  refine vx_ofW (cc := cc) (maxL := maxL) (ret := rt) hy hw ?_
  intro p e s m args below meth c s₁ B hml hno hv
  obtain ⟨rfl, hsz, hP, hK, hD0⟩ := hv
  subst hsz
  have hts := atoms_spec (ws := wy) B.pre
  have hown' : s.vm.findClass own = some m.cls := by rw [← hown]; exact findClass_of_methodNamed B.named
  have hl := lv_entry av (n := maxL) hn
  rw [lg_entry_eq]
  have hb := body (p, l, e, (headSpec wy rm).room, s, m, av.toArray, below, meth, c, vx_MQ below (fun _ _ _ _ => False) (amtX D w (va_A w s.heap.size)) av.toArray s mc ms (va_A w s.heap.size), D, va_A w s.heap.size, maxL, Y) ⟨⟨B.exec, B.bytes, hml, hown', hts⟩, ⟨rfl, rfl, rfl, rfl, rfl, B.returns, B.notSynchronized⟩, hK, fun q h => Or.inr h⟩ ⟨rfl, hno⟩
  exact hb s.heap [] _ hP (hD0.self) va_S.rf (lvOf_args hl (fun q hq => by rw [hL] at hq; exact hq))
theorem ns_cast {args : Array Value} {s : State} {C : String} (h : (Cond.initialized C).before args s = true) : (Cond.castable C C).before args s = true := by
  simp only [Cond.before, Cond.holds, Cond.value] at h ⊢
  cases hc : s.vm.findClass C with
  | none => simp [hc] at h
  | some c => simp [Vm.assignable_self]
theorem ns_decl {args : Array Value} {s : State} {y : MethodName} (cc : ByteArray) (n : Nat) (rt : Option FieldType) (h1 : (Cond.instanceMethod y).before args s = true) (h2 : (Cond.code y cc n rt).before args s = true) : (Cond.declares y).before args s = true := by
  obtain ⟨m, meth, a1, a2, a3, a4⟩ := Cond.instanceMethod_spec h1
  obtain ⟨meth', c, b1, -, -, -, -, -, -, b8⟩ := Cond.code_spec a1 h2
  cases a2.symm.trans b1
  show (Cond.declares y).holds args s none s [] = true
  simp [Cond.holds, Cond.value, a1, a2, a3, b8]
theorem ns_ng : ∀ w ∈ (vyN RX11 150 NSE NSR 13 seB NSN).filter (fun w => !goodWord w), w ∈ [Cond.castable NSE NSE, Cond.declares (Bundle.initS "java/lang/RuntimeException"), Cond.declares (Bundle.initS "java/lang/Exception"), Cond.declares (Bundle.initS Bundle.tN)] := by decide +kernel
theorem ns_all {args : Array Value} {s : State} (H1 : ∀ w ∈ (vyN RX11 150 NSE NSR 13 seB NSN).filter goodWord, w.before args s = true) (hini : (Cond.initialized NSE).before args s = true) : ∀ w ∈ vyN RX11 150 NSE NSR 13 seB NSN, w.before args s = true :=
  vx_hat H1 ns_ng (vx_c (ns_cast hini) (vx_c (ns_decl Bundle.six 2 none (H1 _ (by decide +kernel)) (H1 _ (by decide +kernel))) (vx_c (ns_decl Bundle.six 2 none (H1 _ (by decide +kernel)) (H1 _ (by decide +kernel))) (vx_c (ns_decl LibCode.Throwable.InitS.code 2 none (H1 _ (by decide +kernel)) (H1 _ (by decide +kernel))) vx_n))))
theorem ns_ot : ∀ w ∈ Cond.classLink RX11 146 NSE :: Cond.initialized NSE :: vyN RX11 150 NSE NSR 13 seB NSN, vx_ot w = true := by decide +kernel
section AXT
variable {X : cxT} {l : Launch} {D : va_G} {Y : Nat → ClassId} {cc : ByteArray} {nL : Nat} {own : String} {T0 : Cond} {Ts : List Cond} {rm : Room} {rt : Option FieldType} {cs sl pc mc ms : Nat} {L : List (Option Value)} {ws : va_W} {st st0 : List Value}
theorem a_thr (C : axC X l D Y cc nL RX11 (T0 :: BIG) rm rt) (hT : axT X 1 6 ws) (hl : l.stackTraces = false) (i : Nat) {is : Nat} {text : String} (hi : strT[i]? = some (RX11, is, text)) (d0 : decode cc pc = .ok (.new 146, 3)) (d3 : decode cc (pc + 3) = .ok (.dup, 1)) (d4 : decode cc (pc + 4) = .ok (.ldc is, 2)) (d6 : decode cc (pc + 6) = .ok (.invokespecial 150, 3)) (d9 : decode cc (pc + 9) = .ok (.athrow, 1)) (rr : 5 < rm.frames ∧ 82 ≤ rm.locals ∧ 0 + 1 ≤ rm.cells ∧ 0 + 6 ≤ rm.slots) : ax X 0 0 pc L ws [] := by
  obtain ⟨p, l9, e, R, s, m, args, below, meth, c, Q, D9, A, n9, Y9⟩ := X
  obtain ⟨⟨hx, hb, hml, hown, hts⟩, ⟨rfl, rfl, rfl, rfl, rfl, hr, hlocks⟩, hK, hA⟩ := C
  obtain ⟨hQ, hno⟩ := hT
  subst hQ
  intro H locs ls hP hD hS hlv
  exact vy_throwS (own := RX11) (cls := NSE) (Y0 := NSR) (text := text) (names := NSN) (ik := 146) (is := is) (ic := 150) (ix := 13) (bytes := seB) (mc := 1) (ms := 6) (sa := Y9 (20 + i)) (A := A) hx hb hl se_0 se_1 se_2 se_5 hown (by decide) (by decide) (by decide) (hts _ (List.mem_cons_of_mem _ (inB21 _ (List.mem_of_getElem? (i := 2) rfl)))) (hts _ (List.mem_cons_of_mem _ (inB21 _ (List.mem_of_getElem? (i := 3) rfl)))) (hK.2.2.2.1 i _ hi) (ns_all (fun w hw => hts w (List.mem_cons_of_mem _ (inBx w hw))) (hts _ (List.mem_cons_of_mem _ (inB21 _ (List.mem_of_getElem? (i := 3) rfl))))) ns_ot hK.2.2.1.2.2.1 hK.2.2.1.2.2.2 hS (hlv.1.trans hml.symm) d0 d3 d4 d6 d9 (fun x hx => (hno x hx).elim) rr.1 rr.2.1 rr.2.2.1 rr.2.2.2 hlocks
    (fun t hvm hz hk => ⟨rfl, hP.kept (fun k q hq => hk q.1 (vx_lt hP hq)), Nat.le_trans hS.1 hz, fun q h1 h2 => (hk q (Nat.lt_of_lt_of_le h1 hS.1)).trans (hS.2.1 q h1 h2)⟩) (fun z hz => hS.2.2 z hz) (Nat.le_refl _) (Nat.le_refl _)
theorem a_thrW (C : axC X l D Y cc nL RX11 (T0 :: BIG) rm rt) (hT : axT X 1 6 ws) (hl : l.stackTraces = false) (i : Nat) {is : Nat} {text : String} (hi : strT[i]? = some (RX11, is, text)) (d0 : decode cc pc = .ok (.new 146, 3)) (d3 : decode cc (pc + 3) = .ok (.dup, 1)) (d4 : decode cc (pc + 4) = .ok (.ldc_w is, 3)) (d6 : decode cc (pc + 7) = .ok (.invokespecial 150, 3)) (d9 : decode cc (pc + 10) = .ok (.athrow, 1)) (rr : 5 < rm.frames ∧ 82 ≤ rm.locals ∧ 0 + 1 ≤ rm.cells ∧ 0 + 6 ≤ rm.slots) : ax X 0 0 pc L ws [] := by
  obtain ⟨p, l9, e, R, s, m, args, below, meth, c, Q, D9, A, n9, Y9⟩ := X
  obtain ⟨⟨hx, hb, hml, hown, hts⟩, ⟨rfl, rfl, rfl, rfl, rfl, hr, hlocks⟩, hK, hA⟩ := C
  obtain ⟨hQ, hno⟩ := hT
  subst hQ
  intro H locs ls hP hD hS hlv
  exact vy_throwSW (own := RX11) (cls := NSE) (Y0 := NSR) (text := text) (names := NSN) (ik := 146) (is := is) (ic := 150) (ix := 13) (bytes := seB) (mc := 1) (ms := 6) (sa := Y9 (20 + i)) (A := A) hx hb hl se_0 se_1 se_2 se_5 hown (by decide) (by decide) (by decide) (hts _ (List.mem_cons_of_mem _ (inB21 _ (List.mem_of_getElem? (i := 2) rfl)))) (hts _ (List.mem_cons_of_mem _ (inB21 _ (List.mem_of_getElem? (i := 3) rfl)))) (hK.2.2.2.1 i _ hi) (ns_all (fun w hw => hts w (List.mem_cons_of_mem _ (inBx w hw))) (hts _ (List.mem_cons_of_mem _ (inB21 _ (List.mem_of_getElem? (i := 3) rfl))))) ns_ot hK.2.2.1.2.2.1 hK.2.2.1.2.2.2 hS (hlv.1.trans hml.symm) d0 d3 d4 d6 d9 (fun x hx => (hno x hx).elim) rr.1 rr.2.1 rr.2.2.1 rr.2.2.2 hlocks
    (fun t hvm hz hk => ⟨rfl, hP.kept (fun k q hq => hk q.1 (vx_lt hP hq)), Nat.le_trans hS.1 hz, fun q h1 h2 => (hk q (Nat.lt_of_lt_of_le h1 hS.1)).trans (hS.2.1 q h1 h2)⟩) (fun z hz => hS.2.2 z hz) (Nat.le_refl _) (Nat.le_refl _)
end AXT
