/-! ===== calls: the callee's world is a part of the caller's; what comes back is put at the same places ===== -/
def wSet : va_W → List Nat → va_W → va_W
  | ws, i :: is, c :: cs => wSet (ws.set i c) is cs
  | ws, _, _ => ws
theorem wSet_at : ∀ {is : List Nat} {w' ws : va_W} {k : Nat} {q : Nat × va_E}, is.length = w'.length → (wSet ws is w')[k]? = some q → (k ∉ is ∧ ws[k]? = some q) ∨ ∃ j : Nat, is[j]? = some k ∧ w'[j]? = some q := by
  intro is
  induction is with
  | nil => intro w' ws k q _ h; cases w' <;> exact Or.inl ⟨List.not_mem_nil, h⟩
  | cons i is ih =>
    intro w' ws k q hlen h
    cases w' with
    | nil => simp at hlen
    | cons c cs =>
      rcases ih (w' := cs) (ws := ws.set i c) (by simpa using hlen) h with ⟨h1, h2⟩ | ⟨j, h1, h2⟩
      · by_cases hk : i = k
        · subst hk
          have hlt : i < ws.length := by
            have := (List.getElem?_eq_some_iff.mp h2).1
            simpa using this
          rw [List.getElem?_set_self hlt] at h2
          exact Or.inr ⟨0, rfl, h2⟩
        · rw [List.getElem?_set_ne hk] at h2
          refine Or.inl ⟨fun z => ?_, h2⟩
          rcases List.mem_cons.mp z with z | z
          · exact hk z.symm
          · exact h1 z
      · exact Or.inr ⟨j + 1, h1, h2⟩
theorem wPick {is : List Nat} {ws w : va_W} (hC : is.map (fun i => ws[i]?) = w.map some) {k : Nat} {q : Nat × va_E} (hq : w[k]? = some q) : ∃ i : Nat, is[k]? = some i ∧ ws[i]? = some q := by
  have h1 : (is.map (fun i => ws[i]?))[k]? = some (some q) := by rw [hC, List.getElem?_map, hq]; rfl
  rw [List.getElem?_map] at h1
  cases hi : is[k]? with
  | none => rw [hi] at h1; cases h1
  | some i => rw [hi] at h1; exact ⟨i, rfl, Option.some.inj h1⟩
theorem wPick_len {is : List Nat} {ws w : va_W} (hC : is.map (fun i => ws[i]?) = w.map some) : is.length = w.length := by
  have := congrArg List.length hC
  simpa using this
theorem wPart_P {D : va_G} {cl : List vw_C} {is : List Nat} {ws w : va_W} {H : Heap} (hP : va_P D cl ws H) (hC : is.map (fun i => ws[i]?) = w.map some) : va_P D cl w H := by
  intro k q hq
  obtain ⟨i, -, h⟩ := wPick hC hq
  exact hP i q h
theorem wSet_adr {is : List Nat} {ws w w' : va_W} (hC : is.map (fun i => ws[i]?) = w.map some) (ha : w'.map Prod.fst = w.map Prod.fst) {k : Nat} {q : Nat × va_E} (hk : (wSet ws is w')[k]? = some q) : ∃ q0, ws[k]? = some q0 ∧ q0.1 = q.1 := by
  have hlen : is.length = w'.length := by rw [wPick_len hC]; have := congrArg List.length ha; simpa using this.symm
  rcases wSet_at hlen hk with ⟨-, h⟩ | ⟨j, h1, h2⟩
  · exact ⟨q, h, rfl⟩
  · have h3 : (w'.map Prod.fst)[j]? = some q.1 := by rw [List.getElem?_map, h2]; rfl
    rw [ha, List.getElem?_map] at h3
    cases hw : w[j]? with
    | none => rw [hw] at h3; cases h3
    | some q0 =>
      rw [hw] at h3
      obtain ⟨i, h4, h5⟩ := wPick hC hw
      cases Option.some.inj (h1.symm.trans h4)
      exact ⟨q0, h5, Option.some.inj h3⟩
theorem wSet_D {A : Nat → Prop} {is : List Nat} {ws w w' : va_W} (hD : va_D A ws) (hC : is.map (fun i => ws[i]?) = w.map some) (ha : w'.map Prod.fst = w.map Prod.fst) : va_D A (wSet ws is w') := by
  refine ⟨fun i j x y hi hj hxy => ?_, fun k q hk => ?_⟩
  · obtain ⟨x0, h1, h2⟩ := wSet_adr hC ha hi
    obtain ⟨y0, h3, h4⟩ := wSet_adr hC ha hj
    exact hD.1 i j x0 y0 h1 h3 (h2.trans (hxy.trans h4.symm))
  · obtain ⟨q0, h1, h2⟩ := wSet_adr hC ha hk
    rw [← h2]
    exact hD.2 k q0 h1
theorem wSet_P {D : va_G} {cl : List vw_C} {A : Nat → Prop} {is : List Nat} {ws w w' : va_W} {H H1 : Heap} (hP : va_P D cl ws H) (hD : va_D A ws) (hC : is.map (fun i => ws[i]?) = w.map some) (ha : w'.map Prod.fst = w.map Prod.fst) (hk : ∀ q : Nat, q < H.size → ¬ va_A w H.size q → H1[q]? = H[q]?) (hP1 : va_P D cl w' H1) : va_P D cl (wSet ws is w') H1 := by
  have hlen : is.length = w'.length := by rw [wPick_len hC]; have := congrArg List.length ha; simpa using this.symm
  intro k q hq
  rcases wSet_at hlen hq with ⟨h0, h⟩ | ⟨j, h1, h2⟩
  · have hl := (hP k q h).lt
    refine (hP k q h).kept (hk q.1 hl (fun z => ?_))
    rcases z with ⟨k2, e, z⟩ | z
    · obtain ⟨i, h3, h4⟩ := wPick hC z
      have hij := hD.1 k i q (q.1, e) h h4 rfl
      subst hij
      exact h0 (List.mem_of_getElem? h3)
    · omega
  · exact hP1 j q h2
section AXK
variable {p : Program} {l : Launch} {e : Env} {R : Room} {s : State} {m : MethodId} {args : Array Value} {below : List Frame} {meth : Method} {c : Code} {H : Heap} {locs : List Loc} {cells slots : Nat} {Q : State → Prop}
variable {pc : Nat} {ls : Array Slot} {rest st0 : List Value} {a : Array Value} {A0 : Nat → Prop} {H0 : Heap} {mc ms : Nat} {D : va_G} {w : va_W} {post : Option Value → va_W → Prop}
theorem a_run (hr : va_Run p l e R s m args below meth c H locs cells slots mc ms (F0 m pc ls st0) rest (amQ D (va_A w H.size) post a) (va_A w H.size)) (hS : va_S A0 H0 H locs) (hf : ∀ q, va_A w H.size q → A0 q)
    (kk : ∀ (r : Option Value) (w' : va_W) (H1 : Heap) (locs1 : List Loc), post r w' → va_P D vwCl w' H1 → va_D (va_A w H.size) w' → H.size ≤ H1.size → (∀ q : Nat, q < H.size → ¬ va_A w H.size q → H1[q]? = H[q]?) → va_S A0 H0 H1 locs1 → W p l e R s m args below meth c H1 locs1 (cells + mc) (slots + ms) Q (F0 m (pc + 3) ls (r.toList ++ rest))) : W p l e R s m args below meth c H locs cells slots Q (F0 m pc ls st0) := by
  intro T hT X
  obtain ⟨v, st₀, t, T', L, h0, X', hL, e1, e2, ⟨⟨r, w', hp, hv, hb, hd⟩, hz, hk⟩, st⟩ := hr T hT X
  cases hv
  rw [h0] at hz hk
  obtain ⟨t2, a1, b1⟩ := kk v w' T'.heap (locs ++ L) hp (by rw [e1]; exact hb) hd (by rw [e1]; exact hz) (fun q h1 h2 => by rw [e1]; exact hk q h1 h2)
    ⟨Nat.le_trans hS.1 (by rw [e1]; exact hz), fun q h1 h2 => by rw [e1, hk q (Nat.lt_of_lt_of_le h1 hS.1) (fun z => h2 (hf q z))]; exact hS.2.1 q h1 h2, fun q hq => by
      rcases List.mem_append.mp hq with h | h
      · exact hS.2.2 q h
      · exact hf _ (hL q h)⟩ T' rfl X'
  exact ⟨t2, st t2 a1, b1⟩
end AXK
theorem am_blind {D : va_G} {Y : Nat → ClassId} {av : List Value} {w : va_W} {sz : Nat} : FrameBlind (va_Pc av (fun U => U.heap.size = sz ∧ va_P D vwCl w U.heap ∧ vK D Y (va_A w sz) U ∧ va_D (fun _ => True) w)) :=
  fun a U g mk q => by
    obtain ⟨q0, q1, qP, qK, qD⟩ := q
    exact ⟨q0, q1, qP, vK.calling g mk a qK, qD⟩
section AXC
variable {X : cxT} {l : Launch} {D : va_G} {Y : Nat → ClassId} {cc : ByteArray} {nL : Nat} {own : String} {Ts : List Cond} {rm : Room} {rt : Option FieldType} {cs sl pc : Nat} {L : List (Option Value)} {ws : va_W} {st st0 : List Value}
variable {y : MethodName} {wy wy' : List Cond} {rmc : Room} {bytes : ByteArray} {maxL index mc ms : Nat} {rc : Option FieldType} {As : List Value} {b : Nat} {w : va_W} {post : Option Value → va_W → Prop} {Cn : String}
/-- an instance method; the receiver is the first cell of the callee's world -/
theorem a_callV (C : axC X l D Y cc nL own Ts rm rt) (hM : am l D Y y wy rmc (.ref b :: As) w mc ms post) (hg : GoodIn Ts (wsV own index Cn y wy)) (hw : wy = Cond.code y bytes maxL rc :: wy')
    (hd0 : y.cls = Cn ∧ y.cls ≠ "java/lang/invoke/MethodHandle" ∧ y.cls ≠ "java/lang/invoke/VarHandle" ∧ (parseMethodDescriptor y.desc).map (fun d => d.parameters.length) = some As.length)
    (hR : (rmc.cells = mc ∧ rmc.slots = ms) ∧ (rmc.frames + 1 ≤ rm.frames ∧ 8 + (maxL + 11) + rmc.locals ≤ rm.locals) ∧ (cs + mc ≤ rm.cells ∧ sl + ms ≤ rm.slots))
    (hst : st0 = As.reverse ++ .ref b :: st) (hWd : (st.map fun v => v.category).sum ≤ 8) (hdg : decode cc pc = .ok (.invokevirtual index, 3)) {ci N : Nat} {T : u_T} {fs : List Value} (hc : vwCl[ci]? = some (Cn, T, N)) (he : w[0]? = some (b, .inr (ci, fs)))
    (is : List Nat) (hC : is.map (fun i => ws[i]?) = w.map some) (hn : va_nd is = true) (ha : ∀ r w', post r w' → w'.map Prod.fst = w.map Prod.fst)
    (kk : ∀ r w', post r w' → ax X (cs + mc) (sl + ms) (pc + 3) L (wSet ws is w') (r.toList ++ st)) : ax X cs sl pc L ws st0 := by
  obtain ⟨p, l9, e, R, s, m, args, below, meth, c, Q, D9, A, n9, Y9⟩ := X
  obtain ⟨⟨hx, hb, hml, hown, hts⟩, ⟨rfl, rfl, rfl, rfl, rfl, hr, hlocks⟩, hK, hA⟩ := C
  intro H locs ls hP hD hS hl
  have hPc := wPart_P hP hC
  have hFc := va_free (wc := w) hD hS hA is hC
  have hDc : va_D (fun _ => True) w := (hD.sub is hn hC).weaken (fun _ _ _ _ => trivial)
  subst hst
  refine a_run (va_runV (As := As) (rest := st) ⟨hx, hb, hml, hown, hts⟩ (hM H.size) (cwV As.length hts hg hw hR.1.1 hR.1.2 hd0 hR.2.1) ⟨am_blind, va_recv hK.1 hPc hc he, fun U hU hW => ⟨rfl, by rw [hU], by rw [hU]; exact hPc, vK.call hW hU hS hFc hK, hDc⟩⟩ rfl rfl hl.1 rfl (lv_room hWd) hdg hR.2.2) hS hFc (fun r w' H1 locs1 hp hP1 hD1 hz hk hS1 => ?_)
  exact kk r w' hp H1 locs1 ls (wSet_P hP hD hC (ha r w' hp) hk hP1) (wSet_D hD hC (ha r w' hp)) hS1 hl
/-- a static method -/
theorem a_callS (C : axC X l D Y cc nL own Ts rm rt) (hM : am l D Y y wy rmc As w mc ms post) (hg : GoodIn Ts (va_wsS own index y wy)) (hw : wy = Cond.code y bytes maxL rc :: wy')
    (hd0 : y.cls ≠ "java/lang/invoke/MethodHandle" ∧ y.cls ≠ "java/lang/invoke/VarHandle" ∧ (parseMethodDescriptor y.desc).map (fun d => d.parameters.length) = some As.length)
    (hR : (rmc.cells = mc ∧ rmc.slots = ms) ∧ (rmc.frames + 1 ≤ rm.frames ∧ 8 + (maxL + 11) + rmc.locals ≤ rm.locals) ∧ (cs + mc ≤ rm.cells ∧ sl + ms ≤ rm.slots))
    (hst : st0 = As.reverse ++ st) (hWd : (st.map fun v => v.category).sum ≤ 8) (hdg : decode cc pc = .ok (.invokestatic index, 3))
    (is : List Nat) (hC : is.map (fun i => ws[i]?) = w.map some) (hn : va_nd is = true) (ha : ∀ r w', post r w' → w'.map Prod.fst = w.map Prod.fst)
    (kk : ∀ r w', post r w' → ax X (cs + mc) (sl + ms) (pc + 3) L (wSet ws is w') (r.toList ++ st)) : ax X cs sl pc L ws st0 := by
  obtain ⟨p, l9, e, R, s, m, args, below, meth, c, Q, D9, A, n9, Y9⟩ := X
  obtain ⟨⟨hx, hb, hml, hown, hts⟩, ⟨rfl, rfl, rfl, rfl, rfl, hr, hlocks⟩, hK, hA⟩ := C
  intro H locs ls hP hD hS hl
  have hPc := wPart_P hP hC
  have hFc := va_free (wc := w) hD hS hA is hC
  have hDc : va_D (fun _ => True) w := (hD.sub is hn hC).weaken (fun _ _ _ _ => trivial)
  subst hst
  refine a_run (va_runS (As := As) (rest := st) ⟨hx, hb, hml, hown, hts⟩ (hM H.size) (va_cwS As.length hts hg hw hR.1.1 hR.1.2 hd0 hR.2.1) ⟨am_blind, fun U hU hW => ⟨rfl, by rw [hU], by rw [hU]; exact hPc, vK.call hW hU hS hFc hK, hDc⟩⟩ rfl rfl hl.1 rfl (lv_room hWd) hdg hR.2.2) hS hFc (fun r w' H1 locs1 hp hP1 hD1 hz hk hS1 => ?_)
  exact kk r w' hp H1 locs1 ls (wSet_P hP hD hC (ha r w' hp) hk hP1) (wSet_D hD hC (ha r w' hp)) hS1 hl
/-- a private static method of a nest mate -/
theorem a_callSN (C : axC X l D Y cc nL own Ts rm rt) {host : String} (hM : am l D Y y wy rmc As w mc ms post) (hg : GoodIn Ts wy) (hw : wy = Cond.code y bytes maxL rc :: wy') (hN : (own, index, y, host) ∈ nestT) (hi : Cond.initialized y.cls ∈ Ts) (hst1 : Cond.static y ∈ Ts)
    (hd0 : y.cls ≠ "java/lang/invoke/MethodHandle" ∧ y.cls ≠ "java/lang/invoke/VarHandle" ∧ (parseMethodDescriptor y.desc).map (fun d => d.parameters.length) = some As.length)
    (hR : (rmc.cells = mc ∧ rmc.slots = ms) ∧ (rmc.frames + 1 ≤ rm.frames ∧ 8 + (maxL + 11) + rmc.locals ≤ rm.locals) ∧ (cs + mc ≤ rm.cells ∧ sl + ms ≤ rm.slots))
    (hst : st0 = As.reverse ++ st) (hWd : (st.map fun v => v.category).sum ≤ 8) (hdg : decode cc pc = .ok (.invokestatic index, 3))
    (is : List Nat) (hC : is.map (fun i => ws[i]?) = w.map some) (hn : va_nd is = true) (ha : ∀ r w', post r w' → w'.map Prod.fst = w.map Prod.fst)
    (kk : ∀ r w', post r w' → ax X (cs + mc) (sl + ms) (pc + 3) L (wSet ws is w') (r.toList ++ st)) : ax X cs sl pc L ws st0 := by
  obtain ⟨p, l9, e, R, s, m, args, below, meth, c, Q, D9, A, n9, Y9⟩ := X
  obtain ⟨⟨hx, hb, hml, hown, hts⟩, ⟨rfl, rfl, rfl, rfl, rfl, hr, hlocks⟩, hK, hA⟩ := C
  intro H locs ls hP hD hS hl
  have hPc := wPart_P hP hC
  have hFc := va_free (wc := w) hD hS hA is hC
  have hDc : va_D (fun _ => True) w := (hD.sub is hn hC).weaken (fun _ _ _ _ => trivial)
  subst hst
  refine a_run (va_runSN (As := As) (rest := st) ⟨hx, hb, hml, hown, hts⟩ (hM H.size) ⟨va_cnB (host := host) As.length hts hg hw hR.1.1 hR.1.2 (hK.2.1 _ hN) (hts _ hi) hd0 hR.2.1, hts _ hst1, trivial⟩ ⟨am_blind, fun U hU hW => ⟨rfl, by rw [hU], by rw [hU]; exact hPc, vK.call hW hU hS hFc hK, hDc⟩⟩ rfl rfl hl.1 rfl (lv_room hWd) hdg hR.2.2) hS hFc (fun r w' H1 locs1 hp hP1 hD1 hz hk hS1 => ?_)
  exact kk r w' hp H1 locs1 ls (wSet_P hP hD hC (ha r w' hp) hk hP1) (wSet_D hD hC (ha r w' hp)) hS1 hl
end AXC
/-! ===== the functions that are read off: an if without an else part, a bind, a branch ===== -/
theorem fx_ite {c : Prop} [Decidable c] {α : Type} {a : Option α} {r : α} (h : (if c then a else none) = some r) : c ∧ a = some r := by
  by_cases hc : c
  · rw [if_pos hc] at h; exact ⟨hc, h⟩
  · rw [if_neg hc] at h; cases h
theorem fx_t {c : Prop} [Decidable c] {α : Type} {a b : Option α} {r : α} (hc : c) (h : (if c then a else b) = some r) : a = some r := by rw [if_pos hc] at h; exact h
theorem fx_f {c : Prop} [Decidable c] {α : Type} {a b : Option α} {r : α} (hc : ¬ c) (h : (if c then a else b) = some r) : b = some r := by rw [if_neg hc] at h; exact h
theorem fx_bind {α β : Type} {x : Option α} {f : α → Option β} {r : β} (h : x.bind f = some r) : ∃ a, x = some a ∧ f a = some r := by
  cases x with
  | none => cases h
  | some a => exact ⟨a, rfl, h⟩
theorem fx_some {α : Type} {a r : α} (h : some a = some r) : a = r := Option.some.inj h
/-! ===== contracts that are functions ===== -/
def amf (l : Launch) (D : va_G) (Y : Nat → ClassId) (y : MethodName) (wy : List Cond) (rm : Room) (av : List Value) (w : va_W) (r : Option Value) (w' : va_W) : Prop := am l D Y y wy rm av w 0 0 (fun r' w'' => r' = r ∧ w'' = w')
theorem amf.of {l : Launch} {D : va_G} {Y : Nat → ClassId} {y : MethodName} {wy wy' : List Cond} {rm : Room} {av : List Value} {w w' : va_W} {r : Option Value} {cc : ByteArray} {maxL : Nat} {rt : Option FieldType}
    (hy : plainName y.cls = true) (hw : wy = Cond.code y cc maxL rt :: wy') (own : String) (hown : y.cls = own) (hn : (lg_sl av).length ≤ maxL) (L0 : List (Option Value)) (hL : lvOf 0 L0 = lv_args 0 av)
    (body : ∀ X : cxT, axC X l D Y cc maxL own wy rm rt → axQ X 0 0 (fun r' w'' => r' = r ∧ w'' = w') → ax X 0 0 0 L0 w []) : amf l D Y y wy rm av w r w' := am.of hy hw own hown hn L0 hL body
/-- the cells c at the places i -/
def wAt (ws : va_W) : List Nat → va_W → Prop
  | [], [] => True
  | i :: is, c :: cs => ws[i]? = some c ∧ wAt ws is cs
  | _, _ => False
/-- the same cells at the places i -/
def wSame (ws wn : va_W) : List Nat → Prop
  | [] => True
  | i :: is => wn[i]? = ws[i]? ∧ wSame ws wn is
theorem wAt_map : ∀ {ws : va_W} {is : List Nat} {w : va_W}, wAt ws is w → is.map (fun i => ws[i]?) = w.map some := by
  intro ws is
  induction is with
  | nil => intro w h; cases w with
    | nil => rfl
    | cons c cs => cases h
  | cons i is ih => intro w h; cases w with
    | nil => cases h
    | cons c cs =>
      obtain ⟨h1, h2⟩ := h
      rw [List.map_cons, List.map_cons, ih h2, h1]
theorem wSame_at : ∀ {ws wn : va_W} {ir : List Nat}, wSame ws wn ir → ∀ k ∈ ir, wn[k]? = ws[k]? := by
  intro ws wn ir
  induction ir with
  | nil => intro _ k h; cases h
  | cons i ir ih =>
    intro h k hk
    rcases List.mem_cons.mp hk with e | e
    · subst e; exact h.1
    · exact ih h.2 k e
/-- every place is in one of the two lists -/
def wCov (n : Nat) (is ir : List Nat) : Bool := (List.range n).all (fun k => is.contains k || ir.contains k)
theorem wCov_at {n : Nat} {is ir : List Nat} (h : wCov n is ir = true) {k : Nat} (hk : k < n) : k ∈ is ∨ k ∈ ir := by
  have h1 := List.all_eq_true.mp h k (List.mem_range.mpr hk)
  rcases Bool.or_eq_true _ _ ▸ h1 with h2 | h2
  · exact Or.inl (List.contains_iff_mem.mp h2)
  · exact Or.inr (List.contains_iff_mem.mp h2)
/-- the world behind a call, place by place -/
theorem wNew {D : va_G} {A : Nat → Prop} {is ir : List Nat} {ws w w' wn : va_W} {H H1 : Heap} (hP : va_P D vwCl ws H) (hD : va_D A ws) (hC : wAt ws is w) (ha : w'.map Prod.fst = w.map Prod.fst) (h1 : wAt wn is w') (h2 : wSame ws wn ir) (hcov : wCov wn.length is ir = true)
    (hk : ∀ q : Nat, q < H.size → ¬ va_A w H.size q → H1[q]? = H[q]?) (hP1 : va_P D vwCl w' H1) : va_P D vwCl wn H1 ∧ va_D A wn := by
  have hC' := wAt_map hC
  have h1' := wAt_map h1
  have key : ∀ (k : Nat) (q : Nat × va_E), wn[k]? = some q → (∃ j : Nat, is[j]? = some k ∧ w'[j]? = some q) ∨ (k ∉ is ∧ ws[k]? = some q) := by
    intro k q hq
    have hlt := (List.getElem?_eq_some_iff.mp hq).1
    by_cases hm : k ∈ is
    · obtain ⟨j, hj⟩ := List.getElem?_of_mem hm
      refine Or.inl ⟨j, hj, ?_⟩
      have e : (is.map (fun i => wn[i]?))[j]? = some (some q) := by rw [List.getElem?_map, hj]; simp [hq]
      rw [h1', List.getElem?_map] at e
      cases hw : w'[j]? with
      | none => rw [hw] at e; cases e
      | some q' => rw [hw] at e; exact Option.some.inj e
    · rcases wCov_at hcov hlt with h | h
      · exact absurd h hm
      · exact Or.inr ⟨hm, by rw [← wSame_at h2 k h]; exact hq⟩
  have adr : ∀ (k : Nat) (q : Nat × va_E), wn[k]? = some q → ∃ q0, ws[k]? = some q0 ∧ q0.1 = q.1 := by
    intro k q hq
    rcases key k q hq with ⟨j, hj, hw⟩ | ⟨-, h⟩
    · have h3 : (w'.map Prod.fst)[j]? = some q.1 := by rw [List.getElem?_map, hw]; rfl
      rw [ha, List.getElem?_map] at h3
      cases hw0 : w[j]? with
      | none => rw [hw0] at h3; cases h3
      | some q0 =>
        rw [hw0] at h3
        obtain ⟨i, h4, h5⟩ := wPick hC' hw0
        cases Option.some.inj (hj.symm.trans h4)
        exact ⟨q0, h5, Option.some.inj h3⟩
    · exact ⟨q, h, rfl⟩
  refine ⟨fun k q hq => ?_, fun i j x y hi hj hxy => ?_, fun k q hq => ?_⟩
  · rcases key k q hq with ⟨j, hj, hw⟩ | ⟨hm, h⟩
    · exact hP1 j q hw
    · have hl := (hP k q h).lt
      refine (hP k q h).kept (hk q.1 hl (fun z => ?_))
      rcases z with ⟨k2, e, z⟩ | z
      · obtain ⟨i, h3, h4⟩ := wPick hC' z
        have hij := hD.1 k i q (q.1, e) h h4 rfl
        subst hij
        exact hm (List.mem_of_getElem? h3)
      · omega
  · obtain ⟨x0, e1, e2⟩ := adr i x hi
    obtain ⟨y0, e3, e4⟩ := adr j y hj
    exact hD.1 i j x0 y0 e1 e3 (e2.trans (hxy.trans e4.symm))
  · obtain ⟨q0, e1, e2⟩ := adr k q hq
    rw [← e2]
    exact hD.2 k q0 e1
section AXF
variable {X : cxT} {l : Launch} {D : va_G} {Y : Nat → ClassId} {cc : ByteArray} {nL : Nat} {own : String} {Ts : List Cond} {rm : Room} {rt : Option FieldType} {cs sl pc : Nat} {L : List (Option Value)} {ws : va_W} {st st0 : List Value}
variable {y : MethodName} {wy wy' : List Cond} {rmc : Room} {bytes : ByteArray} {maxL index : Nat} {rc : Option FieldType} {As : List Value} {b : Nat} {w w' : va_W} {r : Option Value} {Cn : String}
theorem a_fV (C : axC X l D Y cc nL own Ts rm rt) (hM : amf l D Y y wy rmc (.ref b :: As) w r w') (hg : GoodIn Ts (wsV own index Cn y wy)) (hw : wy = Cond.code y bytes maxL rc :: wy')
    (hd0 : y.cls = Cn ∧ y.cls ≠ "java/lang/invoke/MethodHandle" ∧ y.cls ≠ "java/lang/invoke/VarHandle" ∧ (parseMethodDescriptor y.desc).map (fun d => d.parameters.length) = some As.length)
    (hR : (rmc.cells = 0 ∧ rmc.slots = 0) ∧ (rmc.frames + 1 ≤ rm.frames ∧ 8 + (maxL + 11) + rmc.locals ≤ rm.locals) ∧ (cs + 0 ≤ rm.cells ∧ sl + 0 ≤ rm.slots))
    (hst : st0 = As.reverse ++ .ref b :: st) (hWd : (st.map fun v => v.category).sum ≤ 8) (hdg : decode cc pc = .ok (.invokevirtual index, 3)) {ci N : Nat} {T : u_T} {fs : List Value} (hc : vwCl[ci]? = some (Cn, T, N)) (he : w[0]? = some (b, .inr (ci, fs)))
    (is ir : List Nat) (hC : wAt ws is w) (hn : va_nd is = true) (ha : w'.map Prod.fst = w.map Prod.fst) (wn : va_W) (h1 : wAt wn is w') (h2 : wSame ws wn ir) (n9 : Nat) (hlen : wn.length = n9) (hcov : wCov n9 is ir = true)
    (kk : ax X cs sl (pc + 3) L wn (r.toList ++ st)) : ax X cs sl pc L ws st0 := by
  obtain ⟨p, l9, e, R, s, m, args, below, meth, c, Q, D9, A, n9, Y9⟩ := X
  obtain ⟨⟨hx, hb, hml, hown, hts⟩, ⟨rfl, rfl, rfl, rfl, rfl, hr, hlocks⟩, hK, hA⟩ := C
  intro H locs ls hP hD hS hl
  have hPc := wPart_P hP (wAt_map hC)
  have hFc := va_free (wc := w) hD hS hA is (wAt_map hC)
  have hDc : va_D (fun _ => True) w := (hD.sub is hn (wAt_map hC)).weaken (fun _ _ _ _ => trivial)
  subst hst
  refine a_run (va_runV (As := As) (rest := st) ⟨hx, hb, hml, hown, hts⟩ (hM H.size) (cwV As.length hts hg hw hR.1.1 hR.1.2 hd0 hR.2.1) ⟨am_blind, va_recv hK.1 hPc hc he, fun U hU hW => ⟨rfl, by rw [hU], by rw [hU]; exact hPc, vK.call hW hU hS hFc hK, hDc⟩⟩ rfl rfl hl.1 rfl (lv_room hWd) hdg hR.2.2) hS hFc (fun r9 w9 H1 locs1 hp hP1 hD1 hz hk hS1 => ?_)
  obtain ⟨rfl, rfl⟩ := hp
  obtain ⟨hP2, hD2⟩ := wNew hP hD hC ha h1 h2 (by rw [hlen]; exact hcov) hk hP1
  exact kk H1 locs1 ls hP2 hD2 hS1 hl
theorem a_fS (C : axC X l D Y cc nL own Ts rm rt) (hM : amf l D Y y wy rmc As w r w') (hg : GoodIn Ts (va_wsS own index y wy)) (hw : wy = Cond.code y bytes maxL rc :: wy')
    (hd0 : y.cls ≠ "java/lang/invoke/MethodHandle" ∧ y.cls ≠ "java/lang/invoke/VarHandle" ∧ (parseMethodDescriptor y.desc).map (fun d => d.parameters.length) = some As.length)
    (hR : (rmc.cells = 0 ∧ rmc.slots = 0) ∧ (rmc.frames + 1 ≤ rm.frames ∧ 8 + (maxL + 11) + rmc.locals ≤ rm.locals) ∧ (cs + 0 ≤ rm.cells ∧ sl + 0 ≤ rm.slots))
    (hst : st0 = As.reverse ++ st) (hWd : (st.map fun v => v.category).sum ≤ 8) (hdg : decode cc pc = .ok (.invokestatic index, 3))
    (is ir : List Nat) (hC : wAt ws is w) (hn : va_nd is = true) (ha : w'.map Prod.fst = w.map Prod.fst) (wn : va_W) (h1 : wAt wn is w') (h2 : wSame ws wn ir) (n9 : Nat) (hlen : wn.length = n9) (hcov : wCov n9 is ir = true)
    (kk : ax X cs sl (pc + 3) L wn (r.toList ++ st)) : ax X cs sl pc L ws st0 := by
  obtain ⟨p, l9, e, R, s, m, args, below, meth, c, Q, D9, A, n9, Y9⟩ := X
  obtain ⟨⟨hx, hb, hml, hown, hts⟩, ⟨rfl, rfl, rfl, rfl, rfl, hr, hlocks⟩, hK, hA⟩ := C
  intro H locs ls hP hD hS hl
  have hPc := wPart_P hP (wAt_map hC)
  have hFc := va_free (wc := w) hD hS hA is (wAt_map hC)
  have hDc : va_D (fun _ => True) w := (hD.sub is hn (wAt_map hC)).weaken (fun _ _ _ _ => trivial)
  subst hst
  refine a_run (va_runS (As := As) (rest := st) ⟨hx, hb, hml, hown, hts⟩ (hM H.size) (va_cwS As.length hts hg hw hR.1.1 hR.1.2 hd0 hR.2.1) ⟨am_blind, fun U hU hW => ⟨rfl, by rw [hU], by rw [hU]; exact hPc, vK.call hW hU hS hFc hK, hDc⟩⟩ rfl rfl hl.1 rfl (lv_room hWd) hdg hR.2.2) hS hFc (fun r9 w9 H1 locs1 hp hP1 hD1 hz hk hS1 => ?_)
  obtain ⟨rfl, rfl⟩ := hp
  obtain ⟨hP2, hD2⟩ := wNew hP hD hC ha h1 h2 (by rw [hlen]; exact hcov) hk hP1
  exact kk H1 locs1 ls hP2 hD2 hS1 hl
theorem a_fN (C : axC X l D Y cc nL own Ts rm rt) (host : String) (hM : amf l D Y y wy rmc As w r w') (hg : GoodIn Ts wy) (hw : wy = Cond.code y bytes maxL rc :: wy') (hN : (own, index, y, host) ∈ nestT) (hi : Cond.initialized y.cls ∈ Ts) (hst1 : Cond.static y ∈ Ts)
    (hd0 : y.cls ≠ "java/lang/invoke/MethodHandle" ∧ y.cls ≠ "java/lang/invoke/VarHandle" ∧ (parseMethodDescriptor y.desc).map (fun d => d.parameters.length) = some As.length)
    (hR : (rmc.cells = 0 ∧ rmc.slots = 0) ∧ (rmc.frames + 1 ≤ rm.frames ∧ 8 + (maxL + 11) + rmc.locals ≤ rm.locals) ∧ (cs + 0 ≤ rm.cells ∧ sl + 0 ≤ rm.slots))
    (hst : st0 = As.reverse ++ st) (hWd : (st.map fun v => v.category).sum ≤ 8) (hdg : decode cc pc = .ok (.invokestatic index, 3))
    (is ir : List Nat) (hC : wAt ws is w) (hn : va_nd is = true) (ha : w'.map Prod.fst = w.map Prod.fst) (wn : va_W) (h1 : wAt wn is w') (h2 : wSame ws wn ir) (n9 : Nat) (hlen : wn.length = n9) (hcov : wCov n9 is ir = true)
    (kk : ax X cs sl (pc + 3) L wn (r.toList ++ st)) : ax X cs sl pc L ws st0 := by
  obtain ⟨p, l9, e, R, s, m, args, below, meth, c, Q, D9, A, n9, Y9⟩ := X
  obtain ⟨⟨hx, hb, hml, hown, hts⟩, ⟨rfl, rfl, rfl, rfl, rfl, hr, hlocks⟩, hK, hA⟩ := C
  intro H locs ls hP hD hS hl
  have hPc := wPart_P hP (wAt_map hC)
  have hFc := va_free (wc := w) hD hS hA is (wAt_map hC)
  have hDc : va_D (fun _ => True) w := (hD.sub is hn (wAt_map hC)).weaken (fun _ _ _ _ => trivial)
  subst hst
  refine a_run (va_runSN (As := As) (rest := st) ⟨hx, hb, hml, hown, hts⟩ (hM H.size) ⟨va_cnB (host := host) As.length hts hg hw hR.1.1 hR.1.2 (hK.2.1 _ hN) (hts _ hi) hd0 hR.2.1, hts _ hst1, trivial⟩ ⟨am_blind, fun U hU hW => ⟨rfl, by rw [hU], by rw [hU]; exact hPc, vK.call hW hU hS hFc hK, hDc⟩⟩ rfl rfl hl.1 rfl (lv_room hWd) hdg hR.2.2) hS hFc (fun r9 w9 H1 locs1 hp hP1 hD1 hz hk hS1 => ?_)
  obtain ⟨rfl, rfl⟩ := hp
  obtain ⟨hP2, hD2⟩ := wNew hP hD hC ha h1 h2 (by rw [hlen]; exact hcov) hk hP1
  exact kk H1 locs1 ls hP2 hD2 hS1 hl
end AXF
/-! ===== calls whose world comes back at other addresses; the world in another order ===== -/
def swA (i j : Nat) (a : Nat → Nat) : Nat → Nat := fun k => if k = i then a j else if k = j then a i else a k
section AXG
variable {X : cxT} {l : Launch} {D : va_G} {Y : Nat → ClassId} {cc : ByteArray} {nL : Nat} {own : String} {Ts : List Cond} {rm : Room} {rt : Option FieldType} {cs sl pc : Nat} {L : List (Option Value)} {ws : va_W} {st st0 : List Value}
variable {y : MethodName} {wy wy' : List Cond} {rmc : Room} {bytes : ByteArray} {maxL index mc ms : Nat} {rc : Option FieldType} {As : List Value} {b : Nat} {w : va_W} {post : Option Value → va_W → Prop} {Cn : String}
theorem a_perm (js : List Nat) (wn : va_W) (h0 : wAt ws js wn) (hn : va_nd js = true) (k : ax X cs sl pc L wn st) : ax X cs sl pc L ws st := by
  obtain ⟨p, l9, e, R, s, m, args, below, meth, c, Q, D9, A, n9, Y9⟩ := X
  have h := wAt_map h0
  intro H locs ls hP hD hS hl
  exact k H locs ls (wPart_P hP h) (hD.sub js hn h) hS hl
theorem a_gV (C : axC X l D Y cc nL own Ts rm rt) (hM : am l D Y y wy rmc (.ref b :: As) w mc ms post) (hg : GoodIn Ts (wsV own index Cn y wy)) (hw : wy = Cond.code y bytes maxL rc :: wy')
    (hd0 : y.cls = Cn ∧ y.cls ≠ "java/lang/invoke/MethodHandle" ∧ y.cls ≠ "java/lang/invoke/VarHandle" ∧ (parseMethodDescriptor y.desc).map (fun d => d.parameters.length) = some As.length)
    (hR : (rmc.cells = mc ∧ rmc.slots = ms) ∧ (rmc.frames + 1 ≤ rm.frames ∧ 8 + (maxL + 11) + rmc.locals ≤ rm.locals) ∧ (cs + mc ≤ rm.cells ∧ sl + ms ≤ rm.slots))
    (hst : st0 = As.reverse ++ .ref b :: st) (hWd : (st.map fun v => v.category).sum ≤ 8) (hdg : decode cc pc = .ok (.invokevirtual index, 3)) {ci N : Nat} {T : u_T} {fs : List Value} (hc : vwCl[ci]? = some (Cn, T, N)) (he : w[0]? = some (b, .inr (ci, fs)))
    (is ir : List Nat) (hC0 : wAt ws is w) (hn : va_nd is = true) (wr : va_W) (hR0 : wAt ws ir wr) (hnr : va_nd ir = true) (hdis : ∀ i ∈ ir, i ∉ is)
    (kk : ∀ r w', post r w' → ax X (cs + mc) (sl + ms) (pc + 3) L (wr ++ w') (r.toList ++ st)) : ax X cs sl pc L ws st0 := by
  obtain ⟨p, l9, e, R, s, m, args, below, meth, c, Q, D9, A, n9, Y9⟩ := X
  obtain ⟨⟨hx, hb, hml, hown, hts⟩, ⟨rfl, rfl, rfl, rfl, rfl, hr, hlocks⟩, hK, hA⟩ := C
  have hC := wAt_map hC0
  have hR1 := wAt_map hR0
  intro H locs ls hP hD hS hl
  have hPc := wPart_P hP hC
  have hFc := va_free (wc := w) hD hS hA is hC
  have hDc : va_D (fun _ => True) w := (hD.sub is hn hC).weaken (fun _ _ _ _ => trivial)
  subst hst
  refine a_run (va_runV (As := As) (rest := st) ⟨hx, hb, hml, hown, hts⟩ (hM H.size) (cwV As.length hts hg hw hR.1.1 hR.1.2 hd0 hR.2.1) ⟨am_blind, va_recv hK.1 hPc hc he, fun U hU hW => ⟨rfl, by rw [hU], by rw [hU]; exact hPc, vK.call hW hU hS hFc hK, hDc⟩⟩ rfl rfl hl.1 rfl (lv_room hWd) hdg hR.2.2) hS hFc (fun r w' H1 locs1 hp hP1 hD1 hz hk hS1 => ?_)
  obtain ⟨hP2, hD2⟩ := va_join hP hD is ir hC hR1 hnr hdis hk hFc hP1 hD1
  exact kk r w' hp H1 locs1 ls hP2 hD2 hS1 hl
end AXG
