/-! ===== what lies outside: Law.PLAIN, the model's texts ===== -/
section AXS
variable {X : cxT} {l : Launch} {D : va_G} {Y : Nat → ClassId} {cc : ByteArray} {nL : Nat} {own : String} {Ts : List Cond} {rm : Room} {rt : Option FieldType} {cs sl pc : Nat} {L : List (Option Value)} {ws : va_W} {st st0 : List Value}
theorem a_plain (C : axC X l D Y cc nL own Ts rm rt) {index : Nat} (hd : decode cc pc = .ok (.getstatic index, 3)) (hlk : Cond.fieldLink own index RX6 "PLAIN" "[I" ∈ Ts) (kk : ax X cs sl (pc + 3) L ws (.ref (Y 10) :: st)) : ax X cs sl pc L ws st := by
  obtain ⟨p, l9, e, R, s, m, args, below, meth, c, Q, D9, A, n9, Y9⟩ := X
  obtain ⟨⟨hx, hb, hml, hown, hts⟩, ⟨rfl, rfl, rfl, rfl, rfl, hr, hlocks⟩, hK, hA⟩ := C
  intro H locs ls hP hD hS hl
  exact va_gets hx hb hK.2.2.1.1.1 hS hown (hts _ hlk) (fun _ h => h) hd (kk H locs ls hP hD hS hl)
theorem a_plainlen (C : axC X l D Y cc nL own Ts rm rt) (hd : decode cc pc = .ok (.arraylength, 1)) (kk : ax X cs sl (pc + 1) L ws (.int 9 :: st)) : ax X cs sl pc L ws (.ref (Y 10) :: st) := by
  obtain ⟨p, l9, e, R, s, m, args, below, meth, c, Q, D9, A, n9, Y9⟩ := X
  obtain ⟨⟨hx, hb, hml, hown, hts⟩, ⟨rfl, rfl, rfl, rfl, rfl, hr, hlocks⟩, hK, hA⟩ := C
  intro H locs ls hP hD hS hl
  exact va_tlen hx hb hK.2.2.1.1.2 hS (by decide) hd (kk H locs ls hP hD hS hl)
/-- a row that lies outside is copied into one of the world -/
theorem a_plaincopy (C : axC X l D Y cc nL own Ts rm rt) {index : Nat} (hd : decode cc pc = .ok (.invokestatic index, 3)) (hlk : ∀ w ∈ ([.methodLink own index arraycopyName, .native arraycopyName, .static arraycopyName, .initialized "java/lang/System"] : List Cond), w ∈ Ts) (hroom : 1 ≤ rm.frames ∧ 8 + (nativeFrameWords "java/lang/System" "arraycopy" 5 + 11) ≤ rm.locals) (hW : (st.map fun v => v.category).sum ≤ 8) {a n1 : Nat} {g : Nat → Int32} {sp dp n : Int32} (q1 : Nat) (ha1 : ws[q1]? = some (a, .inl (Y 1, n1, .inl g)))
    (h1 : ¬ sp < 0) (h2 : ¬ dp < 0) (h3 : ¬ n < 0) (h4 : sp.toNatClampNeg + n.toNatClampNeg ≤ 9) (h5 : dp.toNatClampNeg + n.toNatClampNeg ≤ n1)
    (kk : ax X cs sl (pc + 3) L (ws.set q1 (a, .inl (Y 1, n1, .inl (va_cpy plainF g sp.toNatClampNeg dp.toNatClampNeg n.toNatClampNeg)))) st) : ax X cs sl pc L ws (.int n :: .int dp :: .ref a :: .int sp :: .ref (Y 10) :: st) := by
  obtain ⟨p, l9, e, R, s, m, args, below, meth, c, Q, D9, A, n9, Y9⟩ := X
  obtain ⟨⟨hx, hb, hml, hown, hts⟩, ⟨rfl, rfl, rfl, rfl, rfl, hr, hlocks⟩, hK, hA⟩ := C
  intro H locs ls hP hD hS hl
  have nn : ∀ z : Int32, ¬ z < 0 → z.toInt = (z.toNatClampNeg : Int) := by
    intro z hz
    have hz0 : (0 : Int) ≤ z.toInt := by
      have := Int32.not_lt.mp hz
      simpa using Int32.le_iff_toInt_le.mp this
    show z.toInt = ((z.toInt.toNat : Nat) : Int)
    omega
  have hX := hK.2.2.1.1.2
  intro T hT X0
  obtain ⟨scr, hs1, hs2, hs3, hs4, -, hs5, hs7⟩ := hX
  have hc0 : H[Y9 10]? = some scr := by rw [hS.2.1 (Y9 10) (Array.getElem?_eq_some_iff.mp hs1).1 hs7]; exact hs1
  have hc1 : H[a]? = some (vp_cell (Y9 1) (n1, .inl g)) := hP q1 _ ha1
  obtain ⟨hs6, k0, hk0, cm0, hkk0⟩ := hs2
  obtain ⟨-, k1, hk1, cm1, hkk1⟩ := (hK.1.2 1 (Y9 1, .int) rfl).1 n1 (fun j => .int (g j))
  obtain ⟨vm', X', step⟩ := X0.arraycopy hx hown (hts (.methodLink own index arraycopyName) (hlk _ (by simp))) (hts (.native arraycopyName) (hlk _ (by simp))) (hts (.static arraycopyName) (hlk _ (by simp))) (hts (.initialized "java/lang/System") (hlk _ (by simp))) (src := Y9 10) (dst := a) (cs := scr) (cd := vp_cell (Y9 1) (n1, .inl g)) (srcPos := sp) (destPos := dp) (n := n) (by rw [hT]; exact hc0) (by rw [hT]; exact hc1)
    hs6 (fun _ h => by cases h) hs3 (fun h => by cases h) hk0 hk1 hkk0 hkk1 (by simp [refKind]) h1 h2 h3
    (by rw [nn sp h1, nn n h3]; omega)
    (by rw [nn dp h2, nn n h3]; show ¬ _ > ((arrV (Y9 1) n1 (fun j => .int (g j))).slots.size : Int); rw [arrV_size]; omega)
    (fun vm₁ _ i hi => by
      have e : scr.slots.getD (sp.toNatClampNeg + i) .null = .int (plainF (sp.toNatClampNeg + i)) := by
        rw [Array.getD_eq_getD_getElem?, hs5 _ (by omega)]
        rfl
      refine ⟨?_, ?_⟩
      · rw [e]
        rfl
      · rw [e]
        exact trivial)
    (g := F0 m pc ls (.int n :: .int dp :: .ref a :: .int sp :: .ref (Y9 10) :: st)) rfl (by rw [hml]; exact hl.1) (rest := st) rfl (by rw [hb]; exact hd) hroom.1 (by show 2 * 0 + _ + _ ≤ _; have := hroom.2; omega)
  have e1 : copied scr (vp_cell (Y9 1) (n1, .inl g)) sp dp n = vp_cell (Y9 1) (n1, .inl (va_cpy plainF g sp.toNatClampNeg dp.toNatClampNeg n.toNatClampNeg)) := va_copiedX (fun z => .int z) scr (Y9 1) plainF g hs5 h4
  rw [e1] at X' step
  have hl1 : a < H.size := (Array.getElem?_eq_some_iff.mp hc1).1
  have hheap : ((T.setVm vm').setCell a (vp_cell (Y9 1) (n1, .inl (va_cpy plainF g sp.toNatClampNeg dp.toNatClampNeg n.toNatClampNeg)))).heap = H.setIfInBounds a (vp_cell (Y9 1) (n1, .inl (va_cpy plainF g sp.toNatClampNeg dp.toNatClampNeg n.toNatClampNeg))) := by rw [← hT]; rfl
  have oq : ∀ q : Nat, q ≠ a → (H.setIfInBounds a (vp_cell (Y9 1) (n1, .inl (va_cpy plainF g sp.toNatClampNeg dp.toNatClampNeg n.toNatClampNeg))))[q]? = H[q]? := fun q hq => by simp [Array.getElem?_setIfInBounds, Ne.symm hq]
  obtain ⟨t, a1, b1⟩ := kk (H.setIfInBounds a (vp_cell (Y9 1) (n1, .inl (va_cpy plainF g sp.toNatClampNeg dp.toNatClampNeg n.toNatClampNeg)))) _ ls (hP.set hD ha1 (show (H.setIfInBounds a _)[a]? = some _ by simp [Array.getElem?_setIfInBounds, hl1]) oq) (hD.set ha1) ⟨by simp; exact hS.1, fun q g1 g2 => by
      rw [oq q (fun e => g2 (by rw [e]; exact hD.2 q1 _ ha1))]
      exact hS.2.1 q g1 g2, fun q hq => by
      rcases List.mem_append.mp hq with h | h
      · exact hS.2.2 q h
      · obtain ⟨z, -, hz⟩ := List.mem_map.mp h
        rw [← hz]
        exact hD.2 q1 _ ha1⟩ hl _ hheap X'
  exact ⟨t, step t a1, b1⟩
theorem a_ldcS (C : axC X l D Y cc nL own Ts rm rt) {index : Nat} (i : Nat) {tx : String} (hd : decode cc pc = .ok (.ldc index, 2)) (hi : strT[i]? = some (own, index, tx)) (kk : ax X cs sl (pc + 2) L ws (.ref (Y (20 + i)) :: st)) : ax X cs sl pc L ws st := by
  obtain ⟨p, l9, e, R, s, m, args, below, meth, c, Q, D9, A, n9, Y9⟩ := X
  obtain ⟨⟨hx, hb, hml, hown, hts⟩, ⟨rfl, rfl, rfl, rfl, rfl, hr, hlocks⟩, hK, hA⟩ := C
  intro H locs ls hP hD hS hl
  exact va_ldcS hx hb hown (hK.2.2.2.1 i _ hi) hd (kk H locs ls hP hD hS hl)
theorem a_ldcSW (C : axC X l D Y cc nL own Ts rm rt) {index : Nat} (i : Nat) {tx : String} (hd : decode cc pc = .ok (.ldc_w index, 3)) (hi : strT[i]? = some (own, index, tx)) (kk : ax X cs sl (pc + 3) L ws (.ref (Y (20 + i)) :: st)) : ax X cs sl pc L ws st := by
  obtain ⟨p, l9, e, R, s, m, args, below, meth, c, Q, D9, A, n9, Y9⟩ := X
  obtain ⟨⟨hx, hb, hml, hown, hts⟩, ⟨rfl, rfl, rfl, rfl, rfl, hr, hlocks⟩, hK, hA⟩ := C
  intro H locs ls hP hD hS hl T hT X0
  have hZ := hK.2.2.2.1 i _ hi
  obtain ⟨t, a1, b1⟩ := kk H locs ls hP hD hS hl T hT X0
  exact ⟨t, X0.ldcStringW hx hown (text := tx) (a := Y9 (20 + i)) hZ.1 hZ.2 (g := F0 m pc ls st) rfl (by rw [hb]; exact hd) t a1, b1⟩
/-- COMPACT_STRINGS is 1 -/
theorem a_compact (C : axC X l D Y cc nL own Ts rm rt) {index : Nat} (hd : decode cc pc = .ok (.getstatic index, 3)) (hlk : Cond.fieldLink own index "java/lang/String" "COMPACT_STRINGS" "Z" ∈ Ts) (kk : ax X cs sl (pc + 3) L ws (.int 1 :: st)) : ax X cs sl pc L ws st := by
  obtain ⟨p, l9, e, R, s, m, args, below, meth, c, Q, D9, A, n9, Y9⟩ := X
  obtain ⟨⟨hx, hb, hml, hown, hts⟩, ⟨rfl, rfl, rfl, rfl, rfl, hr, hlocks⟩, hK, hA⟩ := C
  intro H locs ls hP hD hS hl
  exact va_gets hx hb hK.2.2.1.2.1.1 hS hown (hts _ hlk) (fun _ h => h) hd (kk H locs ls hP hD hS hl)
/-- SIOOBE_FORMATTER is something -/
theorem a_former (C : axC X l D Y cc nL own Ts rm rt) {index : Nat} (hd : decode cc pc = .ok (.getstatic index, 3)) (hlk : Cond.fieldLink own index "jdk/internal/util/Preconditions" "SIOOBE_FORMATTER" "Ljava/util/function/BiFunction;" ∈ Ts) (kk : ∀ v : Value, (v = .null ∨ ∃ t, v = .ref t) → ax X cs sl (pc + 3) L ws (v :: st)) : ax X cs sl pc L ws st := by
  obtain ⟨p, l9, e, R, s, m, args, below, meth, c, Q, D9, A, n9, Y9⟩ := X
  obtain ⟨⟨hx, hb, hml, hown, hts⟩, ⟨rfl, rfl, rfl, rfl, rfl, hr, hlocks⟩, hK, hA⟩ := C
  intro H locs ls hP hD hS hl
  rcases hK.2.2.1.2.1.2.1 with h | ⟨t, h⟩
  · exact va_gets hx hb h hS hown (hts _ hlk) (fun _ h => h) hd (kk _ (Or.inl rfl) H locs ls hP hD hS hl)
  · exact va_gets hx hb h hS hown (hts _ hlk) (fun _ h => h) hd (kk _ (Or.inr ⟨t, rfl⟩) H locs ls hP hD hS hl)
/-- a text's coder and bytes -/
theorem a_scoder (C : axC X l D Y cc nL own Ts rm rt) {index i : Nat} (hi : i < 7) (hd : decode cc pc = .ok (.getfield index, 3)) (hlk : Cond.fieldLink own index "java/lang/String" "coder" "B" ∈ Ts) (kk : ax X cs sl (pc + 3) L ws (.int 0 :: st)) : ax X cs sl pc L ws (.ref (Y (25 + i)) :: st) := by
  obtain ⟨p, l9, e, R, s, m, args, below, meth, c, Q, D9, A, n9, Y9⟩ := X
  obtain ⟨⟨hx, hb, hml, hown, hts⟩, ⟨rfl, rfl, rfl, rfl, rfl, hr, hlocks⟩, hK, hA⟩ := C
  intro H locs ls hP hD hS hl
  exact vk_getf hx hb (hK.2.2.1.2.1.2.2.1 i hi).2.1 hS hown (hts _ hlk) (fun _ h => h) hd (kk H locs ls hP hD hS hl)
theorem a_svalue (C : axC X l D Y cc nL own Ts rm rt) {index i : Nat} (hi : i < 7) (hd : decode cc pc = .ok (.getfield index, 3)) (hlk : Cond.fieldLink own index "java/lang/String" "value" "[B" ∈ Ts) (kk : ax X cs sl (pc + 3) L ws (.ref (Y (40 + i)) :: st)) : ax X cs sl pc L ws (.ref (Y (25 + i)) :: st) := by
  obtain ⟨p, l9, e, R, s, m, args, below, meth, c, Q, D9, A, n9, Y9⟩ := X
  obtain ⟨⟨hx, hb, hml, hown, hts⟩, ⟨rfl, rfl, rfl, rfl, rfl, hr, hlocks⟩, hK, hA⟩ := C
  intro H locs ls hP hD hS hl
  exact vk_getf hx hb (hK.2.2.1.2.1.2.2.1 i hi).2.2.1 hS hown (hts _ hlk) (fun _ h => h) hd (kk H locs ls hP hD hS hl)
theorem a_slen (C : axC X l D Y cc nL own Ts rm rt) {i : Nat} (hi : i < 7) (hd : decode cc pc = .ok (.arraylength, 1)) (kk : ax X cs sl (pc + 1) L ws (.int (Int32.ofNat (lenM.getD i 0)) :: st)) : ax X cs sl pc L ws (.ref (Y (40 + i)) :: st) := by
  obtain ⟨p, l9, e, R, s, m, args, below, meth, c, Q, D9, A, n9, Y9⟩ := X
  obtain ⟨⟨hx, hb, hml, hown, hts⟩, ⟨rfl, rfl, rfl, rfl, rfl, hr, hlocks⟩, hK, hA⟩ := C
  intro H locs ls hP hD hS hl
  exact va_tlen hx hb (hK.2.2.1.2.1.2.2.1 i hi).2.2.2 hS rfl hd (kk H locs ls hP hD hS hl)
theorem a_sbyte (C : axC X l D Y cc nL own Ts rm rt) {i : Nat} (hi : i < 7) {k : Int32} (hin : vp_in k (lenM.getD i 0)) (hd : decode cc pc = .ok (.baload, 1)) (kk : ax X cs sl (pc + 1) L ws (.int ((bytM.getD i []).getD k.toNatClampNeg 0) :: st)) : ax X cs sl pc L ws (.int k :: .ref (Y (40 + i)) :: st) := by
  obtain ⟨p, l9, e, R, s, m, args, below, meth, c, Q, D9, A, n9, Y9⟩ := X
  obtain ⟨⟨hx, hb, hml, hown, hts⟩, ⟨rfl, rfl, rfl, rfl, rfl, hr, hlocks⟩, hK, hA⟩ := C
  intro H locs ls hP hD hS hl
  exact va_tb hx hb (hK.2.2.1.2.1.2.2.1 i hi).2.2.2 hS hin rfl hd (kk H locs ls hP hD hS hl)
/-- a return of a small type -/
theorem a_nret {ty : FieldType} (C : axC X l D Y cc nL own Ts rm (some ty)) {post : Option Value → va_W → Prop} (hQ : axQ X cs sl post) {v : Int32} (hv : narrow ty (.int v) = .int v) (hd : decode cc pc = .ok (.ireturn, 1)) (hp : post (some (.int v)) ws) : ax X cs sl pc L ws [.int v] := by
  obtain ⟨p, l9, e, R, s, m, args, below, meth, c, Q, D9, A, n9, Y9⟩ := X
  obtain ⟨⟨hx, hb, hml, hown, hts⟩, ⟨rfl, rfl, rfl, rfl, rfl, hr, hlocks⟩, hK, hA⟩ := C
  intro H locs ls hP hD hS hl
  subst hQ
  exact W.zret hx hb hr hv (fun t ht hW => ⟨⟨_, _, hp, rfl, by rw [ht]; exact hP, hD⟩, hS.F ht⟩) hS.2.2 hd hlocks
variable {y : MethodName} {wy wy' : List Cond} {rmc : Room} {bytes : ByteArray} {maxL index : Nat} {rc : Option FieldType} {As : List Value} {r : Option Value}
/-- a text's method: its world is empty -/
theorem a_fT (C : axC X l D Y cc nL own Ts rm rt) {i : Nat} (hi : i < 7) (hM : amf l D Y y wy rmc (.ref (Y (25 + i)) :: As) [] r []) (hg : GoodIn Ts (wsV own index "java/lang/String" y wy)) (hw : wy = Cond.code y bytes maxL rc :: wy')
    (hd0 : y.cls = "java/lang/String" ∧ y.cls ≠ "java/lang/invoke/MethodHandle" ∧ y.cls ≠ "java/lang/invoke/VarHandle" ∧ (parseMethodDescriptor y.desc).map (fun d => d.parameters.length) = some As.length)
    (hR : (rmc.cells = 0 ∧ rmc.slots = 0) ∧ (rmc.frames + 1 ≤ rm.frames ∧ 8 + (maxL + 11) + rmc.locals ≤ rm.locals) ∧ (cs + 0 ≤ rm.cells ∧ sl + 0 ≤ rm.slots))
    (hst : st0 = As.reverse ++ .ref (Y (25 + i)) :: st) (hWd : (st.map fun v => v.category).sum ≤ 8) (hdg : decode cc pc = .ok (.invokevirtual index, 3))
    (kk : ax X cs sl (pc + 3) L ws (r.toList ++ st)) : ax X cs sl pc L ws st0 := by
  obtain ⟨p, l9, e, R, s, m, args, below, meth, c, Q, D9, A, n9, Y9⟩ := X
  obtain ⟨⟨hx, hb, hml, hown, hts⟩, ⟨rfl, rfl, rfl, rfl, rfl, hr, hlocks⟩, hK, hA⟩ := C
  intro H locs ls hP hD hS hl
  have hPc : va_P D9 vwCl [] H := fun k q h => by simp at h
  have hFc := va_free (wc := []) hD hS hA [] rfl
  have hDc : va_D (fun _ => True) ([] : va_W) := ⟨fun i j p q h => by simp at h, fun k q h => by simp at h⟩
  subst hst
  refine a_run (va_runV (As := As) (rest := st) ⟨hx, hb, hml, hown, hts⟩ (hM H.size) (cwV As.length hts hg hw hR.1.1 hR.1.2 hd0 hR.2.1) ⟨am_blind, vk_recv hK.2.2.1.2.1.2.2 hi hS, fun U hU hW => ⟨rfl, by rw [hU], by rw [hU]; exact hPc, vK.call hW hU hS hFc hK, hDc⟩⟩ rfl rfl hl.1 rfl (lv_room hWd) hdg hR.2.2) hS hFc (fun r9 w9 H1 locs1 hp hP1 hD1 hz hk hS1 => ?_)
  obtain ⟨rfl, rfl⟩ := hp
  refine kk H1 locs1 ls (fun k q h => (hP k q h).kept (hk q.1 (hP k q h).lt (fun z => ?_))) hD hS1 hl
  rcases z with ⟨k2, e2, z⟩ | z
  · simp at z
  · exact absurd (hP k q h).lt (by omega)
end AXS
abbrev rmJ0_coder_7d493 : Room := { frames := 0, cells := 0, slots := 0, locals := 0 }
set_option maxRecDepth 100000 in
theorem kJ0_coder (l : Launch) (D : va_G) (Y : Nat → ClassId) (i : Nat) (hi : i < 7) : amf l D Y yJ0_coder_7d493 wsJ0_coder_7d493 rmJ0_coder_7d493 [.ref (Y (25 + i))] [] (some (.int 0)) [] := by
  refine amf.of (cc := cJ0_coder_7d493) (maxL := 1) (rt := (some .byte)) (by decide) rfl RJ0 rfl (Nat.le_of_ble_eq_true rfl) [some (.ref (Y (25 + i)))] rfl ?_
  intro X C hQ
  refine a_compact C dJ0_coder_7d493_0 (List.mem_cons_of_mem _ (inB18 _ (List.mem_of_getElem? (i := 16) rfl))) ?_
  refine a_if_eq C 13 dJ0_coder_7d493_3 (by decide) (fun h => absurd h (by decide)) (fun _ => ?_)
  refine a_aload_n C dJ0_coder_7d493_6 rfl ?_
  refine a_scoder C hi dJ0_coder_7d493_7 (List.mem_cons_of_mem _ (inB18 _ (List.mem_of_getElem? (i := 17) rfl))) ?_
  refine a_goto C 14 dJ0_coder_7d493_10 (by decide) ?_
  exact a_nret C hQ rfl dJ0_coder_7d493_14 ⟨rfl, rfl⟩
abbrev rmJ0_isLatin1_aae02 : Room := { frames := 0, cells := 0, slots := 0, locals := 0 }
set_option maxRecDepth 100000 in
theorem kJ0_isLatin1 (l : Launch) (D : va_G) (Y : Nat → ClassId) (i : Nat) (hi : i < 7) : amf l D Y yJ0_isLatin1_aae02 wsJ0_isLatin1_aae02 rmJ0_isLatin1_aae02 [.ref (Y (25 + i))] [] (some (.int 1)) [] := by
  refine amf.of (cc := cJ0_isLatin1_aae02) (maxL := 1) (rt := (some .boolean)) (by decide) rfl RJ0 rfl (Nat.le_of_ble_eq_true rfl) [some (.ref (Y (25 + i)))] rfl ?_
  intro X C hQ
  refine a_compact C dJ0_isLatin1_aae02_0 (List.mem_cons_of_mem _ (inB18 _ (List.mem_of_getElem? (i := 16) rfl))) ?_
  refine a_if_eq C 17 dJ0_isLatin1_aae02_3 (by decide) (fun h => absurd h (by decide)) (fun _ => ?_)
  refine a_aload_n C dJ0_isLatin1_aae02_6 rfl ?_
  refine a_scoder C hi dJ0_isLatin1_aae02_7 (List.mem_cons_of_mem _ (inB18 _ (List.mem_of_getElem? (i := 17) rfl))) ?_
  refine a_if_ne C 17 dJ0_isLatin1_aae02_10 (by decide) (fun h => absurd rfl h) (fun _ => ?_)
  refine a_iconst C (1 : Int32) dJ0_isLatin1_aae02_13 (by decide) ?_
  refine a_goto C 18 dJ0_isLatin1_aae02_14 (by decide) ?_
  exact a_zret C hQ (Or.inr rfl) dJ0_isLatin1_aae02_18 ⟨rfl, rfl⟩
/-- a text's length, and its sign at k -/
def sLen (t : Nat) : Int32 := Int32.ofNat (lenM.getD t 0)
def sCh (t : Nat) (k : Int32) : Int32 := (((bytM.getD t []).getD k.toNatClampNeg 0 &&& 255).toUInt32 % 65536).toInt32
theorem dvJ0_coder : yJ0_coder_7d493.cls = RJ0 ∧ yJ0_coder_7d493.cls ≠ "java/lang/invoke/MethodHandle" ∧ yJ0_coder_7d493.cls ≠ "java/lang/invoke/VarHandle" ∧ (parseMethodDescriptor yJ0_coder_7d493.desc).map (fun d => d.parameters.length) = some 0 := by decide +kernel
theorem dvJ0_isLatin1 : yJ0_isLatin1_aae02.cls = RJ0 ∧ yJ0_isLatin1_aae02.cls ≠ "java/lang/invoke/MethodHandle" ∧ yJ0_isLatin1_aae02.cls ≠ "java/lang/invoke/VarHandle" ∧ (parseMethodDescriptor yJ0_isLatin1_aae02.desc).map (fun d => d.parameters.length) = some 0 := by decide +kernel
theorem dvJ1_charAt : yJ1_charAt_3b067.cls ≠ "java/lang/invoke/MethodHandle" ∧ yJ1_charAt_3b067.cls ≠ "java/lang/invoke/VarHandle" ∧ (parseMethodDescriptor yJ1_charAt_3b067.desc).map (fun d => d.parameters.length) = some 2 := by decide +kernel
theorem dvJ0_checkIndex : yJ0_checkIndex_df160.cls ≠ "java/lang/invoke/MethodHandle" ∧ yJ0_checkIndex_df160.cls ≠ "java/lang/invoke/VarHandle" ∧ (parseMethodDescriptor yJ0_checkIndex_df160.desc).map (fun d => d.parameters.length) = some 2 := by decide +kernel
theorem dvJ3_checkIndex : yJ3_checkIndex_8e157.cls ≠ "java/lang/invoke/MethodHandle" ∧ yJ3_checkIndex_8e157.cls ≠ "java/lang/invoke/VarHandle" ∧ (parseMethodDescriptor yJ3_checkIndex_8e157.desc).map (fun d => d.parameters.length) = some 3 := by decide +kernel
theorem dvJ0_length : yJ0_length_8abf5.cls = "java/lang/String" ∧ yJ0_length_8abf5.cls ≠ "java/lang/invoke/MethodHandle" ∧ yJ0_length_8abf5.cls ≠ "java/lang/invoke/VarHandle" ∧ (parseMethodDescriptor yJ0_length_8abf5.desc).map (fun d => d.parameters.length) = some 0 := by decide +kernel
theorem dvJ0_charAt : yJ0_charAt_5068e.cls = "java/lang/String" ∧ yJ0_charAt_5068e.cls ≠ "java/lang/invoke/MethodHandle" ∧ yJ0_charAt_5068e.cls ≠ "java/lang/invoke/VarHandle" ∧ (parseMethodDescriptor yJ0_charAt_5068e.desc).map (fun d => d.parameters.length) = some 1 := by decide +kernel
theorem sLen_shr (i : Nat) (hi : i < 7) : jshr (Int32.ofNat (lenM.getD i 0)) 0 = sLen i := by
  rcases (show i = 0 ∨ i = 1 ∨ i = 2 ∨ i = 3 ∨ i = 4 ∨ i = 5 ∨ i = 6 by omega) with rfl | rfl | rfl | rfl | rfl | rfl | rfl <;> decide
abbrev rmJ0_length_8abf5 : Room := { frames := 1, cells := 0, slots := 0, locals := 20 }
set_option maxRecDepth 100000 in
theorem kJ0_length (l : Launch) (D : va_G) (Y : Nat → ClassId) (i : Nat) (hi : i < 7) : amf l D Y yJ0_length_8abf5 wsJ0_length_8abf5 rmJ0_length_8abf5 [.ref (Y (25 + i))] [] (some (.int (sLen i))) [] := by
  refine amf.of (cc := cJ0_length_8abf5) (maxL := 1) (rt := (some .int)) (by decide) rfl RJ0 rfl (Nat.le_of_ble_eq_true rfl) [some (.ref (Y (25 + i)))] rfl ?_
  intro X C hQ
  refine a_aload_n C dJ0_length_8abf5_0 rfl ?_
  refine a_svalue C hi dJ0_length_8abf5_1 (List.mem_cons_of_mem _ (inB18 _ (List.mem_of_getElem? (i := 11) rfl))) ?_
  refine a_slen C hi dJ0_length_8abf5_4 ?_
  refine a_aload_n C dJ0_length_8abf5_5 rfl ?_
  refine a_fT C hi (kJ0_coder l D Y i hi) (gBV (inB18 _ (List.mem_of_getElem? (i := 12) rfl)) (inB18 _ (List.mem_of_getElem? (i := 13) rfl)) (inB18 _ (List.mem_of_getElem? (i := 14) rfl)) (inB18 _ (List.mem_of_getElem? (i := 9) rfl)) (inB18 _ (List.mem_of_getElem? (i := 15) rfl))) rfl dvJ0_coder ⟨⟨rfl, rfl⟩, ⟨Nat.le_of_ble_eq_true rfl, Nat.le_of_ble_eq_true rfl⟩, ⟨Nat.le_of_ble_eq_true rfl, Nat.le_of_ble_eq_true rfl⟩⟩ rfl (Nat.le_of_ble_eq_true rfl) dJ0_length_8abf5_6 ?_
  refine a_ishr C dJ0_length_8abf5_9 ?_
  exact a_iret C hQ dJ0_length_8abf5_10 ⟨by rw [sLen_shr i hi], rfl⟩
abbrev rmJ3_checkIndex_8e157 : Room := { frames := 0, cells := 0, slots := 0, locals := 0 }
set_option maxRecDepth 100000 in
theorem kJ3_checkIndex (l : Launch) (D : va_G) (Y : Nat → ClassId) (x n : Int32) (v : Value) (hv : v = .null ∨ ∃ t, v = .ref t) (h0 : ¬ x < 0) (h1 : x < n) : amf l D Y yJ3_checkIndex_8e157 wsJ3_checkIndex_8e157 rmJ3_checkIndex_8e157 [.int x, .int n, v] [] (some (.int x)) [] := by
  have hc : v.category = 1 := by rcases hv with rfl | ⟨t, rfl⟩ <;> rfl
  refine amf.of (cc := cJ3_checkIndex_8e157) (maxL := 3) (rt := (some .int)) (by decide) rfl RJ3 rfl (by rcases hv with rfl | ⟨t, rfl⟩ <;> exact Nat.le_of_ble_eq_true rfl) [some (.int x), some (.int n), some v] rfl ?_
  intro X C hQ
  refine a_iload_n C dJ3_checkIndex_8e157_0 rfl ?_
  refine a_if_lt C 9 dJ3_checkIndex_8e157_1 (by decide) (fun h => absurd h h0) (fun _ => ?_)
  refine a_iload_n C dJ3_checkIndex_8e157_4 rfl ?_
  refine a_iload_n C dJ3_checkIndex_8e157_5 rfl ?_
  refine a_icmp_lt C 16 dJ3_checkIndex_8e157_6 (by decide) (fun _ => ?_) (fun h => absurd h1 h)
  refine a_iload_n C dJ3_checkIndex_8e157_16 rfl ?_
  exact a_iret C hQ dJ3_checkIndex_8e157_17 ⟨rfl, rfl⟩
abbrev rmJ0_checkIndex_df160 : Room := { frames := 1, cells := 0, slots := 0, locals := 22 }
set_option maxRecDepth 100000 in
theorem kJ0_checkIndex (l : Launch) (D : va_G) (Y : Nat → ClassId) (x n : Int32) (h0 : ¬ x < 0) (h1 : x < n) : amf l D Y yJ0_checkIndex_df160 wsJ0_checkIndex_df160 rmJ0_checkIndex_df160 [.int x, .int n] [] none [] := by
  refine amf.of (cc := cJ0_checkIndex_df160) (maxL := 2) (rt := none) (by decide) rfl RJ0 rfl (Nat.le_of_ble_eq_true rfl) [some (.int x), some (.int n)] rfl ?_
  intro X C hQ
  refine a_iload_n C dJ0_checkIndex_df160_0 rfl ?_
  refine a_iload_n C dJ0_checkIndex_df160_1 rfl ?_
  refine a_former C dJ0_checkIndex_df160_2 (List.mem_cons_of_mem _ (inB19 _ (List.mem_of_getElem? (i := 9) rfl))) (fun v hv => ?_)
  refine a_fS C (kJ3_checkIndex l D Y x n v hv h0 h1) (gBS (inB19 _ (List.mem_of_getElem? (i := 10) rfl)) (inB19 _ (List.mem_of_getElem? (i := 11) rfl)) (inB19 _ (List.mem_of_getElem? (i := 12) rfl)) (inB19 _ (List.mem_of_getElem? (i := 13) rfl))) rfl dvJ3_checkIndex ⟨⟨rfl, rfl⟩, ⟨Nat.le_of_ble_eq_true rfl, Nat.le_of_ble_eq_true rfl⟩, ⟨Nat.le_of_ble_eq_true rfl, Nat.le_of_ble_eq_true rfl⟩⟩ rfl (Nat.le_of_ble_eq_true rfl) dJ0_checkIndex_df160_5 [] [] trivial rfl rfl [] trivial trivial 0 rfl rfl ?_
  refine a_pop C dJ0_checkIndex_df160_8 rfl ?_
  exact a_vret C hQ dJ0_checkIndex_df160_9 ⟨rfl, rfl⟩
abbrev rmJ1_charAt_3b067 : Room := { frames := 2, cells := 0, slots := 0, locals := 43 }
set_option maxRecDepth 100000 in
theorem kJ1_charAt (l : Launch) (D : va_G) (Y : Nat → ClassId) (i : Nat) (hi : i < 7) (k : Int32) (hin : vp_in k (lenM.getD i 0)) (h0 : ¬ k < 0) (h1 : k < Int32.ofNat (lenM.getD i 0)) : amf l D Y yJ1_charAt_3b067 wsJ1_charAt_3b067 rmJ1_charAt_3b067 [.ref (Y (40 + i)), .int k] [] (some (.int ((((bytM.getD i []).getD k.toNatClampNeg 0 &&& 255).toUInt32 % 65536).toInt32))) [] := by
  refine amf.of (cc := cJ1_charAt_3b067) (maxL := 2) (rt := (some .char)) (by decide) rfl RJ1 rfl (Nat.le_of_ble_eq_true rfl) [some (.ref (Y (40 + i))), some (.int k)] rfl ?_
  intro X C hQ
  refine a_iload_n C dJ1_charAt_3b067_0 rfl ?_
  refine a_aload_n C dJ1_charAt_3b067_1 rfl ?_
  refine a_slen C hi dJ1_charAt_3b067_2 ?_
  refine a_fS C (kJ0_checkIndex l D Y k (Int32.ofNat (lenM.getD i 0)) h0 h1) (gBS (inB19 _ (List.mem_of_getElem? (i := 6) rfl)) (inB19 _ (List.mem_of_getElem? (i := 7) rfl)) (inB18 _ (List.mem_of_getElem? (i := 9) rfl)) (inB19 _ (List.mem_of_getElem? (i := 8) rfl))) rfl dvJ0_checkIndex ⟨⟨rfl, rfl⟩, ⟨Nat.le_of_ble_eq_true rfl, Nat.le_of_ble_eq_true rfl⟩, ⟨Nat.le_of_ble_eq_true rfl, Nat.le_of_ble_eq_true rfl⟩⟩ rfl (Nat.le_of_ble_eq_true rfl) dJ1_charAt_3b067_3 [] [] trivial rfl rfl [] trivial trivial 0 rfl rfl ?_
  refine a_aload_n C dJ1_charAt_3b067_6 rfl ?_
  refine a_iload_n C dJ1_charAt_3b067_7 rfl ?_
  refine a_sbyte C hi hin dJ1_charAt_3b067_8 ?_
  refine a_sipush C (255 : Int32) dJ1_charAt_3b067_9 (by decide) ?_
  refine a_iand C dJ1_charAt_3b067_12 ?_
  refine a_i2c C dJ1_charAt_3b067_13 ?_
  exact a_nret C hQ (pk_nc _) dJ1_charAt_3b067_14 ⟨rfl, rfl⟩
abbrev rmJ0_charAt_5068e : Room := { frames := 3, cells := 0, slots := 0, locals := 64 }
set_option maxRecDepth 100000 in
theorem kJ0_charAt (l : Launch) (D : va_G) (Y : Nat → ClassId) (i : Nat) (hi : i < 7) (k : Int32) (hin : vp_in k (lenM.getD i 0)) (h0 : ¬ k < 0) (h1 : k < Int32.ofNat (lenM.getD i 0)) : amf l D Y yJ0_charAt_5068e wsJ0_charAt_5068e rmJ0_charAt_5068e [.ref (Y (25 + i)), .int k] [] (some (.int (sCh i k))) [] := by
  refine amf.of (cc := cJ0_charAt_5068e) (maxL := 2) (rt := (some .char)) (by decide) rfl RJ0 rfl (Nat.le_of_ble_eq_true rfl) [some (.ref (Y (25 + i))), some (.int k)] rfl ?_
  intro X C hQ
  refine a_aload_n C dJ0_charAt_5068e_0 rfl ?_
  refine a_fT C hi (kJ0_isLatin1 l D Y i hi) (gBV (inB18 _ (List.mem_of_getElem? (i := 22) rfl)) (inB18 _ (List.mem_of_getElem? (i := 23) rfl)) (inB19 _ (List.mem_of_getElem? (i := 0) rfl)) (inB18 _ (List.mem_of_getElem? (i := 9) rfl)) (inB19 _ (List.mem_of_getElem? (i := 1) rfl))) rfl dvJ0_isLatin1 ⟨⟨rfl, rfl⟩, ⟨Nat.le_of_ble_eq_true rfl, Nat.le_of_ble_eq_true rfl⟩, ⟨Nat.le_of_ble_eq_true rfl, Nat.le_of_ble_eq_true rfl⟩⟩ rfl (Nat.le_of_ble_eq_true rfl) dJ0_charAt_5068e_1 ?_
  refine a_if_eq C 16 dJ0_charAt_5068e_4 (by decide) (fun h => absurd h (by decide)) (fun _ => ?_)
  refine a_aload_n C dJ0_charAt_5068e_7 rfl ?_
  refine a_svalue C hi dJ0_charAt_5068e_8 (List.mem_cons_of_mem _ (inB18 _ (List.mem_of_getElem? (i := 11) rfl))) ?_
  refine a_iload_n C dJ0_charAt_5068e_11 rfl ?_
  refine a_fS C (kJ1_charAt l D Y i hi k hin h0 h1) (gBS (inB19 _ (List.mem_of_getElem? (i := 2) rfl)) (inB19 _ (List.mem_of_getElem? (i := 3) rfl)) (inB19 _ (List.mem_of_getElem? (i := 4) rfl)) (inB19 _ (List.mem_of_getElem? (i := 5) rfl))) rfl dvJ1_charAt ⟨⟨rfl, rfl⟩, ⟨Nat.le_of_ble_eq_true rfl, Nat.le_of_ble_eq_true rfl⟩, ⟨Nat.le_of_ble_eq_true rfl, Nat.le_of_ble_eq_true rfl⟩⟩ rfl (Nat.le_of_ble_eq_true rfl) dJ0_charAt_5068e_12 [] [] trivial rfl rfl [] trivial trivial 0 rfl rfl ?_
  refine a_nret C hQ (pk_nc _) dJ0_charAt_5068e_15 ⟨?_, rfl⟩
  rfl
theorem lenM_lt (i : Nat) (hi : i < 7) : lenM.getD i 0 < 2 ^ 31 := by
  rcases (show i = 0 ∨ i = 1 ∨ i = 2 ∨ i = 3 ∨ i = 4 ∨ i = 5 ∨ i = 6 by omega) with rfl | rfl | rfl | rfl | rfl | rfl | rfl <;> decide
theorem kJ0_charAt2 (l : Launch) (D : va_G) (Y : Nat → ClassId) (i : Nat) (hi : i < 7) (k : Int32) (hin : vp_in k (lenM.getD i 0)) : amf l D Y yJ0_charAt_5068e wsJ0_charAt_5068e rmJ0_charAt_5068e [.ref (Y (25 + i)), .int k] [] (some (.int (sCh i k))) [] := by
  obtain ⟨j, hj, rfl⟩ := vp_in_of hin (lenM_lt i hi)
  have := lenM_lt i hi
  exact kJ0_charAt l D Y i hi (nI j) hin (nI_pos (by omega)) (nI_lt hj this)
