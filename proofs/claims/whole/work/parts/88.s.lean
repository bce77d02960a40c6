/-! ===== the start: classes, rows, texts, what lies outside ===== -/
theorem st_arr {args : Array Value} {s : State} {ty : FieldType} (hp : ∀ cA, s.vm.findClass ("[" ++ ty.toString) = some cA → va_RA s cA ty) (h : (Cond.arrayClass ty).before args s = true) : ∃ c : ClassId, ArrOfT s c ty ∧ va_RA s c ty := by
  obtain ⟨c, k, comp, h1, h2, h3⟩ := Cond.arrayClass_spec (show (Cond.arrayClass ty).holds args s none s [] = true from h)
  exact ⟨c, fun N z => ⟨(fun k h => by cases h), k, h2, comp, h3⟩, hp c h1⟩
theorem st_arrq {args : Array Value} {s : State} {C : String} (h : (Cond.arrayOver (.object C)).before args s = true) : ∃ c : ClassId, ArrOfT s c (.object C) ∧ va_RA s c (.object C) := by
  obtain ⟨comp, c, k, h1, -, h3, h4, h5⟩ := Cond.arrayOver_spec (show (Cond.arrayOver (.object C)).holds args s none s [] = true from h)
  exact ⟨c, fun N z => ⟨(fun k h => by cases h), k, h3, comp, h4⟩, k, comp, h3, h4, h1, h5⟩
theorem st_S {N : Nat} {len : List Nat} {byt : List (List Int32)} {a v a' v' : Nat → Nat} {A : Nat → Prop} {U : State} {H : Heap} (h : vk_S N len byt a v A U H) (h1 : ∀ i, i < N → a' i = a i) (h2 : ∀ i, i < N → v' i = v i) : vk_S N len byt a' v' A U H :=
  ⟨fun i hi => by rw [h1 i hi, h2 i hi]; exact h.1 i hi, fun i j hi hj e => h.2 i j hi hj (by rw [← h1 i hi, ← h1 j hj]; exact e)⟩
def tmM (i : Nat) : Term := Term.string RX12 ([224, 232, 234, 236, 377, 379, 381].getD i 0)
def gvL : List Cond := flatC (Cond.and given_1 narrow_1)
theorem gv_ex : ∀ i, i < 7 → Cond.exactly (tmM i) "java/lang/String" ∈ gvL := by decide +kernel
theorem gv_co : ∀ i, i < 7 → Cond.eq (.field (tmM i) "java/lang/String" "coder" "B") (.int 0) ∈ gvL := by decide +kernel
theorem gv_ar : ∀ i, i < 7 → Cond.arrayOf (.field (tmM i) "java/lang/String" "value" "[B") .byte ∈ gvL := by decide +kernel
theorem gv_le : ∀ i, i < 7 → Cond.eq (.length (.field (tmM i) "java/lang/String" "value" "[B")) (.int (Int32.ofNat (lenM.getD i 0))) ∈ gvL := by decide +kernel
theorem gv_el : ∀ i, i < 7 → ∀ j, j < lenM.getD i 0 → Cond.eq (.elem (.field (tmM i) "java/lang/String" "value" "[B") (.int (Int32.ofNat j))) (.int ((bytM.getD i []).getD j 0)) ∈ gvL := by decide +kernel
theorem gv_ne : ∀ i, i < 7 → ∀ j, j < 7 → i ≠ j → Cond.not (Cond.eq (tmM i) (tmM j)) ∈ gvL ∨ Cond.not (Cond.eq (tmM j) (tmM i)) ∈ gvL := by decide +kernel
theorem gv_pl : ∀ j, j < 9 → Cond.eq (.elem (.static RX6 "PLAIN" "[I") (.int (Int32.ofNat j))) (.int (plainF j)) ∈ gvL := by decide +kernel
theorem gv_pa : Cond.arrayOf (.static RX6 "PLAIN" "[I") .int ∈ gvL := by decide +kernel
theorem gv_pn : Cond.eq (.length (.static RX6 "PLAIN" "[I")) (.int (Int32.ofNat 9)) ∈ gvL := by decide +kernel
theorem gv_cs : Cond.eq (.static "java/lang/String" "COMPACT_STRINGS" "Z") (.int 1) ∈ gvL := by decide +kernel
theorem gv_si : Cond.isRef (.static "jdk/internal/util/Preconditions" "SIOOBE_FORMATTER" "Ljava/util/function/BiFunction;") ∈ gvL := by decide +kernel
theorem gv_us : Cond.isRef (.static Bundle.tN "UNASSIGNED_STACK" Bundle.steD) ∈ gvL := by decide +kernel
theorem gv_ss : Cond.isRef (.static Bundle.tN "SUPPRESSED_SENTINEL" Bundle.listD) ∈ gvL := by decide +kernel
theorem gv_st : ∀ i, i < 5 → Cond.exactly (Term.string RX11 ([148, 175, 178, 201, 385].getD i 0)) "java/lang/String" ∈ gvL := by decide +kernel
theorem tb_nest : ∀ w ∈ nestT.map (fun t => Cond.methodLinkNest t.1 t.2.1 t.2.2.1 t.2.2.2), w ∈ lw_tbl := in_pl [415, 147, 163, 195, 127, 541, 542, 506, 582, 750, 935, 759, 774] (by decide +kernel)
theorem tb_str : ∀ w ∈ strT.map (fun t => Cond.stringRef t.1 t.2.1 t.2.2), w ∈ lw_tbl := in_pl [1135, 1164, 1172, 1173, 1181, 1430, 1487, 1488, 1489, 1683, 1684, 1685] (by decide +kernel)
theorem st_D {args : Array Value} {s : State} (hts : ∀ w ∈ lw_tbl, w.before args s = true) : ∃ D : va_G, ∀ (k : Nat) (q : vw_C), vwCl[k]? = some q → u_Kn s q.1 q.2.1 q.2.2 (D.1 k) (D.2 k) := by
  obtain ⟨c0, i0, h0⟩ := u_known (C := RX0) (T := TX0) (N := 3) (n := 3) hts tb_wsX0 (hts (.instantiable RX0 3) (List.mem_of_getElem? (i := 414) (by decide +kernel)))
  obtain ⟨c1, i1, h1⟩ := u_known (C := RX1) (T := TX1) (N := 8) (n := 8) hts tb_wsX1 (hts (.instantiable RX1 8) (List.mem_of_getElem? (i := 359) (by decide +kernel)))
  obtain ⟨c2, i2, h2⟩ := u_known (C := RX2) (T := TX2) (N := 5) (n := 5) hts tb_wsX2 (hts (.instantiable RX2 5) (List.mem_of_getElem? (i := 194) (by decide +kernel)))
  obtain ⟨c3, i3, h3⟩ := u_known (C := RX3) (T := TX3) (N := 7) (n := 7) hts tb_wsX3 (hts (.instantiable RX3 7) (List.mem_of_getElem? (i := 330) (by decide +kernel)))
  obtain ⟨c4, i4, h4⟩ := u_known (C := RX4) (T := TX4) (N := 3) (n := 3) hts tb_wsX4 (hts (.instantiable RX4 3) (List.mem_of_getElem? (i := 310) (by decide +kernel)))
  obtain ⟨c5, i5, h5⟩ := u_known (C := RX5) (T := TX5) (N := 5) (n := 5) hts tb_wsX5 (hts (.instantiable RX5 5) (List.mem_of_getElem? (i := 162) (by decide +kernel)))
  obtain ⟨c6, i6, h6⟩ := u_known (C := RX6) (T := TX6) (N := 6) (n := 6) hts tb_wsX6 (hts (.instantiable RX6 6) (List.mem_of_getElem? (i := 230) (by decide +kernel)))
  obtain ⟨c7, i7, h7⟩ := u_known (C := RX7) (T := TX7) (N := 5) (n := 5) hts tb_wsX7 (hts (.instantiable RX7 5) (List.mem_of_getElem? (i := 391) (by decide +kernel)))
  obtain ⟨c8, i8, h8⟩ := u_known (C := RX8) (T := TX8) (N := 2) (n := 2) hts tb_wsX8 (hts (.instantiable RX8 2) (List.mem_of_getElem? (i := 146) (by decide +kernel)))
  obtain ⟨c9, i9, h9⟩ := u_known (C := RX9) (T := TX9) (N := 9) (n := 9) hts tb_wsX9 (hts (.instantiable RX9 9) (List.mem_of_getElem? (i := 264) (by decide +kernel)))
  obtain ⟨c10, i10, h10⟩ := u_known (C := RX10) (T := TX10) (N := 2) (n := 2) hts tb_wsX10 (hts (.instantiable RX10 2) (List.mem_of_getElem? (i := 126) (by decide +kernel)))
  obtain ⟨c11, i11, h11⟩ := u_known (C := RX11) (T := TX11) (N := 17) (n := 17) hts tb_wsX11 (hts (.instantiable RX11 17) (List.mem_of_getElem? (i := 118) (by decide +kernel)))
  obtain ⟨c12, i12, h12⟩ := u_known (C := RX12) (T := TX12) (N := 53) (n := 53) hts tb_wsX12 (hts (.instantiable RX12 53) (List.mem_of_getElem? (i := 1183) (by decide +kernel)))
  refine ⟨(fun k => [c0, c1, c2, c3, c4, c5, c6, c7, c8, c9, c10, c11, c12].getD k 0, fun k => [i0, i1, i2, i3, i4, i5, i6, i7, i8, i9, i10, i11, i12].getD k (fun _ => 0)), ?_⟩
  intro k q hq
  match k, hq with
  | 0, hq => cases hq; exact h0
  | 1, hq => cases hq; exact h1
  | 2, hq => cases hq; exact h2
  | 3, hq => cases hq; exact h3
  | 4, hq => cases hq; exact h4
  | 5, hq => cases hq; exact h5
  | 6, hq => cases hq; exact h6
  | 7, hq => cases hq; exact h7
  | 8, hq => cases hq; exact h8
  | 9, hq => cases hq; exact h9
  | 10, hq => cases hq; exact h10
  | 11, hq => cases hq; exact h11
  | 12, hq => cases hq; exact h12
  | k + 13, hq => simp [vwCl] at hq
set_option maxHeartbeats 2000000 in
theorem st_K {s : State} {b : Nat} (hts : ∀ w ∈ lw_tbl, w.before #[Value.ref b] s = true) (hgv : (Jvm.Cond.and given_1 narrow_1).before #[Value.ref b] s = true) : ∃ (D : va_G) (Y : Nat → ClassId), vK D Y (fun q => s.heap.size ≤ q) s := by
  have hs : ∀ w ∈ gvL, w.before #[Value.ref b] s = true := flat_of_before _ hgv
  have hA : ∀ a : Nat, a < s.heap.size → ¬ (fun q => s.heap.size ≤ q) a := fun a h => Nat.not_le.mpr h
  obtain ⟨D, hD⟩ := st_D hts
  obtain ⟨y0, hy0⟩ := st_arr (s := s) (ty := .char) (fun _ h => h) (hts (.arrayClass .char) (List.mem_of_getElem? (i := 144) (by decide +kernel)))
  obtain ⟨y1, hy1⟩ := st_arr (s := s) (ty := .int) (fun _ h => h) (hts (.arrayClass .int) (List.mem_of_getElem? (i := 192) (by decide +kernel)))
  obtain ⟨y2, hy2⟩ := st_arr (s := s) (ty := .long) (fun _ h => h) (hts (.arrayClass .long) (List.mem_of_getElem? (i := 160) (by decide +kernel)))
  obtain ⟨y3, hy3⟩ := st_arr (s := s) (ty := .boolean) (fun _ h => h) (hts (.arrayClass .boolean) (List.mem_of_getElem? (i := 1348) (by decide +kernel)))
  have hov := hts (.arrayOver (.object "SandKeepsSea$State")) (List.mem_of_getElem? (i := 316) (by decide +kernel))
  obtain ⟨y4, hy4⟩ := st_arrq hov
  obtain ⟨tp, hp1, hp2⟩ := va_Tof (tm := .static RX6 "PLAIN" "[I") (ty := .int) (N := 9) (f := fun j => .int (plainF j)) (A := fun q => s.heap.size ≤ q) (by omega) (hs _ gv_pa) (va_eqt (hs _ gv_pn)) (fun j hj => va_eqt (hs _ (gv_pl j hj))) hA
  obtain ⟨adK, adV, hS1, hS2⟩ := vk_Sof (N := 7) (tm := tmM) (len := lenM) (byt := bytM) (A := fun q => s.heap.size ≤ q) (by decide) (fun i hi => hs _ (gv_ex i hi)) (fun i hi => hs _ (gv_co i hi)) (fun i hi => hs _ (gv_ar i hi)) (fun i hi => hs _ (gv_le i hi)) (fun i hi j hj => hs _ (gv_el i hi j hj)) (fun i j hi hj hij => (gv_ne i hi j hj hij).elim (fun h => Or.inl (hs _ h)) (fun h => Or.inr (hs _ h))) hA
  obtain ⟨s0, _, _, _, hq0, -⟩ := Cond.exactly_spec (args := #[Value.ref b]) (first := s) (o := none) (s := s) (idx := []) (hs _ (gv_st 0 (by decide)))
  obtain ⟨s1, _, _, _, hq1, -⟩ := Cond.exactly_spec (args := #[Value.ref b]) (first := s) (o := none) (s := s) (idx := []) (hs _ (gv_st 1 (by decide)))
  obtain ⟨s2, _, _, _, hq2, -⟩ := Cond.exactly_spec (args := #[Value.ref b]) (first := s) (o := none) (s := s) (idx := []) (hs _ (gv_st 2 (by decide)))
  obtain ⟨s3, _, _, _, hq3, -⟩ := Cond.exactly_spec (args := #[Value.ref b]) (first := s) (o := none) (s := s) (idx := []) (hs _ (gv_st 3 (by decide)))
  obtain ⟨s4, _, _, _, hq4, -⟩ := Cond.exactly_spec (args := #[Value.ref b]) (first := s) (o := none) (s := s) (idx := []) (hs _ (gv_st 4 (by decide)))
  obtain ⟨Y, e0, e1, e2, e3, e4, e10, e20, e21, e22, e23, e24, eK, eV⟩ : ∃ Y : Nat → ClassId, Y 0 = y0 ∧ Y 1 = y1 ∧ Y 2 = y2 ∧ Y 3 = y3 ∧ Y 4 = y4 ∧ Y 10 = tp ∧ Y 20 = s0 ∧ Y 21 = s1 ∧ Y 22 = s2 ∧ Y 23 = s3 ∧ Y 24 = s4 ∧ (∀ i, i < 7 → Y (25 + i) = adK i) ∧ (∀ i, i < 7 → Y (40 + i) = adV i) := by
    refine ⟨(fun k => if k = 0 then y0 else if k = 1 then y1 else if k = 2 then y2 else if k = 3 then y3 else if k = 4 then y4 else if k = 10 then tp else if k = 20 then s0 else if k = 21 then s1 else if k = 22 then s2 else if k = 23 then s3 else if k = 24 then s4 else if k < 40 then adK (k - 25) else adV (k - 40)), by first | rfl | simp, by first | rfl | simp, by first | rfl | simp, by first | rfl | simp, by first | rfl | simp, by first | rfl | simp, by first | rfl | simp, by first | rfl | simp, by first | rfl | simp, by first | rfl | simp, by first | rfl | simp, fun i hi => ?_, fun i hi => ?_⟩
    · have h9 : i = 0 ∨ i = 1 ∨ i = 2 ∨ i = 3 ∨ i = 4 ∨ i = 5 ∨ i = 6 := by omega
      rcases h9 with rfl | rfl | rfl | rfl | rfl | rfl | rfl <;> first | rfl | simp
    · have h9 : i = 0 ∨ i = 1 ∨ i = 2 ∨ i = 3 ∨ i = 4 ∨ i = 5 ∨ i = 6 := by omega
      rcases h9 with rfl | rfl | rfl | rfl | rfl | rfl | rfl <;> first | rfl | simp
  refine ⟨D, Y, ⟨hD, ?_⟩, ?_, ⟨⟨?_, by rw [e10]; exact hp2⟩, ⟨?_, ?_, st_S hS1 eK eV⟩, ?_, ?_⟩, ?_, va_AO.of hov⟩
  · intro k q hq
    match k, hq with
    | 0, hq => cases hq; rw [e0]; exact hy0
    | 1, hq => cases hq; rw [e1]; exact hy1
    | 2, hq => cases hq; rw [e2]; exact hy2
    | 3, hq => cases hq; rw [e3]; exact hy3
    | 4, hq => cases hq; rw [e4]; exact hy4
    | k + 5, hq => simp [tysOf] at hq
  · intro t ht
    exact va_tabs (c := .methodLinkNest t.1 t.2.1 t.2.2.1 t.2.2.2) rfl rfl (hts _ (tb_nest _ (List.mem_map.mpr ⟨t, ht, rfl⟩)))
  · rw [e10]; exact va_Zof (hts _ (List.mem_of_getElem? (i := 240) (by decide +kernel))) (hts _ (List.mem_of_getElem? (i := 97) (by decide +kernel))) hp1 hA
  · exact va_Zof (hts _ (List.mem_of_getElem? (i := 1448) (by decide +kernel))) (hts _ (List.mem_of_getElem? (i := 108) (by decide +kernel))) (va_eqi (hs _ gv_cs)) hA
  · exact va_Zqof (hts _ (List.mem_of_getElem? (i := 1464) (by decide +kernel))) (hts _ (List.mem_of_getElem? (i := 110) (by decide +kernel))) (hs _ gv_si) hA
  · exact vx_Zqof (hts _ (List.mem_of_getElem? (i := 1123) (by decide +kernel))) (hts _ (List.mem_of_getElem? (i := 112) (by decide +kernel))) (hs _ gv_us) hA
  · exact vx_Zqof (hts _ (List.mem_of_getElem? (i := 1125) (by decide +kernel))) (hts _ (List.mem_of_getElem? (i := 112) (by decide +kernel))) (hs _ gv_ss) hA
  · intro i t hi
    have hm := hts _ (tb_str _ (List.mem_map.mpr ⟨t, List.mem_of_getElem? hi, rfl⟩))
    match i, hi with
    | 0, hi => cases hi; exact (show vk_R RX11 148 "no such cell" (Y 20) s from by rw [e20]; exact vk_R.of hm hq0)
    | 1, hi => cases hi; exact (show vk_R RX11 175 "nothing such is told of a cell" (Y 21) s from by rw [e21]; exact vk_R.of hm hq1)
    | 2, hi => cases hi; exact (show vk_R RX11 178 "no such child" (Y 22) s from by rw [e22]; exact vk_R.of hm hq2)
    | 3, hi => cases hi; exact (show vk_R RX11 201 "nothing such is told of a child" (Y 23) s from by rw [e23]; exact vk_R.of hm hq3)
    | 4, hi => cases hi; exact (show vk_R RX11 385 "the row has no such number" (Y 24) s from by rw [e24]; exact vk_R.of hm hq4)
    | 5, hi => cases hi; exact (show vk_R RX12 224 "nwcm" (Y (25 + 0)) s from by rw [eK 0 (by decide)]; exact vk_R.of hm (hS2 0 (by decide)))
    | 6, hi => cases hi; exact (show vk_R RX12 232 "<>=" (Y (25 + 1)) s from by rw [eK 1 (by decide)]; exact vk_R.of hm (hS2 1 (by decide)))
    | 7, hi => cases hi; exact (show vk_R RX12 234 "+-" (Y (25 + 2)) s from by rw [eK 2 (by decide)]; exact vk_R.of hm (hS2 2 (by decide)))
    | 8, hi => cases hi; exact (show vk_R RX12 236 "*/" (Y (25 + 3)) s from by rw [eK 3 (by decide)]; exact vk_R.of hm (hS2 3 (by decide)))
    | 9, hi => cases hi; exact (show vk_R RX12 377 "ghstmbw" (Y (25 + 4)) s from by rw [eK 4 (by decide)]; exact vk_R.of hm (hS2 4 (by decide)))
    | 10, hi => cases hi; exact (show vk_R RX12 379 "abcdefgh" (Y (25 + 5)) s from by rw [eK 5 (by decide)]; exact vk_R.of hm (hS2 5 (by decide)))
    | 11, hi => cases hi; exact (show vk_R RX12 381 "abcdefghijkl" (Y (25 + 6)) s from by rw [eK 6 (by decide)]; exact vk_R.of hm (hS2 6 (by decide)))
    | k + 12, hi => simp [strT] at hi
