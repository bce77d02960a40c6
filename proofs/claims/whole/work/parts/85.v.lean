theorem eB_X11_153 (T0 : Cond) : aF (T0 :: BIG) RX11 153 5 1 := ⟨RX5, TX5, 5, rfl, fun w h => List.mem_cons_of_mem _ (inBX5 w h), by decide, List.mem_cons_of_mem _ (inB21 _ (List.mem_of_getElem? (i := 4) rfl))⟩
theorem gB_X11_168 (T0 : Cond) : GoodIn (T0 :: BIG) (wsV RX11 168 RX9 yX9_childrenAt wsX9_childrenAt) := gBV (inB21 _ (List.mem_of_getElem? (i := 13) rfl)) (inB21 _ (List.mem_of_getElem? (i := 14) rfl)) (inB21 _ (List.mem_of_getElem? (i := 15) rfl)) (inB2 _ (List.mem_of_getElem? (i := 13) rfl)) (inB21 _ (List.mem_of_getElem? (i := 16) rfl))
theorem gB_X11_172 (T0 : Cond) : GoodIn (T0 :: BIG) (wsV RX11 172 RX9 yX9_top wsX9_top) := gBV (inB21 _ (List.mem_of_getElem? (i := 17) rfl)) (inB21 _ (List.mem_of_getElem? (i := 18) rfl)) (inB21 _ (List.mem_of_getElem? (i := 19) rfl)) (inB2 _ (List.mem_of_getElem? (i := 13) rfl)) (inB21 _ (List.mem_of_getElem? (i := 20) rfl))
theorem eB_X11_180 (T0 : Cond) : aF (T0 :: BIG) RX11 180 2 1 := ⟨RX2, TX2, 5, rfl, fun w h => List.mem_cons_of_mem _ (inBX2 w h), by decide, List.mem_cons_of_mem _ (inB23 _ (List.mem_of_getElem? (i := 12) rfl))⟩
theorem eB_X11_183 (T0 : Cond) : aF (T0 :: BIG) RX11 183 2 2 := ⟨RX2, TX2, 5, rfl, fun w h => List.mem_cons_of_mem _ (inBX2 w h), by decide, List.mem_cons_of_mem _ (inB23 _ (List.mem_of_getElem? (i := 13) rfl))⟩
theorem eB_X11_186 (T0 : Cond) : aF (T0 :: BIG) RX11 186 2 3 := ⟨RX2, TX2, 5, rfl, fun w h => List.mem_cons_of_mem _ (inBX2 w h), by decide, List.mem_cons_of_mem _ (inB23 _ (List.mem_of_getElem? (i := 14) rfl))⟩
theorem eB_X11_387 (T0 : Cond) : aF (T0 :: BIG) RX11 387 8 0 := ⟨RX8, TX8, 2, rfl, fun w h => List.mem_cons_of_mem _ (inBX8 w h), by decide, List.mem_cons_of_mem _ (inB59 _ (List.mem_of_getElem? (i := 11) rfl))⟩
-- X11_cell
abbrev rmX11_cell : Room := { frames := 6, cells := 0, slots := 0, locals := 100 }
theorem dvX11_cell : yX11_cell.cls = RX11 ∧ yX11_cell.cls ≠ "java/lang/invoke/MethodHandle" ∧ yX11_cell.cls ≠ "java/lang/invoke/VarHandle" ∧ (parseMethodDescriptor yX11_cell.desc).map (fun d => d.parameters.length) = some 2 := by decide +kernel
def fX11_cell (iC_size : Int32) (iL_cells : Int32) (cL_base : Nat → Int32) (cL_dyke : Nat → Int32) (inow_moats : Int32) (cnow_wall : Nat → Int32) (cnow_depth : Nat → Int32) (cnow_place : Nat → Int32) (x1 : Int32) (x2 : Int32) : Option (Int32) :=
  (fX5_has iL_cells x1).bind (fun r1 => if r1 = (0 : Int32) then (none) else (if x2 = (0 : Int32) then (if inb x1 12 then some (cL_base (Int32.toNatClampNeg x1)) else none) else if x2 = (1 : Int32) then (if inb x1 12 then some (cnow_wall (Int32.toNatClampNeg x1)) else none) else if x2 = (2 : Int32) then (some ((jshr inow_moats x1) &&& (1 : Int32))) else if x2 = (3 : Int32) then (if inb x1 12 then some (cnow_depth (Int32.toNatClampNeg x1)) else none) else if x2 = (4 : Int32) then (if inb x1 12 then some (cL_dyke (Int32.toNatClampNeg x1)) else none) else if x2 = (5 : Int32) then ((fX9_childrenAt cnow_place iC_size x1).bind (fun r13 => some r13)) else if x2 = (6 : Int32) then ((fX9_top cnow_wall cL_base x1).bind (fun r15 => some r15)) else (none)))
set_option maxHeartbeats 400000 in
set_option maxRecDepth 100000 in
theorem kX11_cell (l : Launch) (D : va_G) (Y : Nat → ClassId) (ao atext atold aL aC alaw aotherLaw anow atrial ahistory aguess acrewPlan amoatPlan achance : Nat → Nat) (io_wind : Int32) (io_spadeLimit : Int32) (iC_size : Int32) (iL_cells : Int32) (cL_base : Nat → Int32) (cL_dyke : Nat → Int32) (inow_moats : Int32) (inow_spades : Int32) (inow_tides : Int32) (cnow_wall : Nat → Int32) (cnow_depth : Nat → Int32) (cnow_place : Nat → Int32) (x1 : Int32) (x2 : Int32) (res : Int32) (hf : fX11_cell iC_size iL_cells cL_base cL_dyke inow_moats cnow_wall cnow_depth cnow_place x1 x2 = some res) : amf l D Y yX11_cell wsX11_cell rmX11_cell [.ref (ao 0), .int x1, .int x2] [oX11 ao atext atold aL aC alaw aotherLaw anow atrial ahistory aguess acrewPlan amoatPlan achance io_wind io_spadeLimit, oX2 aC iC_size, oX5 aL iL_cells, rI Y (aL 1) 12 cL_base, rI Y (aL 2) 12 cL_dyke, oX9 anow aL aC inow_moats inow_spades inow_tides, rI Y (anow 1) 12 cnow_wall, rI Y (anow 2) 12 cnow_depth, rI Y (anow 4) 8 cnow_place] (some (.int res)) [oX11 ao atext atold aL aC alaw aotherLaw anow atrial ahistory aguess acrewPlan amoatPlan achance io_wind io_spadeLimit, oX2 aC iC_size, oX5 aL iL_cells, rI Y (aL 1) 12 cL_base, rI Y (aL 2) 12 cL_dyke, oX9 anow aL aC inow_moats inow_spades inow_tides, rI Y (anow 1) 12 cnow_wall, rI Y (anow 2) 12 cnow_depth, rI Y (anow 4) 8 cnow_place] := by
  refine amf.of (cc := cX11_cell) (maxL := 3) (rt := (some .int)) (by decide) rfl RX11 rfl (Nat.le_of_ble_eq_true rfl) [some (.ref (ao 0)), some (.int x1), some (.int x2)] rfl ?_
  intro X C hQ
  unfold fX11_cell at hf
  refine a_aload_n C dX11_cell_0 rfl ?_
  refine a_get C (eB_X11_26 _) dX11_cell_1 0 rfl rfl ?_
  refine a_iload_n C dX11_cell_4 rfl ?_
  obtain ⟨r1, h1, hf⟩ := fx_bind hf
  refine a_fV C (kX5_has l D Y aL iL_cells x1 r1 h1) (gB_X11_143 _) rfl dvX5_has ⟨⟨rfl, rfl⟩, ⟨Nat.le_of_ble_eq_true rfl, Nat.le_of_ble_eq_true rfl⟩, ⟨Nat.le_of_ble_eq_true rfl, Nat.le_of_ble_eq_true rfl⟩⟩ rfl (Nat.le_of_ble_eq_true rfl) dX11_cell_5 rfl rfl [2] [0, 1, 3, 4, 5, 6, 7, 8] ⟨rfl, trivial⟩ (by decide +kernel) rfl [oX11 ao atext atold aL aC alaw aotherLaw anow atrial ahistory aguess acrewPlan amoatPlan achance io_wind io_spadeLimit, oX2 aC iC_size, oX5 aL iL_cells, rI Y (aL 1) 12 cL_base, rI Y (aL 2) 12 cL_dyke, oX9 anow aL aC inow_moats inow_spades inow_tides, rI Y (anow 1) 12 cnow_wall, rI Y (anow 2) 12 cnow_depth, rI Y (anow 4) 8 cnow_place] ⟨rfl, trivial⟩ ⟨rfl, rfl, rfl, rfl, rfl, rfl, rfl, rfl, trivial⟩ 9 rfl (by decide +kernel) ?_
  refine a_if_ne C 21 dX11_cell_8 (by decide) (fun h2 => ?_) (fun h2 => ?_)
  · have hf := fx_f h2 hf
    refine a_iload_n C dX11_cell_21 rfl ?_
    by_cases h3 : x2 = (0 : Int32)
    · have hf := fx_t h3 hf
      refine a_tableIn (off := 42) C 64 dX11_cell_22 (by rw [h3]; decide) (by rw [h3]; decide) (by rw [h3]; first | done | rfl | decide) (by decide) ?_
      refine a_aload_n C dX11_cell_64 rfl ?_
      refine a_get C (eB_X11_26 _) dX11_cell_65 0 rfl rfl ?_
      refine a_get C (eB_X11_153 _) dX11_cell_68 2 rfl rfl ?_
      refine a_iload_n C dX11_cell_71 rfl ?_
      obtain ⟨h4, hf⟩ := fx_ite hf
      refine a_iald C dX11_cell_72 3 rfl h4 ?_
      obtain rfl := fx_some hf
      exact a_iret C hQ dX11_cell_73 ⟨rfl, rfl⟩
    have hf := fx_f h3 hf
    by_cases h5 : x2 = (1 : Int32)
    · have hf := fx_t h5 hf
      refine a_tableIn (off := 52) C 74 dX11_cell_22 (by rw [h5]; decide) (by rw [h5]; decide) (by rw [h5]; first | done | rfl | decide) (by decide) ?_
      refine a_aload_n C dX11_cell_74 rfl ?_
      refine a_get C (eB_X11_56 _) dX11_cell_75 0 rfl rfl ?_
      refine a_get C (eB_X11_156 _) dX11_cell_78 5 rfl rfl ?_
      refine a_iload_n C dX11_cell_81 rfl ?_
      obtain ⟨h6, hf⟩ := fx_ite hf
      refine a_iald C dX11_cell_82 6 rfl h6 ?_
      obtain rfl := fx_some hf
      exact a_iret C hQ dX11_cell_83 ⟨rfl, rfl⟩
    have hf := fx_f h5 hf
    by_cases h7 : x2 = (2 : Int32)
    · have hf := fx_t h7 hf
      refine a_tableIn (off := 62) C 84 dX11_cell_22 (by rw [h7]; decide) (by rw [h7]; decide) (by rw [h7]; first | done | rfl | decide) (by decide) ?_
      refine a_aload_n C dX11_cell_84 rfl ?_
      refine a_get C (eB_X11_56 _) dX11_cell_85 0 rfl rfl ?_
      refine a_get C (eB_X11_159 _) dX11_cell_88 5 rfl rfl ?_
      refine a_iload_n C dX11_cell_91 rfl ?_
      refine a_ishr C dX11_cell_92 ?_
      refine a_iconst C (1 : Int32) dX11_cell_93 (by decide) ?_
      refine a_iand C dX11_cell_94 ?_
      obtain rfl := fx_some hf
      exact a_iret C hQ dX11_cell_95 ⟨rfl, rfl⟩
    have hf := fx_f h7 hf
    by_cases h8 : x2 = (3 : Int32)
    · have hf := fx_t h8 hf
      refine a_tableIn (off := 74) C 96 dX11_cell_22 (by rw [h8]; decide) (by rw [h8]; decide) (by rw [h8]; first | done | rfl | decide) (by decide) ?_
      refine a_aload_n C dX11_cell_96 rfl ?_
      refine a_get C (eB_X11_56 _) dX11_cell_97 0 rfl rfl ?_
      refine a_get C (eB_X11_162 _) dX11_cell_100 5 rfl rfl ?_
      refine a_iload_n C dX11_cell_103 rfl ?_
      obtain ⟨h9, hf⟩ := fx_ite hf
      refine a_iald C dX11_cell_104 7 rfl h9 ?_
      obtain rfl := fx_some hf
      exact a_iret C hQ dX11_cell_105 ⟨rfl, rfl⟩
    have hf := fx_f h8 hf
    by_cases h10 : x2 = (4 : Int32)
    · have hf := fx_t h10 hf
      refine a_tableIn (off := 84) C 106 dX11_cell_22 (by rw [h10]; decide) (by rw [h10]; decide) (by rw [h10]; first | done | rfl | decide) (by decide) ?_
      refine a_aload_n C dX11_cell_106 rfl ?_
      refine a_get C (eB_X11_26 _) dX11_cell_107 0 rfl rfl ?_
      refine a_get C (eB_X11_165 _) dX11_cell_110 2 rfl rfl ?_
      refine a_iload_n C dX11_cell_113 rfl ?_
      obtain ⟨h11, hf⟩ := fx_ite hf
      refine a_iald C dX11_cell_114 4 rfl h11 ?_
      obtain rfl := fx_some hf
      exact a_iret C hQ dX11_cell_115 ⟨rfl, rfl⟩
    have hf := fx_f h10 hf
    by_cases h12 : x2 = (5 : Int32)
    · have hf := fx_t h12 hf
      refine a_tableIn (off := 94) C 116 dX11_cell_22 (by rw [h12]; decide) (by rw [h12]; decide) (by rw [h12]; first | done | rfl | decide) (by decide) ?_
      refine a_aload_n C dX11_cell_116 rfl ?_
      refine a_get C (eB_X11_56 _) dX11_cell_117 0 rfl rfl ?_
      refine a_iload_n C dX11_cell_120 rfl ?_
      obtain ⟨r13, h13, hf⟩ := fx_bind hf
      refine a_fV C (kX9_childrenAt l D Y anow aL aC inow_moats inow_spades inow_tides cnow_place iC_size x1 r13 h13) (gB_X11_168 _) rfl dvX9_childrenAt ⟨⟨rfl, rfl⟩, ⟨Nat.le_of_ble_eq_true rfl, Nat.le_of_ble_eq_true rfl⟩, ⟨Nat.le_of_ble_eq_true rfl, Nat.le_of_ble_eq_true rfl⟩⟩ rfl (Nat.le_of_ble_eq_true rfl) dX11_cell_121 rfl rfl [5, 8, 1] [0, 2, 3, 4, 6, 7] ⟨rfl, rfl, rfl, trivial⟩ (by decide +kernel) rfl [oX11 ao atext atold aL aC alaw aotherLaw anow atrial ahistory aguess acrewPlan amoatPlan achance io_wind io_spadeLimit, oX2 aC iC_size, oX5 aL iL_cells, rI Y (aL 1) 12 cL_base, rI Y (aL 2) 12 cL_dyke, oX9 anow aL aC inow_moats inow_spades inow_tides, rI Y (anow 1) 12 cnow_wall, rI Y (anow 2) 12 cnow_depth, rI Y (anow 4) 8 cnow_place] ⟨rfl, rfl, rfl, trivial⟩ ⟨rfl, rfl, rfl, rfl, rfl, rfl, trivial⟩ 9 rfl (by decide +kernel) ?_
      obtain rfl := fx_some hf
      exact a_iret C hQ dX11_cell_124 ⟨rfl, rfl⟩
    have hf := fx_f h12 hf
    by_cases h14 : x2 = (6 : Int32)
    · have hf := fx_t h14 hf
      refine a_tableIn (off := 103) C 125 dX11_cell_22 (by rw [h14]; decide) (by rw [h14]; decide) (by rw [h14]; first | done | rfl | decide) (by decide) ?_
      refine a_aload_n C dX11_cell_125 rfl ?_
      refine a_get C (eB_X11_56 _) dX11_cell_126 0 rfl rfl ?_
      refine a_iload_n C dX11_cell_129 rfl ?_
      obtain ⟨r15, h15, hf⟩ := fx_bind hf
      refine a_fV C (kX9_top l D Y anow aL aC inow_moats inow_spades inow_tides cnow_wall iL_cells cL_base x1 r15 h15) (gB_X11_172 _) rfl dvX9_top ⟨⟨rfl, rfl⟩, ⟨Nat.le_of_ble_eq_true rfl, Nat.le_of_ble_eq_true rfl⟩, ⟨Nat.le_of_ble_eq_true rfl, Nat.le_of_ble_eq_true rfl⟩⟩ rfl (Nat.le_of_ble_eq_true rfl) dX11_cell_130 rfl rfl [5, 6, 2, 3] [0, 1, 4, 7, 8] ⟨rfl, rfl, rfl, rfl, trivial⟩ (by decide +kernel) rfl [oX11 ao atext atold aL aC alaw aotherLaw anow atrial ahistory aguess acrewPlan amoatPlan achance io_wind io_spadeLimit, oX2 aC iC_size, oX5 aL iL_cells, rI Y (aL 1) 12 cL_base, rI Y (aL 2) 12 cL_dyke, oX9 anow aL aC inow_moats inow_spades inow_tides, rI Y (anow 1) 12 cnow_wall, rI Y (anow 2) 12 cnow_depth, rI Y (anow 4) 8 cnow_place] ⟨rfl, rfl, rfl, rfl, trivial⟩ ⟨rfl, rfl, rfl, rfl, rfl, trivial⟩ 9 rfl (by decide +kernel) ?_
      obtain rfl := fx_some hf
      exact a_iret C hQ dX11_cell_133 ⟨rfl, rfl⟩
    have hf := fx_f h14 hf
    refine a_tableOut C 134 dX11_cell_22 (by have z0 := lv_neT (a := 0) h3 (by decide); have z1 := lv_neT (a := 1) h5 (by decide); have z2 := lv_neT (a := 2) h7 (by decide); have z3 := lv_neT (a := 3) h8 (by decide); have z4 := lv_neT (a := 4) h10 (by decide); have z5 := lv_neT (a := 5) h12 (by decide); have z6 := lv_neT (a := 6) h14 (by decide); omega) (by decide) ?_
    cases hf
  · have hf := fx_t h2 hf
    cases hf
abbrev rtX11_cell : Room := { frames := 6, cells := 1, slots := 6, locals := 100 }
def tX11_cell (iC_size : Int32) (iL_cells : Int32) (cL_base : Nat → Int32) (cL_dyke : Nat → Int32) (inow_moats : Int32) (cnow_wall : Nat → Int32) (cnow_depth : Nat → Int32) (cnow_place : Nat → Int32) (x1 : Int32) (x2 : Int32) : Option Unit :=
  (fX5_has iL_cells x1).bind (fun r1 => if r1 = (0 : Int32) then (some ()) else (if x2 = (0 : Int32) then (if inb x1 12 then none else none) else if x2 = (1 : Int32) then (if inb x1 12 then none else none) else if x2 = (2 : Int32) then (none) else if x2 = (3 : Int32) then (if inb x1 12 then none else none) else if x2 = (4 : Int32) then (if inb x1 12 then none else none) else if x2 = (5 : Int32) then ((fX9_childrenAt cnow_place iC_size x1).bind (fun r13 => none)) else if x2 = (6 : Int32) then ((fX9_top cnow_wall cL_base x1).bind (fun r15 => none)) else (some ())))
set_option maxHeartbeats 400000 in
set_option maxRecDepth 100000 in
theorem hX11_cell (l : Launch) (hl : l.stackTraces = false) (D : va_G) (Y : Nat → ClassId) (ao atext atold aL aC alaw aotherLaw anow atrial ahistory aguess acrewPlan amoatPlan achance : Nat → Nat) (io_wind : Int32) (io_spadeLimit : Int32) (iC_size : Int32) (iL_cells : Int32) (cL_base : Nat → Int32) (cL_dyke : Nat → Int32) (inow_moats : Int32) (inow_spades : Int32) (inow_tides : Int32) (cnow_wall : Nat → Int32) (cnow_depth : Nat → Int32) (cnow_place : Nat → Int32) (x1 : Int32) (x2 : Int32) (hf : tX11_cell iC_size iL_cells cL_base cL_dyke inow_moats cnow_wall cnow_depth cnow_place x1 x2 = some ()) : amt l D Y yX11_cell wsX11_cell rtX11_cell [.ref (ao 0), .int x1, .int x2] [oX11 ao atext atold aL aC alaw aotherLaw anow atrial ahistory aguess acrewPlan amoatPlan achance io_wind io_spadeLimit, oX2 aC iC_size, oX5 aL iL_cells, rI Y (aL 1) 12 cL_base, rI Y (aL 2) 12 cL_dyke, oX9 anow aL aC inow_moats inow_spades inow_tides, rI Y (anow 1) 12 cnow_wall, rI Y (anow 2) 12 cnow_depth, rI Y (anow 4) 8 cnow_place] 1 6 := by
  refine amt.of (cc := cX11_cell) (maxL := 3) (rt := (some .int)) (by decide) rfl RX11 rfl (Nat.le_of_ble_eq_true rfl) [some (.ref (ao 0)), some (.int x1), some (.int x2)] rfl ?_
  intro X C hT
  have rr : 5 < (rtX11_cell).frames ∧ 82 ≤ (rtX11_cell).locals ∧ 0 + 1 ≤ (rtX11_cell).cells ∧ 0 + 6 ≤ (rtX11_cell).slots := ⟨by decide, by decide, by decide, by decide⟩
  unfold tX11_cell at hf
  refine a_aload_n C dX11_cell_0 rfl ?_
  refine a_get C (eB_X11_26 _) dX11_cell_1 0 rfl rfl ?_
  refine a_iload_n C dX11_cell_4 rfl ?_
  obtain ⟨r1, h1, hf⟩ := fx_bind hf
  refine a_fV C (kX5_has l D Y aL iL_cells x1 r1 h1) (gB_X11_143 _) rfl dvX5_has ⟨⟨rfl, rfl⟩, ⟨Nat.le_of_ble_eq_true rfl, Nat.le_of_ble_eq_true rfl⟩, ⟨Nat.le_of_ble_eq_true rfl, Nat.le_of_ble_eq_true rfl⟩⟩ rfl (Nat.le_of_ble_eq_true rfl) dX11_cell_5 rfl rfl [2] [0, 1, 3, 4, 5, 6, 7, 8] ⟨rfl, trivial⟩ (by decide +kernel) rfl [oX11 ao atext atold aL aC alaw aotherLaw anow atrial ahistory aguess acrewPlan amoatPlan achance io_wind io_spadeLimit, oX2 aC iC_size, oX5 aL iL_cells, rI Y (aL 1) 12 cL_base, rI Y (aL 2) 12 cL_dyke, oX9 anow aL aC inow_moats inow_spades inow_tides, rI Y (anow 1) 12 cnow_wall, rI Y (anow 2) 12 cnow_depth, rI Y (anow 4) 8 cnow_place] ⟨rfl, trivial⟩ ⟨rfl, rfl, rfl, rfl, rfl, rfl, rfl, rfl, trivial⟩ 9 rfl (by decide +kernel) ?_
  refine a_if_ne C 21 dX11_cell_8 (by decide) (fun h2 => ?_) (fun h2 => ?_)
  · have hf := fx_f h2 hf
    refine a_iload_n C dX11_cell_21 rfl ?_
    by_cases h3 : x2 = (0 : Int32)
    · have hf := fx_t h3 hf
      refine a_tableIn (off := 42) C 64 dX11_cell_22 (by rw [h3]; decide) (by rw [h3]; decide) (by rw [h3]; first | done | rfl | decide) (by decide) ?_
      refine a_aload_n C dX11_cell_64 rfl ?_
      refine a_get C (eB_X11_26 _) dX11_cell_65 0 rfl rfl ?_
      refine a_get C (eB_X11_153 _) dX11_cell_68 2 rfl rfl ?_
      refine a_iload_n C dX11_cell_71 rfl ?_
      obtain ⟨h4, hf⟩ := fx_ite hf
      refine a_iald C dX11_cell_72 3 rfl h4 ?_
      cases hf
    have hf := fx_f h3 hf
    by_cases h5 : x2 = (1 : Int32)
    · have hf := fx_t h5 hf
      refine a_tableIn (off := 52) C 74 dX11_cell_22 (by rw [h5]; decide) (by rw [h5]; decide) (by rw [h5]; first | done | rfl | decide) (by decide) ?_
      refine a_aload_n C dX11_cell_74 rfl ?_
      refine a_get C (eB_X11_56 _) dX11_cell_75 0 rfl rfl ?_
      refine a_get C (eB_X11_156 _) dX11_cell_78 5 rfl rfl ?_
      refine a_iload_n C dX11_cell_81 rfl ?_
      obtain ⟨h6, hf⟩ := fx_ite hf
      refine a_iald C dX11_cell_82 6 rfl h6 ?_
      cases hf
    have hf := fx_f h5 hf
    by_cases h7 : x2 = (2 : Int32)
    · have hf := fx_t h7 hf
      refine a_tableIn (off := 62) C 84 dX11_cell_22 (by rw [h7]; decide) (by rw [h7]; decide) (by rw [h7]; first | done | rfl | decide) (by decide) ?_
      refine a_aload_n C dX11_cell_84 rfl ?_
      refine a_get C (eB_X11_56 _) dX11_cell_85 0 rfl rfl ?_
      refine a_get C (eB_X11_159 _) dX11_cell_88 5 rfl rfl ?_
      refine a_iload_n C dX11_cell_91 rfl ?_
      refine a_ishr C dX11_cell_92 ?_
      refine a_iconst C (1 : Int32) dX11_cell_93 (by decide) ?_
      refine a_iand C dX11_cell_94 ?_
      cases hf
    have hf := fx_f h7 hf
    by_cases h8 : x2 = (3 : Int32)
    · have hf := fx_t h8 hf
      refine a_tableIn (off := 74) C 96 dX11_cell_22 (by rw [h8]; decide) (by rw [h8]; decide) (by rw [h8]; first | done | rfl | decide) (by decide) ?_
      refine a_aload_n C dX11_cell_96 rfl ?_
      refine a_get C (eB_X11_56 _) dX11_cell_97 0 rfl rfl ?_
      refine a_get C (eB_X11_162 _) dX11_cell_100 5 rfl rfl ?_
      refine a_iload_n C dX11_cell_103 rfl ?_
      obtain ⟨h9, hf⟩ := fx_ite hf
      refine a_iald C dX11_cell_104 7 rfl h9 ?_
      cases hf
    have hf := fx_f h8 hf
    by_cases h10 : x2 = (4 : Int32)
    · have hf := fx_t h10 hf
      refine a_tableIn (off := 84) C 106 dX11_cell_22 (by rw [h10]; decide) (by rw [h10]; decide) (by rw [h10]; first | done | rfl | decide) (by decide) ?_
      refine a_aload_n C dX11_cell_106 rfl ?_
      refine a_get C (eB_X11_26 _) dX11_cell_107 0 rfl rfl ?_
      refine a_get C (eB_X11_165 _) dX11_cell_110 2 rfl rfl ?_
      refine a_iload_n C dX11_cell_113 rfl ?_
      obtain ⟨h11, hf⟩ := fx_ite hf
      refine a_iald C dX11_cell_114 4 rfl h11 ?_
      cases hf
    have hf := fx_f h10 hf
    by_cases h12 : x2 = (5 : Int32)
    · have hf := fx_t h12 hf
      refine a_tableIn (off := 94) C 116 dX11_cell_22 (by rw [h12]; decide) (by rw [h12]; decide) (by rw [h12]; first | done | rfl | decide) (by decide) ?_
      refine a_aload_n C dX11_cell_116 rfl ?_
      refine a_get C (eB_X11_56 _) dX11_cell_117 0 rfl rfl ?_
      refine a_iload_n C dX11_cell_120 rfl ?_
      obtain ⟨r13, h13, hf⟩ := fx_bind hf
      refine a_fV C (kX9_childrenAt l D Y anow aL aC inow_moats inow_spades inow_tides cnow_place iC_size x1 r13 h13) (gB_X11_168 _) rfl dvX9_childrenAt ⟨⟨rfl, rfl⟩, ⟨Nat.le_of_ble_eq_true rfl, Nat.le_of_ble_eq_true rfl⟩, ⟨Nat.le_of_ble_eq_true rfl, Nat.le_of_ble_eq_true rfl⟩⟩ rfl (Nat.le_of_ble_eq_true rfl) dX11_cell_121 rfl rfl [5, 8, 1] [0, 2, 3, 4, 6, 7] ⟨rfl, rfl, rfl, trivial⟩ (by decide +kernel) rfl [oX11 ao atext atold aL aC alaw aotherLaw anow atrial ahistory aguess acrewPlan amoatPlan achance io_wind io_spadeLimit, oX2 aC iC_size, oX5 aL iL_cells, rI Y (aL 1) 12 cL_base, rI Y (aL 2) 12 cL_dyke, oX9 anow aL aC inow_moats inow_spades inow_tides, rI Y (anow 1) 12 cnow_wall, rI Y (anow 2) 12 cnow_depth, rI Y (anow 4) 8 cnow_place] ⟨rfl, rfl, rfl, trivial⟩ ⟨rfl, rfl, rfl, rfl, rfl, rfl, trivial⟩ 9 rfl (by decide +kernel) ?_
      cases hf
    have hf := fx_f h12 hf
    by_cases h14 : x2 = (6 : Int32)
    · have hf := fx_t h14 hf
      refine a_tableIn (off := 103) C 125 dX11_cell_22 (by rw [h14]; decide) (by rw [h14]; decide) (by rw [h14]; first | done | rfl | decide) (by decide) ?_
      refine a_aload_n C dX11_cell_125 rfl ?_
      refine a_get C (eB_X11_56 _) dX11_cell_126 0 rfl rfl ?_
      refine a_iload_n C dX11_cell_129 rfl ?_
      obtain ⟨r15, h15, hf⟩ := fx_bind hf
      refine a_fV C (kX9_top l D Y anow aL aC inow_moats inow_spades inow_tides cnow_wall iL_cells cL_base x1 r15 h15) (gB_X11_172 _) rfl dvX9_top ⟨⟨rfl, rfl⟩, ⟨Nat.le_of_ble_eq_true rfl, Nat.le_of_ble_eq_true rfl⟩, ⟨Nat.le_of_ble_eq_true rfl, Nat.le_of_ble_eq_true rfl⟩⟩ rfl (Nat.le_of_ble_eq_true rfl) dX11_cell_130 rfl rfl [5, 6, 2, 3] [0, 1, 4, 7, 8] ⟨rfl, rfl, rfl, rfl, trivial⟩ (by decide +kernel) rfl [oX11 ao atext atold aL aC alaw aotherLaw anow atrial ahistory aguess acrewPlan amoatPlan achance io_wind io_spadeLimit, oX2 aC iC_size, oX5 aL iL_cells, rI Y (aL 1) 12 cL_base, rI Y (aL 2) 12 cL_dyke, oX9 anow aL aC inow_moats inow_spades inow_tides, rI Y (anow 1) 12 cnow_wall, rI Y (anow 2) 12 cnow_depth, rI Y (anow 4) 8 cnow_place] ⟨rfl, rfl, rfl, rfl, trivial⟩ ⟨rfl, rfl, rfl, rfl, rfl, trivial⟩ 9 rfl (by decide +kernel) ?_
      cases hf
    have hf := fx_f h14 hf
    refine a_tableOut C 134 dX11_cell_22 (by have z0 := lv_neT (a := 0) h3 (by decide); have z1 := lv_neT (a := 1) h5 (by decide); have z2 := lv_neT (a := 2) h7 (by decide); have z3 := lv_neT (a := 3) h8 (by decide); have z4 := lv_neT (a := 4) h10 (by decide); have z5 := lv_neT (a := 5) h12 (by decide); have z6 := lv_neT (a := 6) h14 (by decide); omega) (by decide) ?_
    exact a_thr C hT hl 1 rfl dX11_cell_134 dX11_cell_137 dX11_cell_138 dX11_cell_140 dX11_cell_143 rr
  · have hf := fx_t h2 hf
    exact a_thr C hT hl 0 rfl dX11_cell_11 dX11_cell_14 dX11_cell_15 dX11_cell_17 dX11_cell_20 rr
-- X11_child
abbrev rmX11_child : Room := { frames := 6, cells := 0, slots := 0, locals := 100 }
theorem dvX11_child : yX11_child.cls = RX11 ∧ yX11_child.cls ≠ "java/lang/invoke/MethodHandle" ∧ yX11_child.cls ≠ "java/lang/invoke/VarHandle" ∧ (parseMethodDescriptor yX11_child.desc).map (fun d => d.parameters.length) = some 2 := by decide +kernel
def fX11_child (iC_size : Int32) (cC_age : Nat → Int32) (cC_skill : Nat → Int32) (cC_friend : Nat → Int32) (cC_pals : Nat → Int32) (inow_spades : Int32) (cnow_mood : Nat → Int32) (cnow_place : Nat → Int32) (x1 : Int32) (x2 : Int32) : Option (Int32) :=
  (fX2_has iC_size x1).bind (fun r1 => if r1 = (0 : Int32) then (none) else (if x2 = (0 : Int32) then (if inb x1 8 then some (cC_age (Int32.toNatClampNeg x1)) else none) else if x2 = (1 : Int32) then (if inb x1 8 then some (cC_skill (Int32.toNatClampNeg x1)) else none) else if x2 = (2 : Int32) then (if inb x1 8 then some (cC_friend (Int32.toNatClampNeg x1)) else none) else if x2 = (3 : Int32) then (if inb x1 8 then some (cnow_mood (Int32.toNatClampNeg x1)) else none) else if x2 = (4 : Int32) then (some ((jshr inow_spades x1) &&& (1 : Int32))) else if x2 = (5 : Int32) then (if inb x1 8 then some (cnow_place (Int32.toNatClampNeg x1)) else none) else if x2 = (6 : Int32) then ((fX9_buckets inow_spades cnow_mood cnow_place iC_size cC_age cC_skill cC_pals x1).bind (fun r15 => some r15)) else (none)))
set_option maxHeartbeats 400000 in
set_option maxRecDepth 100000 in
theorem kX11_child (l : Launch) (D : va_G) (Y : Nat → ClassId) (ao atext atold aL aC alaw aotherLaw anow atrial ahistory aguess acrewPlan amoatPlan achance : Nat → Nat) (io_wind : Int32) (io_spadeLimit : Int32) (iC_size : Int32) (cC_age : Nat → Int32) (cC_skill : Nat → Int32) (cC_friend : Nat → Int32) (cC_pals : Nat → Int32) (inow_moats : Int32) (inow_spades : Int32) (inow_tides : Int32) (cnow_mood : Nat → Int32) (cnow_place : Nat → Int32) (x1 : Int32) (x2 : Int32) (res : Int32) (hf : fX11_child iC_size cC_age cC_skill cC_friend cC_pals inow_spades cnow_mood cnow_place x1 x2 = some res) : amf l D Y yX11_child wsX11_child rmX11_child [.ref (ao 0), .int x1, .int x2] [oX11 ao atext atold aL aC alaw aotherLaw anow atrial ahistory aguess acrewPlan amoatPlan achance io_wind io_spadeLimit, oX2 aC iC_size, rI Y (aC 1) 8 cC_age, rI Y (aC 2) 8 cC_skill, rI Y (aC 3) 8 cC_friend, rI Y (aC 4) 8 cC_pals, oX9 anow aL aC inow_moats inow_spades inow_tides, rI Y (anow 3) 8 cnow_mood, rI Y (anow 4) 8 cnow_place] (some (.int res)) [oX11 ao atext atold aL aC alaw aotherLaw anow atrial ahistory aguess acrewPlan amoatPlan achance io_wind io_spadeLimit, oX2 aC iC_size, rI Y (aC 1) 8 cC_age, rI Y (aC 2) 8 cC_skill, rI Y (aC 3) 8 cC_friend, rI Y (aC 4) 8 cC_pals, oX9 anow aL aC inow_moats inow_spades inow_tides, rI Y (anow 3) 8 cnow_mood, rI Y (anow 4) 8 cnow_place] := by
  refine amf.of (cc := cX11_child) (maxL := 3) (rt := (some .int)) (by decide) rfl RX11 rfl (Nat.le_of_ble_eq_true rfl) [some (.ref (ao 0)), some (.int x1), some (.int x2)] rfl ?_
  intro X C hQ
  unfold fX11_child at hf
  refine a_aload_n C dX11_child_0 rfl ?_
  refine a_get C (eB_X11_33 _) dX11_child_1 0 rfl rfl ?_
  refine a_iload_n C dX11_child_4 rfl ?_
  obtain ⟨r1, h1, hf⟩ := fx_bind hf
  refine a_fV C (kX2_has l D Y aC iC_size x1 r1 h1) (gB_X11_177 _) rfl dvX2_has ⟨⟨rfl, rfl⟩, ⟨Nat.le_of_ble_eq_true rfl, Nat.le_of_ble_eq_true rfl⟩, ⟨Nat.le_of_ble_eq_true rfl, Nat.le_of_ble_eq_true rfl⟩⟩ rfl (Nat.le_of_ble_eq_true rfl) dX11_child_5 rfl rfl [1] [0, 2, 3, 4, 5, 6, 7, 8] ⟨rfl, trivial⟩ (by decide +kernel) rfl [oX11 ao atext atold aL aC alaw aotherLaw anow atrial ahistory aguess acrewPlan amoatPlan achance io_wind io_spadeLimit, oX2 aC iC_size, rI Y (aC 1) 8 cC_age, rI Y (aC 2) 8 cC_skill, rI Y (aC 3) 8 cC_friend, rI Y (aC 4) 8 cC_pals, oX9 anow aL aC inow_moats inow_spades inow_tides, rI Y (anow 3) 8 cnow_mood, rI Y (anow 4) 8 cnow_place] ⟨rfl, trivial⟩ ⟨rfl, rfl, rfl, rfl, rfl, rfl, rfl, rfl, trivial⟩ 9 rfl (by decide +kernel) ?_
  refine a_if_ne C 21 dX11_child_8 (by decide) (fun h2 => ?_) (fun h2 => ?_)
  · have hf := fx_f h2 hf
    refine a_iload_n C dX11_child_21 rfl ?_
    by_cases h3 : x2 = (0 : Int32)
    · have hf := fx_t h3 hf
      refine a_tableIn (off := 42) C 64 dX11_child_22 (by rw [h3]; decide) (by rw [h3]; decide) (by rw [h3]; first | done | rfl | decide) (by decide) ?_
      refine a_aload_n C dX11_child_64 rfl ?_
      refine a_get C (eB_X11_33 _) dX11_child_65 0 rfl rfl ?_
      refine a_get C (eB_X11_180 _) dX11_child_68 1 rfl rfl ?_
      refine a_iload_n C dX11_child_71 rfl ?_
      obtain ⟨h4, hf⟩ := fx_ite hf
      refine a_iald C dX11_child_72 2 rfl h4 ?_
      obtain rfl := fx_some hf
      exact a_iret C hQ dX11_child_73 ⟨rfl, rfl⟩
    have hf := fx_f h3 hf
    by_cases h5 : x2 = (1 : Int32)
    · have hf := fx_t h5 hf
      refine a_tableIn (off := 52) C 74 dX11_child_22 (by rw [h5]; decide) (by rw [h5]; decide) (by rw [h5]; first | done | rfl | decide) (by decide) ?_
      refine a_aload_n C dX11_child_74 rfl ?_
      refine a_get C (eB_X11_33 _) dX11_child_75 0 rfl rfl ?_
      refine a_get C (eB_X11_183 _) dX11_child_78 1 rfl rfl ?_
      refine a_iload_n C dX11_child_81 rfl ?_
      obtain ⟨h6, hf⟩ := fx_ite hf
      refine a_iald C dX11_child_82 3 rfl h6 ?_
      obtain rfl := fx_some hf
      exact a_iret C hQ dX11_child_83 ⟨rfl, rfl⟩
    have hf := fx_f h5 hf
    by_cases h7 : x2 = (2 : Int32)
    · have hf := fx_t h7 hf
      refine a_tableIn (off := 62) C 84 dX11_child_22 (by rw [h7]; decide) (by rw [h7]; decide) (by rw [h7]; first | done | rfl | decide) (by decide) ?_
      refine a_aload_n C dX11_child_84 rfl ?_
      refine a_get C (eB_X11_33 _) dX11_child_85 0 rfl rfl ?_
      refine a_get C (eB_X11_186 _) dX11_child_88 1 rfl rfl ?_
      refine a_iload_n C dX11_child_91 rfl ?_
      obtain ⟨h8, hf⟩ := fx_ite hf
      refine a_iald C dX11_child_92 4 rfl h8 ?_
      obtain rfl := fx_some hf
      exact a_iret C hQ dX11_child_93 ⟨rfl, rfl⟩
    have hf := fx_f h7 hf
    by_cases h9 : x2 = (3 : Int32)
    · have hf := fx_t h9 hf
      refine a_tableIn (off := 72) C 94 dX11_child_22 (by rw [h9]; decide) (by rw [h9]; decide) (by rw [h9]; first | done | rfl | decide) (by decide) ?_
      refine a_aload_n C dX11_child_94 rfl ?_
      refine a_get C (eB_X11_56 _) dX11_child_95 0 rfl rfl ?_
      refine a_get C (eB_X11_189 _) dX11_child_98 6 rfl rfl ?_
      refine a_iload_n C dX11_child_101 rfl ?_
      obtain ⟨h10, hf⟩ := fx_ite hf
      refine a_iald C dX11_child_102 7 rfl h10 ?_
      obtain rfl := fx_some hf
      exact a_iret C hQ dX11_child_103 ⟨rfl, rfl⟩
    have hf := fx_f h9 hf
    by_cases h11 : x2 = (4 : Int32)
    · have hf := fx_t h11 hf
      refine a_tableIn (off := 82) C 104 dX11_child_22 (by rw [h11]; decide) (by rw [h11]; decide) (by rw [h11]; first | done | rfl | decide) (by decide) ?_
      refine a_aload_n C dX11_child_104 rfl ?_
      refine a_get C (eB_X11_56 _) dX11_child_105 0 rfl rfl ?_
      refine a_get C (eB_X11_192 _) dX11_child_108 6 rfl rfl ?_
      refine a_iload_n C dX11_child_111 rfl ?_
      refine a_ishr C dX11_child_112 ?_
      refine a_iconst C (1 : Int32) dX11_child_113 (by decide) ?_
      refine a_iand C dX11_child_114 ?_
      obtain rfl := fx_some hf
      exact a_iret C hQ dX11_child_115 ⟨rfl, rfl⟩
    have hf := fx_f h11 hf
    by_cases h12 : x2 = (5 : Int32)
    · have hf := fx_t h12 hf
      refine a_tableIn (off := 94) C 116 dX11_child_22 (by rw [h12]; decide) (by rw [h12]; decide) (by rw [h12]; first | done | rfl | decide) (by decide) ?_
      refine a_aload_n C dX11_child_116 rfl ?_
      refine a_get C (eB_X11_56 _) dX11_child_117 0 rfl rfl ?_
      refine a_get C (eB_X11_195 _) dX11_child_120 6 rfl rfl ?_
      refine a_iload_n C dX11_child_123 rfl ?_
      obtain ⟨h13, hf⟩ := fx_ite hf
      refine a_iald C dX11_child_124 8 rfl h13 ?_
      obtain rfl := fx_some hf
      exact a_iret C hQ dX11_child_125 ⟨rfl, rfl⟩
    have hf := fx_f h12 hf
    by_cases h14 : x2 = (6 : Int32)
    · have hf := fx_t h14 hf
      refine a_tableIn (off := 104) C 126 dX11_child_22 (by rw [h14]; decide) (by rw [h14]; decide) (by rw [h14]; first | done | rfl | decide) (by decide) ?_
      refine a_aload_n C dX11_child_126 rfl ?_
      refine a_get C (eB_X11_56 _) dX11_child_127 0 rfl rfl ?_
      refine a_iload_n C dX11_child_130 rfl ?_
      obtain ⟨r15, h15, hf⟩ := fx_bind hf
      refine a_fV C (kX9_buckets l D Y anow aL aC inow_moats inow_spades inow_tides cnow_mood cnow_place iC_size cC_age cC_skill cC_pals x1 r15 h15) (gB_X11_198 _) rfl dvX9_buckets ⟨⟨rfl, rfl⟩, ⟨Nat.le_of_ble_eq_true rfl, Nat.le_of_ble_eq_true rfl⟩, ⟨Nat.le_of_ble_eq_true rfl, Nat.le_of_ble_eq_true rfl⟩⟩ rfl (Nat.le_of_ble_eq_true rfl) dX11_child_131 rfl rfl [6, 7, 8, 1, 2, 3, 5] [0, 4] ⟨rfl, rfl, rfl, rfl, rfl, rfl, rfl, trivial⟩ (by decide +kernel) rfl [oX11 ao atext atold aL aC alaw aotherLaw anow atrial ahistory aguess acrewPlan amoatPlan achance io_wind io_spadeLimit, oX2 aC iC_size, rI Y (aC 1) 8 cC_age, rI Y (aC 2) 8 cC_skill, rI Y (aC 3) 8 cC_friend, rI Y (aC 4) 8 cC_pals, oX9 anow aL aC inow_moats inow_spades inow_tides, rI Y (anow 3) 8 cnow_mood, rI Y (anow 4) 8 cnow_place] ⟨rfl, rfl, rfl, rfl, rfl, rfl, rfl, trivial⟩ ⟨rfl, rfl, trivial⟩ 9 rfl (by decide +kernel) ?_
      obtain rfl := fx_some hf
      exact a_iret C hQ dX11_child_134 ⟨rfl, rfl⟩
    have hf := fx_f h14 hf
    refine a_tableOut C 135 dX11_child_22 (by have z0 := lv_neT (a := 0) h3 (by decide); have z1 := lv_neT (a := 1) h5 (by decide); have z2 := lv_neT (a := 2) h7 (by decide); have z3 := lv_neT (a := 3) h9 (by decide); have z4 := lv_neT (a := 4) h11 (by decide); have z5 := lv_neT (a := 5) h12 (by decide); have z6 := lv_neT (a := 6) h14 (by decide); omega) (by decide) ?_
    cases hf
  · have hf := fx_t h2 hf
    cases hf
abbrev rtX11_child : Room := { frames := 6, cells := 1, slots := 6, locals := 100 }
def tX11_child (iC_size : Int32) (cC_age : Nat → Int32) (cC_skill : Nat → Int32) (cC_friend : Nat → Int32) (cC_pals : Nat → Int32) (inow_spades : Int32) (cnow_mood : Nat → Int32) (cnow_place : Nat → Int32) (x1 : Int32) (x2 : Int32) : Option Unit :=
  (fX2_has iC_size x1).bind (fun r1 => if r1 = (0 : Int32) then (some ()) else (if x2 = (0 : Int32) then (if inb x1 8 then none else none) else if x2 = (1 : Int32) then (if inb x1 8 then none else none) else if x2 = (2 : Int32) then (if inb x1 8 then none else none) else if x2 = (3 : Int32) then (if inb x1 8 then none else none) else if x2 = (4 : Int32) then (none) else if x2 = (5 : Int32) then (if inb x1 8 then none else none) else if x2 = (6 : Int32) then ((fX9_buckets inow_spades cnow_mood cnow_place iC_size cC_age cC_skill cC_pals x1).bind (fun r15 => none)) else (some ())))
set_option maxHeartbeats 400000 in
set_option maxRecDepth 100000 in
theorem hX11_child (l : Launch) (hl : l.stackTraces = false) (D : va_G) (Y : Nat → ClassId) (ao atext atold aL aC alaw aotherLaw anow atrial ahistory aguess acrewPlan amoatPlan achance : Nat → Nat) (io_wind : Int32) (io_spadeLimit : Int32) (iC_size : Int32) (cC_age : Nat → Int32) (cC_skill : Nat → Int32) (cC_friend : Nat → Int32) (cC_pals : Nat → Int32) (inow_moats : Int32) (inow_spades : Int32) (inow_tides : Int32) (cnow_mood : Nat → Int32) (cnow_place : Nat → Int32) (x1 : Int32) (x2 : Int32) (hf : tX11_child iC_size cC_age cC_skill cC_friend cC_pals inow_spades cnow_mood cnow_place x1 x2 = some ()) : amt l D Y yX11_child wsX11_child rtX11_child [.ref (ao 0), .int x1, .int x2] [oX11 ao atext atold aL aC alaw aotherLaw anow atrial ahistory aguess acrewPlan amoatPlan achance io_wind io_spadeLimit, oX2 aC iC_size, rI Y (aC 1) 8 cC_age, rI Y (aC 2) 8 cC_skill, rI Y (aC 3) 8 cC_friend, rI Y (aC 4) 8 cC_pals, oX9 anow aL aC inow_moats inow_spades inow_tides, rI Y (anow 3) 8 cnow_mood, rI Y (anow 4) 8 cnow_place] 1 6 := by
  refine amt.of (cc := cX11_child) (maxL := 3) (rt := (some .int)) (by decide) rfl RX11 rfl (Nat.le_of_ble_eq_true rfl) [some (.ref (ao 0)), some (.int x1), some (.int x2)] rfl ?_
  intro X C hT
  have rr : 5 < (rtX11_child).frames ∧ 82 ≤ (rtX11_child).locals ∧ 0 + 1 ≤ (rtX11_child).cells ∧ 0 + 6 ≤ (rtX11_child).slots := ⟨by decide, by decide, by decide, by decide⟩
  unfold tX11_child at hf
  refine a_aload_n C dX11_child_0 rfl ?_
  refine a_get C (eB_X11_33 _) dX11_child_1 0 rfl rfl ?_
  refine a_iload_n C dX11_child_4 rfl ?_
  obtain ⟨r1, h1, hf⟩ := fx_bind hf
  refine a_fV C (kX2_has l D Y aC iC_size x1 r1 h1) (gB_X11_177 _) rfl dvX2_has ⟨⟨rfl, rfl⟩, ⟨Nat.le_of_ble_eq_true rfl, Nat.le_of_ble_eq_true rfl⟩, ⟨Nat.le_of_ble_eq_true rfl, Nat.le_of_ble_eq_true rfl⟩⟩ rfl (Nat.le_of_ble_eq_true rfl) dX11_child_5 rfl rfl [1] [0, 2, 3, 4, 5, 6, 7, 8] ⟨rfl, trivial⟩ (by decide +kernel) rfl [oX11 ao atext atold aL aC alaw aotherLaw anow atrial ahistory aguess acrewPlan amoatPlan achance io_wind io_spadeLimit, oX2 aC iC_size, rI Y (aC 1) 8 cC_age, rI Y (aC 2) 8 cC_skill, rI Y (aC 3) 8 cC_friend, rI Y (aC 4) 8 cC_pals, oX9 anow aL aC inow_moats inow_spades inow_tides, rI Y (anow 3) 8 cnow_mood, rI Y (anow 4) 8 cnow_place] ⟨rfl, trivial⟩ ⟨rfl, rfl, rfl, rfl, rfl, rfl, rfl, rfl, trivial⟩ 9 rfl (by decide +kernel) ?_
  refine a_if_ne C 21 dX11_child_8 (by decide) (fun h2 => ?_) (fun h2 => ?_)
  · have hf := fx_f h2 hf
    refine a_iload_n C dX11_child_21 rfl ?_
    by_cases h3 : x2 = (0 : Int32)
    · have hf := fx_t h3 hf
      refine a_tableIn (off := 42) C 64 dX11_child_22 (by rw [h3]; decide) (by rw [h3]; decide) (by rw [h3]; first | done | rfl | decide) (by decide) ?_
      refine a_aload_n C dX11_child_64 rfl ?_
      refine a_get C (eB_X11_33 _) dX11_child_65 0 rfl rfl ?_
      refine a_get C (eB_X11_180 _) dX11_child_68 1 rfl rfl ?_
      refine a_iload_n C dX11_child_71 rfl ?_
      obtain ⟨h4, hf⟩ := fx_ite hf
      refine a_iald C dX11_child_72 2 rfl h4 ?_
      cases hf
    have hf := fx_f h3 hf
    by_cases h5 : x2 = (1 : Int32)
    · have hf := fx_t h5 hf
      refine a_tableIn (off := 52) C 74 dX11_child_22 (by rw [h5]; decide) (by rw [h5]; decide) (by rw [h5]; first | done | rfl | decide) (by decide) ?_
      refine a_aload_n C dX11_child_74 rfl ?_
      refine a_get C (eB_X11_33 _) dX11_child_75 0 rfl rfl ?_
      refine a_get C (eB_X11_183 _) dX11_child_78 1 rfl rfl ?_
      refine a_iload_n C dX11_child_81 rfl ?_
      obtain ⟨h6, hf⟩ := fx_ite hf
      refine a_iald C dX11_child_82 3 rfl h6 ?_
      cases hf
    have hf := fx_f h5 hf
    by_cases h7 : x2 = (2 : Int32)
    · have hf := fx_t h7 hf
      refine a_tableIn (off := 62) C 84 dX11_child_22 (by rw [h7]; decide) (by rw [h7]; decide) (by rw [h7]; first | done | rfl | decide) (by decide) ?_
      refine a_aload_n C dX11_child_84 rfl ?_
      refine a_get C (eB_X11_33 _) dX11_child_85 0 rfl rfl ?_
      refine a_get C (eB_X11_186 _) dX11_child_88 1 rfl rfl ?_
      refine a_iload_n C dX11_child_91 rfl ?_
      obtain ⟨h8, hf⟩ := fx_ite hf
      refine a_iald C dX11_child_92 4 rfl h8 ?_
      cases hf
    have hf := fx_f h7 hf
    by_cases h9 : x2 = (3 : Int32)
    · have hf := fx_t h9 hf
      refine a_tableIn (off := 72) C 94 dX11_child_22 (by rw [h9]; decide) (by rw [h9]; decide) (by rw [h9]; first | done | rfl | decide) (by decide) ?_
      refine a_aload_n C dX11_child_94 rfl ?_
      refine a_get C (eB_X11_56 _) dX11_child_95 0 rfl rfl ?_
      refine a_get C (eB_X11_189 _) dX11_child_98 6 rfl rfl ?_
      refine a_iload_n C dX11_child_101 rfl ?_
      obtain ⟨h10, hf⟩ := fx_ite hf
      refine a_iald C dX11_child_102 7 rfl h10 ?_
      cases hf
    have hf := fx_f h9 hf
    by_cases h11 : x2 = (4 : Int32)
    · have hf := fx_t h11 hf
      refine a_tableIn (off := 82) C 104 dX11_child_22 (by rw [h11]; decide) (by rw [h11]; decide) (by rw [h11]; first | done | rfl | decide) (by decide) ?_
      refine a_aload_n C dX11_child_104 rfl ?_
      refine a_get C (eB_X11_56 _) dX11_child_105 0 rfl rfl ?_
      refine a_get C (eB_X11_192 _) dX11_child_108 6 rfl rfl ?_
      refine a_iload_n C dX11_child_111 rfl ?_
      refine a_ishr C dX11_child_112 ?_
      refine a_iconst C (1 : Int32) dX11_child_113 (by decide) ?_
      refine a_iand C dX11_child_114 ?_
      cases hf
    have hf := fx_f h11 hf
    by_cases h12 : x2 = (5 : Int32)
    · have hf := fx_t h12 hf
      refine a_tableIn (off := 94) C 116 dX11_child_22 (by rw [h12]; decide) (by rw [h12]; decide) (by rw [h12]; first | done | rfl | decide) (by decide) ?_
      refine a_aload_n C dX11_child_116 rfl ?_
      refine a_get C (eB_X11_56 _) dX11_child_117 0 rfl rfl ?_
      refine a_get C (eB_X11_195 _) dX11_child_120 6 rfl rfl ?_
      refine a_iload_n C dX11_child_123 rfl ?_
      obtain ⟨h13, hf⟩ := fx_ite hf
      refine a_iald C dX11_child_124 8 rfl h13 ?_
      cases hf
    have hf := fx_f h12 hf
    by_cases h14 : x2 = (6 : Int32)
    · have hf := fx_t h14 hf
      refine a_tableIn (off := 104) C 126 dX11_child_22 (by rw [h14]; decide) (by rw [h14]; decide) (by rw [h14]; first | done | rfl | decide) (by decide) ?_
      refine a_aload_n C dX11_child_126 rfl ?_
      refine a_get C (eB_X11_56 _) dX11_child_127 0 rfl rfl ?_
      refine a_iload_n C dX11_child_130 rfl ?_
      obtain ⟨r15, h15, hf⟩ := fx_bind hf
      refine a_fV C (kX9_buckets l D Y anow aL aC inow_moats inow_spades inow_tides cnow_mood cnow_place iC_size cC_age cC_skill cC_pals x1 r15 h15) (gB_X11_198 _) rfl dvX9_buckets ⟨⟨rfl, rfl⟩, ⟨Nat.le_of_ble_eq_true rfl, Nat.le_of_ble_eq_true rfl⟩, ⟨Nat.le_of_ble_eq_true rfl, Nat.le_of_ble_eq_true rfl⟩⟩ rfl (Nat.le_of_ble_eq_true rfl) dX11_child_131 rfl rfl [6, 7, 8, 1, 2, 3, 5] [0, 4] ⟨rfl, rfl, rfl, rfl, rfl, rfl, rfl, trivial⟩ (by decide +kernel) rfl [oX11 ao atext atold aL aC alaw aotherLaw anow atrial ahistory aguess acrewPlan amoatPlan achance io_wind io_spadeLimit, oX2 aC iC_size, rI Y (aC 1) 8 cC_age, rI Y (aC 2) 8 cC_skill, rI Y (aC 3) 8 cC_friend, rI Y (aC 4) 8 cC_pals, oX9 anow aL aC inow_moats inow_spades inow_tides, rI Y (anow 3) 8 cnow_mood, rI Y (anow 4) 8 cnow_place] ⟨rfl, rfl, rfl, rfl, rfl, rfl, rfl, trivial⟩ ⟨rfl, rfl, trivial⟩ 9 rfl (by decide +kernel) ?_
      cases hf
    have hf := fx_f h14 hf
    refine a_tableOut C 135 dX11_child_22 (by have z0 := lv_neT (a := 0) h3 (by decide); have z1 := lv_neT (a := 1) h5 (by decide); have z2 := lv_neT (a := 2) h7 (by decide); have z3 := lv_neT (a := 3) h9 (by decide); have z4 := lv_neT (a := 4) h11 (by decide); have z5 := lv_neT (a := 5) h12 (by decide); have z6 := lv_neT (a := 6) h14 (by decide); omega) (by decide) ?_
    exact a_thr C hT hl 3 rfl dX11_child_135 dX11_child_138 dX11_child_139 dX11_child_141 dX11_child_144 rr
  · have hf := fx_t h2 hf
    exact a_thr C hT hl 2 rfl dX11_child_11 dX11_child_14 dX11_child_15 dX11_child_17 dX11_child_20 rr
-- X11_row
abbrev rmX11_row : Room := { frames := 6, cells := 0, slots := 0, locals := 100 }
theorem dvX11_row : yX11_row.cls = RX11 ∧ yX11_row.cls ≠ "java/lang/invoke/MethodHandle" ∧ yX11_row.cls ≠ "java/lang/invoke/VarHandle" ∧ (parseMethodDescriptor yX11_row.desc).map (fun d => d.parameters.length) = some 1 := by decide +kernel
def fX11_row (itold_size : Int32) (ctold_numbers : Nat → Int64) (x1 : Int32) : Option (Int64) :=
  (fX11_within x1 (0 : Int32) (itold_size - (1 : Int32))).bind (fun r1 => if r1 = (0 : Int32) then (none) else (if inb x1 12 then some (ctold_numbers (Int32.toNatClampNeg x1)) else none))
set_option maxHeartbeats 400000 in
set_option maxRecDepth 100000 in
theorem kX11_row (l : Launch) (D : va_G) (Y : Nat → ClassId) (ao atext atold aL aC alaw aotherLaw anow atrial ahistory aguess acrewPlan amoatPlan achance : Nat → Nat) (io_wind : Int32) (io_spadeLimit : Int32) (itold_size : Int32) (ctold_numbers : Nat → Int64) (x1 : Int32) (res : Int64) (hf : fX11_row itold_size ctold_numbers x1 = some res) : amf l D Y yX11_row wsX11_row rmX11_row [.ref (ao 0), .int x1] [oX11 ao atext atold aL aC alaw aotherLaw anow atrial ahistory aguess acrewPlan amoatPlan achance io_wind io_spadeLimit, oX8 atold itold_size, rJ Y (atold 1) 12 ctold_numbers] (some (.long res)) [oX11 ao atext atold aL aC alaw aotherLaw anow atrial ahistory aguess acrewPlan amoatPlan achance io_wind io_spadeLimit, oX8 atold itold_size, rJ Y (atold 1) 12 ctold_numbers] := by
  refine amf.of (cc := cX11_row) (maxL := 2) (rt := (some .long)) (by decide) rfl RX11 rfl (Nat.le_of_ble_eq_true rfl) [some (.ref (ao 0)), some (.int x1)] rfl ?_
  intro X C hQ
  unfold fX11_row at hf
  refine a_iload_n C dX11_row_0 rfl ?_
  refine a_iconst C (0 : Int32) dX11_row_1 (by decide) ?_
  refine a_aload_n C dX11_row_2 rfl ?_
  refine a_get C (eB_X11_19 _) dX11_row_3 0 rfl rfl ?_
  refine a_get C (eB_X11_384 _) dX11_row_6 1 rfl rfl ?_
  refine a_iconst C (1 : Int32) dX11_row_9 (by decide) ?_
  refine a_isub C dX11_row_10 ?_
  obtain ⟨r1, h1, hf⟩ := fx_bind hf
  refine a_fS C (kX11_within l D Y x1 (0 : Int32) (itold_size - (1 : Int32)) r1 h1) (gB_X11_203 _) rfl dvX11_within ⟨⟨rfl, rfl⟩, ⟨Nat.le_of_ble_eq_true rfl, Nat.le_of_ble_eq_true rfl⟩, ⟨Nat.le_of_ble_eq_true rfl, Nat.le_of_ble_eq_true rfl⟩⟩ rfl (Nat.le_of_ble_eq_true rfl) dX11_row_11 [] [0, 1, 2] trivial (by decide +kernel) rfl [oX11 ao atext atold aL aC alaw aotherLaw anow atrial ahistory aguess acrewPlan amoatPlan achance io_wind io_spadeLimit, oX8 atold itold_size, rJ Y (atold 1) 12 ctold_numbers] trivial ⟨rfl, rfl, rfl, trivial⟩ 3 rfl (by decide +kernel) ?_
  refine a_if_ne C 28 dX11_row_14 (by decide) (fun h2 => ?_) (fun h2 => ?_)
  · have hf := fx_f h2 hf
    refine a_aload_n C dX11_row_28 rfl ?_
    refine a_get C (eB_X11_19 _) dX11_row_29 0 rfl rfl ?_
    refine a_get C (eB_X11_387 _) dX11_row_32 1 rfl rfl ?_
    refine a_iload_n C dX11_row_35 rfl ?_
    obtain ⟨h3, hf⟩ := fx_ite hf
    refine a_lald C dX11_row_36 2 rfl h3 ?_
    obtain rfl := fx_some hf
    exact a_lret C hQ dX11_row_37 ⟨rfl, rfl⟩
  · have hf := fx_t h2 hf
    cases hf
abbrev rtX11_row : Room := { frames := 6, cells := 1, slots := 6, locals := 100 }
def tX11_row (itold_size : Int32) (ctold_numbers : Nat → Int64) (x1 : Int32) : Option Unit :=
  (fX11_within x1 (0 : Int32) (itold_size - (1 : Int32))).bind (fun r1 => if r1 = (0 : Int32) then (some ()) else (if inb x1 12 then none else none))
set_option maxHeartbeats 400000 in
set_option maxRecDepth 100000 in
theorem hX11_row (l : Launch) (hl : l.stackTraces = false) (D : va_G) (Y : Nat → ClassId) (ao atext atold aL aC alaw aotherLaw anow atrial ahistory aguess acrewPlan amoatPlan achance : Nat → Nat) (io_wind : Int32) (io_spadeLimit : Int32) (itold_size : Int32) (ctold_numbers : Nat → Int64) (x1 : Int32) (hf : tX11_row itold_size ctold_numbers x1 = some ()) : amt l D Y yX11_row wsX11_row rtX11_row [.ref (ao 0), .int x1] [oX11 ao atext atold aL aC alaw aotherLaw anow atrial ahistory aguess acrewPlan amoatPlan achance io_wind io_spadeLimit, oX8 atold itold_size, rJ Y (atold 1) 12 ctold_numbers] 1 6 := by
  refine amt.of (cc := cX11_row) (maxL := 2) (rt := (some .long)) (by decide) rfl RX11 rfl (Nat.le_of_ble_eq_true rfl) [some (.ref (ao 0)), some (.int x1)] rfl ?_
  intro X C hT
  have rr : 5 < (rtX11_row).frames ∧ 82 ≤ (rtX11_row).locals ∧ 0 + 1 ≤ (rtX11_row).cells ∧ 0 + 6 ≤ (rtX11_row).slots := ⟨by decide, by decide, by decide, by decide⟩
  unfold tX11_row at hf
  refine a_iload_n C dX11_row_0 rfl ?_
  refine a_iconst C (0 : Int32) dX11_row_1 (by decide) ?_
  refine a_aload_n C dX11_row_2 rfl ?_
  refine a_get C (eB_X11_19 _) dX11_row_3 0 rfl rfl ?_
  refine a_get C (eB_X11_384 _) dX11_row_6 1 rfl rfl ?_
  refine a_iconst C (1 : Int32) dX11_row_9 (by decide) ?_
  refine a_isub C dX11_row_10 ?_
  obtain ⟨r1, h1, hf⟩ := fx_bind hf
  refine a_fS C (kX11_within l D Y x1 (0 : Int32) (itold_size - (1 : Int32)) r1 h1) (gB_X11_203 _) rfl dvX11_within ⟨⟨rfl, rfl⟩, ⟨Nat.le_of_ble_eq_true rfl, Nat.le_of_ble_eq_true rfl⟩, ⟨Nat.le_of_ble_eq_true rfl, Nat.le_of_ble_eq_true rfl⟩⟩ rfl (Nat.le_of_ble_eq_true rfl) dX11_row_11 [] [0, 1, 2] trivial (by decide +kernel) rfl [oX11 ao atext atold aL aC alaw aotherLaw anow atrial ahistory aguess acrewPlan amoatPlan achance io_wind io_spadeLimit, oX8 atold itold_size, rJ Y (atold 1) 12 ctold_numbers] trivial ⟨rfl, rfl, rfl, trivial⟩ 3 rfl (by decide +kernel) ?_
  refine a_if_ne C 28 dX11_row_14 (by decide) (fun h2 => ?_) (fun h2 => ?_)
  · have hf := fx_f h2 hf
    refine a_aload_n C dX11_row_28 rfl ?_
    refine a_get C (eB_X11_19 _) dX11_row_29 0 rfl rfl ?_
    refine a_get C (eB_X11_387 _) dX11_row_32 1 rfl rfl ?_
    refine a_iload_n C dX11_row_35 rfl ?_
    obtain ⟨h3, hf⟩ := fx_ite hf
    refine a_lald C dX11_row_36 2 rfl h3 ?_
    cases hf
  · have hf := fx_t h2 hf
    exact a_thrW C hT hl 4 rfl dX11_row_17 dX11_row_20 dX11_row_21 dX11_row_24 dX11_row_27 rr
