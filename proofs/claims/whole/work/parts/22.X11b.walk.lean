-- X11_count
abbrev rmX11_count : Room := { frames := 2, cells := 0, slots := 0, locals := 43 }
theorem dvX11_count : yX11_count.cls = RX11 ∧ yX11_count.cls ≠ "java/lang/invoke/MethodHandle" ∧ yX11_count.cls ≠ "java/lang/invoke/VarHandle" ∧ (parseMethodDescriptor yX11_count.desc).map (fun d => d.parameters.length) = some 1 := by decide +kernel
theorem eX11_count_inX11 : ∀ w ∈ wsX110, w ∈ wsX11_count := by decide +kernel
theorem eX11_count_26 : aF wsX11_count RX11 26 11 2 := ⟨RX11, TX11, 17, rfl, eX11_count_inX11, by decide, by decide +kernel⟩
theorem eX11_count_inX5 : ∀ w ∈ wsX50, w ∈ wsX11_count := by decide +kernel
theorem eX11_count_131 : aF wsX11_count RX11 131 5 0 := ⟨RX5, TX5, 5, rfl, eX11_count_inX5, by decide, by decide +kernel⟩
theorem eX11_count_33 : aF wsX11_count RX11 33 11 3 := ⟨RX11, TX11, 17, rfl, eX11_count_inX11, by decide, by decide +kernel⟩
theorem eX11_count_inX2 : ∀ w ∈ wsX20, w ∈ wsX11_count := by decide +kernel
theorem eX11_count_134 : aF wsX11_count RX11 134 2 0 := ⟨RX2, TX2, 5, rfl, eX11_count_inX2, by decide, by decide +kernel⟩
theorem eX11_count_56 : aF wsX11_count RX11 56 11 8 := ⟨RX11, TX11, 17, rfl, eX11_count_inX11, by decide, by decide +kernel⟩
theorem eX11_count_inX9 : ∀ w ∈ wsX90, w ∈ wsX11_count := by decide +kernel
theorem eX11_count_380 : aF wsX11_count RX11 380 9 8 := ⟨RX9, TX9, 9, rfl, eX11_count_inX9, by decide, by decide +kernel⟩
theorem eX11_count_207 : aF wsX11_count RX11 207 11 6 := ⟨RX11, TX11, 17, rfl, eX11_count_inX11, by decide, by decide +kernel⟩
theorem eX11_count_47 : aF wsX11_count RX11 47 11 7 := ⟨RX11, TX11, 17, rfl, eX11_count_inX11, by decide, by decide +kernel⟩
theorem eX11_count_192 : aF wsX11_count RX11 192 9 7 := ⟨RX9, TX9, 9, rfl, eX11_count_inX9, by decide, by decide +kernel⟩
theorem eX11_count_159 : aF wsX11_count RX11 159 9 6 := ⟨RX9, TX9, 9, rfl, eX11_count_inX9, by decide, by decide +kernel⟩
theorem eX11_count_83 : aF wsX11_count RX11 83 11 13 := ⟨RX11, TX11, 17, rfl, eX11_count_inX11, by decide, by decide +kernel⟩
theorem eX11_count_inX3 : ∀ w ∈ wsX30, w ∈ wsX11_count := by decide +kernel
theorem eX11_count_339 : aF wsX11_count RX11 339 3 1 := ⟨RX3, TX3, 7, rfl, eX11_count_inX3, by decide, by decide +kernel⟩
theorem eX11_count_66 : aF wsX11_count RX11 66 11 10 := ⟨RX11, TX11, 17, rfl, eX11_count_inX11, by decide, by decide +kernel⟩
theorem eX11_count_inX4 : ∀ w ∈ wsX40, w ∈ wsX11_count := by decide +kernel
theorem eX11_count_383 : aF wsX11_count RX11 383 4 2 := ⟨RX4, TX4, 3, rfl, eX11_count_inX4, by decide, by decide +kernel⟩
theorem eX11_count_19 : aF wsX11_count RX11 19 11 1 := ⟨RX11, TX11, 17, rfl, eX11_count_inX11, by decide, by decide +kernel⟩
theorem eX11_count_inX8 : ∀ w ∈ wsX80, w ∈ wsX11_count := by decide +kernel
theorem eX11_count_384 : aF wsX11_count RX11 384 8 1 := ⟨RX8, TX8, 2, rfl, eX11_count_inX8, by decide, by decide +kernel⟩
theorem eX11_count_10 : aF wsX11_count RX11 10 11 0 := ⟨RX11, TX11, 17, rfl, eX11_count_inX11, by decide, by decide +kernel⟩
theorem eX11_count_inX10 : ∀ w ∈ wsX100, w ∈ wsX11_count := by decide +kernel
theorem eX11_count_114 : aF wsX11_count RX11 114 10 1 := ⟨RX10, TX10, 2, rfl, eX11_count_inX10, by decide, by decide +kernel⟩
def fX11_count (io_wind : Int32) (io_spadeLimit : Int32) (iC_size : Int32) (iL_cells : Int32) (iguess_cells : Int32) (ihistory_size : Int32) (inow_moats : Int32) (inow_spades : Int32) (inow_tides : Int32) (cnow_wall : Nat → Int32) (cnow_depth : Nat → Int32) (cnow_place : Nat → Int32) (itext_length : Int32) (itold_size : Int32) (x1 : Int32) : Option (Int32) :=
  if x1 = (0 : Int32) then (some iL_cells) else if x1 = (1 : Int32) then (some iC_size) else if x1 = (2 : Int32) then (some inow_tides) else if x1 = (3 : Int32) then (some io_wind) else if x1 = (4 : Int32) then (some io_spadeLimit) else if x1 = (5 : Int32) then (some inow_spades) else if x1 = (6 : Int32) then (some inow_moats) else if x1 = (7 : Int32) then ((fX9_wet cnow_depth iL_cells).bind (fun r9 => some r9)) else if x1 = (8 : Int32) then ((fX9_atHome cnow_place iC_size).bind (fun r11 => some r11)) else if x1 = (9 : Int32) then ((fX9_sand cnow_wall iL_cells).bind (fun r13 => some r13)) else if x1 = (10 : Int32) then (some iguess_cells) else if x1 = (11 : Int32) then (some ihistory_size) else if x1 = (12 : Int32) then (some itold_size) else if x1 = (13 : Int32) then (some itext_length) else (some (-100 : Int32))
set_option maxHeartbeats 400000 in
set_option maxRecDepth 100000 in
theorem kX11_count (l : Launch) (D : va_G) (Y : Nat → ClassId) (ao atext atold aL aC alaw aotherLaw anow atrial ahistory aguess acrewPlan amoatPlan achance : Nat → Nat) (io_wind : Int32) (io_spadeLimit : Int32) (iC_size : Int32) (iL_cells : Int32) (iguess_cells : Int32) (ihistory_next : Int32) (ihistory_size : Int32) (inow_moats : Int32) (inow_spades : Int32) (inow_tides : Int32) (cnow_wall : Nat → Int32) (cnow_depth : Nat → Int32) (cnow_place : Nat → Int32) (itext_length : Int32) (itold_size : Int32) (x1 : Int32) (res : Int32) (hf : fX11_count io_wind io_spadeLimit iC_size iL_cells iguess_cells ihistory_size inow_moats inow_spades inow_tides cnow_wall cnow_depth cnow_place itext_length itold_size x1 = some res) : amf l D Y yX11_count wsX11_count rmX11_count [.ref (ao 0), .int x1] [oX11 ao atext atold aL aC alaw aotherLaw anow atrial ahistory aguess acrewPlan amoatPlan achance io_wind io_spadeLimit, oX2 aC iC_size, oX5 aL iL_cells, oX3 aguess aC iguess_cells, oX4 ahistory ihistory_next ihistory_size, oX9 anow aL aC inow_moats inow_spades inow_tides, rI Y (anow 1) 12 cnow_wall, rI Y (anow 2) 12 cnow_depth, rI Y (anow 4) 8 cnow_place, oX10 atext itext_length, oX8 atold itold_size] (some (.int res)) [oX11 ao atext atold aL aC alaw aotherLaw anow atrial ahistory aguess acrewPlan amoatPlan achance io_wind io_spadeLimit, oX2 aC iC_size, oX5 aL iL_cells, oX3 aguess aC iguess_cells, oX4 ahistory ihistory_next ihistory_size, oX9 anow aL aC inow_moats inow_spades inow_tides, rI Y (anow 1) 12 cnow_wall, rI Y (anow 2) 12 cnow_depth, rI Y (anow 4) 8 cnow_place, oX10 atext itext_length, oX8 atold itold_size] := by
  refine amf.of (cc := cX11_count) (maxL := 2) (rt := (some .int)) (by decide) rfl RX11 rfl (Nat.le_of_ble_eq_true rfl) [some (.ref (ao 0)), some (.int x1)] rfl ?_
  intro X C hQ
  unfold fX11_count at hf
  refine a_iload_n C dX11_count_0 rfl ?_
  by_cases h1 : x1 = (0 : Int32)
  · have hf := fx_t h1 hf
    refine a_tableIn (off := 71) C 72 dX11_count_1 (by rw [h1]; decide) (by rw [h1]; decide) (by rw [h1]; first | done | rfl | decide) (by decide) ?_
    refine a_aload_n C dX11_count_72 rfl ?_
    refine a_get C eX11_count_26 dX11_count_73 0 rfl rfl ?_
    refine a_get C eX11_count_131 dX11_count_76 2 rfl rfl ?_
    obtain rfl := fx_some hf
    exact a_iret C hQ dX11_count_79 ⟨rfl, rfl⟩
  have hf := fx_f h1 hf
  by_cases h2 : x1 = (1 : Int32)
  · have hf := fx_t h2 hf
    refine a_tableIn (off := 79) C 80 dX11_count_1 (by rw [h2]; decide) (by rw [h2]; decide) (by rw [h2]; first | done | rfl | decide) (by decide) ?_
    refine a_aload_n C dX11_count_80 rfl ?_
    refine a_get C eX11_count_33 dX11_count_81 0 rfl rfl ?_
    refine a_get C eX11_count_134 dX11_count_84 1 rfl rfl ?_
    obtain rfl := fx_some hf
    exact a_iret C hQ dX11_count_87 ⟨rfl, rfl⟩
  have hf := fx_f h2 hf
  by_cases h3 : x1 = (2 : Int32)
  · have hf := fx_t h3 hf
    refine a_tableIn (off := 87) C 88 dX11_count_1 (by rw [h3]; decide) (by rw [h3]; decide) (by rw [h3]; first | done | rfl | decide) (by decide) ?_
    refine a_aload_n C dX11_count_88 rfl ?_
    refine a_get C eX11_count_56 dX11_count_89 0 rfl rfl ?_
    refine a_get C eX11_count_380 dX11_count_92 5 rfl rfl ?_
    obtain rfl := fx_some hf
    exact a_iret C hQ dX11_count_95 ⟨rfl, rfl⟩
  have hf := fx_f h3 hf
  by_cases h4 : x1 = (3 : Int32)
  · have hf := fx_t h4 hf
    refine a_tableIn (off := 95) C 96 dX11_count_1 (by rw [h4]; decide) (by rw [h4]; decide) (by rw [h4]; first | done | rfl | decide) (by decide) ?_
    refine a_aload_n C dX11_count_96 rfl ?_
    refine a_get C eX11_count_207 dX11_count_97 0 rfl rfl ?_
    obtain rfl := fx_some hf
    exact a_iret C hQ dX11_count_100 ⟨rfl, rfl⟩
  have hf := fx_f h4 hf
  by_cases h5 : x1 = (4 : Int32)
  · have hf := fx_t h5 hf
    refine a_tableIn (off := 100) C 101 dX11_count_1 (by rw [h5]; decide) (by rw [h5]; decide) (by rw [h5]; first | done | rfl | decide) (by decide) ?_
    refine a_aload_n C dX11_count_101 rfl ?_
    refine a_get C eX11_count_47 dX11_count_102 0 rfl rfl ?_
    obtain rfl := fx_some hf
    exact a_iret C hQ dX11_count_105 ⟨rfl, rfl⟩
  have hf := fx_f h5 hf
  by_cases h6 : x1 = (5 : Int32)
  · have hf := fx_t h6 hf
    refine a_tableIn (off := 105) C 106 dX11_count_1 (by rw [h6]; decide) (by rw [h6]; decide) (by rw [h6]; first | done | rfl | decide) (by decide) ?_
    refine a_aload_n C dX11_count_106 rfl ?_
    refine a_get C eX11_count_56 dX11_count_107 0 rfl rfl ?_
    refine a_get C eX11_count_192 dX11_count_110 5 rfl rfl ?_
    obtain rfl := fx_some hf
    exact a_iret C hQ dX11_count_113 ⟨rfl, rfl⟩
  have hf := fx_f h6 hf
  by_cases h7 : x1 = (6 : Int32)
  · have hf := fx_t h7 hf
    refine a_tableIn (off := 113) C 114 dX11_count_1 (by rw [h7]; decide) (by rw [h7]; decide) (by rw [h7]; first | done | rfl | decide) (by decide) ?_
    refine a_aload_n C dX11_count_114 rfl ?_
    refine a_get C eX11_count_56 dX11_count_115 0 rfl rfl ?_
    refine a_get C eX11_count_159 dX11_count_118 5 rfl rfl ?_
    obtain rfl := fx_some hf
    exact a_iret C hQ dX11_count_121 ⟨rfl, rfl⟩
  have hf := fx_f h7 hf
  by_cases h8 : x1 = (7 : Int32)
  · have hf := fx_t h8 hf
    refine a_tableIn (off := 121) C 122 dX11_count_1 (by rw [h8]; decide) (by rw [h8]; decide) (by rw [h8]; first | done | rfl | decide) (by decide) ?_
    refine a_aload_n C dX11_count_122 rfl ?_
    refine a_get C eX11_count_56 dX11_count_123 0 rfl rfl ?_
    obtain ⟨r9, h9, hf⟩ := fx_bind hf
    refine a_fV C (kX9_wet l D Y anow aL aC inow_moats inow_spades inow_tides cnow_depth iL_cells r9 h9) gX11_count_X9_wet rfl dvX9_wet ⟨⟨rfl, rfl⟩, ⟨Nat.le_of_ble_eq_true rfl, Nat.le_of_ble_eq_true rfl⟩, ⟨Nat.le_of_ble_eq_true rfl, Nat.le_of_ble_eq_true rfl⟩⟩ rfl (Nat.le_of_ble_eq_true rfl) dX11_count_126 rfl rfl [5, 7, 2] [0, 1, 3, 4, 6, 8, 9, 10] ⟨rfl, rfl, rfl, trivial⟩ rfl rfl [oX11 ao atext atold aL aC alaw aotherLaw anow atrial ahistory aguess acrewPlan amoatPlan achance io_wind io_spadeLimit, oX2 aC iC_size, oX5 aL iL_cells, oX3 aguess aC iguess_cells, oX4 ahistory ihistory_next ihistory_size, oX9 anow aL aC inow_moats inow_spades inow_tides, rI Y (anow 1) 12 cnow_wall, rI Y (anow 2) 12 cnow_depth, rI Y (anow 4) 8 cnow_place, oX10 atext itext_length, oX8 atold itold_size] ⟨rfl, rfl, rfl, trivial⟩ ⟨rfl, rfl, rfl, rfl, rfl, rfl, rfl, rfl, trivial⟩ rfl ?_
    obtain rfl := fx_some hf
    exact a_iret C hQ dX11_count_129 ⟨rfl, rfl⟩
  have hf := fx_f h8 hf
  by_cases h10 : x1 = (8 : Int32)
  · have hf := fx_t h10 hf
    refine a_tableIn (off := 129) C 130 dX11_count_1 (by rw [h10]; decide) (by rw [h10]; decide) (by rw [h10]; first | done | rfl | decide) (by decide) ?_
    refine a_aload_n C dX11_count_130 rfl ?_
    refine a_get C eX11_count_56 dX11_count_131 0 rfl rfl ?_
    obtain ⟨r11, h11, hf⟩ := fx_bind hf
    refine a_fV C (kX9_atHome l D Y anow aL aC inow_moats inow_spades inow_tides cnow_place iC_size r11 h11) gX11_count_X9_atHome rfl dvX9_atHome ⟨⟨rfl, rfl⟩, ⟨Nat.le_of_ble_eq_true rfl, Nat.le_of_ble_eq_true rfl⟩, ⟨Nat.le_of_ble_eq_true rfl, Nat.le_of_ble_eq_true rfl⟩⟩ rfl (Nat.le_of_ble_eq_true rfl) dX11_count_134 rfl rfl [5, 8, 1] [0, 2, 3, 4, 6, 7, 9, 10] ⟨rfl, rfl, rfl, trivial⟩ rfl rfl [oX11 ao atext atold aL aC alaw aotherLaw anow atrial ahistory aguess acrewPlan amoatPlan achance io_wind io_spadeLimit, oX2 aC iC_size, oX5 aL iL_cells, oX3 aguess aC iguess_cells, oX4 ahistory ihistory_next ihistory_size, oX9 anow aL aC inow_moats inow_spades inow_tides, rI Y (anow 1) 12 cnow_wall, rI Y (anow 2) 12 cnow_depth, rI Y (anow 4) 8 cnow_place, oX10 atext itext_length, oX8 atold itold_size] ⟨rfl, rfl, rfl, trivial⟩ ⟨rfl, rfl, rfl, rfl, rfl, rfl, rfl, rfl, trivial⟩ rfl ?_
    obtain rfl := fx_some hf
    exact a_iret C hQ dX11_count_137 ⟨rfl, rfl⟩
  have hf := fx_f h10 hf
  by_cases h12 : x1 = (9 : Int32)
  · have hf := fx_t h12 hf
    refine a_tableIn (off := 137) C 138 dX11_count_1 (by rw [h12]; decide) (by rw [h12]; decide) (by rw [h12]; first | done | rfl | decide) (by decide) ?_
    refine a_aload_n C dX11_count_138 rfl ?_
    refine a_get C eX11_count_56 dX11_count_139 0 rfl rfl ?_
    obtain ⟨r13, h13, hf⟩ := fx_bind hf
    refine a_fV C (kX9_sand l D Y anow aL aC inow_moats inow_spades inow_tides cnow_wall iL_cells r13 h13) gX11_count_X9_sand rfl dvX9_sand ⟨⟨rfl, rfl⟩, ⟨Nat.le_of_ble_eq_true rfl, Nat.le_of_ble_eq_true rfl⟩, ⟨Nat.le_of_ble_eq_true rfl, Nat.le_of_ble_eq_true rfl⟩⟩ rfl (Nat.le_of_ble_eq_true rfl) dX11_count_142 rfl rfl [5, 6, 2] [0, 1, 3, 4, 7, 8, 9, 10] ⟨rfl, rfl, rfl, trivial⟩ rfl rfl [oX11 ao atext atold aL aC alaw aotherLaw anow atrial ahistory aguess acrewPlan amoatPlan achance io_wind io_spadeLimit, oX2 aC iC_size, oX5 aL iL_cells, oX3 aguess aC iguess_cells, oX4 ahistory ihistory_next ihistory_size, oX9 anow aL aC inow_moats inow_spades inow_tides, rI Y (anow 1) 12 cnow_wall, rI Y (anow 2) 12 cnow_depth, rI Y (anow 4) 8 cnow_place, oX10 atext itext_length, oX8 atold itold_size] ⟨rfl, rfl, rfl, trivial⟩ ⟨rfl, rfl, rfl, rfl, rfl, rfl, rfl, rfl, trivial⟩ rfl ?_
    obtain rfl := fx_some hf
    exact a_iret C hQ dX11_count_145 ⟨rfl, rfl⟩
  have hf := fx_f h12 hf
  by_cases h14 : x1 = (10 : Int32)
  · have hf := fx_t h14 hf
    refine a_tableIn (off := 145) C 146 dX11_count_1 (by rw [h14]; decide) (by rw [h14]; decide) (by rw [h14]; first | done | rfl | decide) (by decide) ?_
    refine a_aload_n C dX11_count_146 rfl ?_
    refine a_get C eX11_count_83 dX11_count_147 0 rfl rfl ?_
    refine a_get C eX11_count_339 dX11_count_150 3 rfl rfl ?_
    obtain rfl := fx_some hf
    exact a_iret C hQ dX11_count_153 ⟨rfl, rfl⟩
  have hf := fx_f h14 hf
  by_cases h15 : x1 = (11 : Int32)
  · have hf := fx_t h15 hf
    refine a_tableIn (off := 153) C 154 dX11_count_1 (by rw [h15]; decide) (by rw [h15]; decide) (by rw [h15]; first | done | rfl | decide) (by decide) ?_
    refine a_aload_n C dX11_count_154 rfl ?_
    refine a_get C eX11_count_66 dX11_count_155 0 rfl rfl ?_
    refine a_get C eX11_count_383 dX11_count_158 4 rfl rfl ?_
    obtain rfl := fx_some hf
    exact a_iret C hQ dX11_count_161 ⟨rfl, rfl⟩
  have hf := fx_f h15 hf
  by_cases h16 : x1 = (12 : Int32)
  · have hf := fx_t h16 hf
    refine a_tableIn (off := 161) C 162 dX11_count_1 (by rw [h16]; decide) (by rw [h16]; decide) (by rw [h16]; first | done | rfl | decide) (by decide) ?_
    refine a_aload_n C dX11_count_162 rfl ?_
    refine a_get C eX11_count_19 dX11_count_163 0 rfl rfl ?_
    refine a_get C eX11_count_384 dX11_count_166 10 rfl rfl ?_
    obtain rfl := fx_some hf
    exact a_iret C hQ dX11_count_169 ⟨rfl, rfl⟩
  have hf := fx_f h16 hf
  by_cases h17 : x1 = (13 : Int32)
  · have hf := fx_t h17 hf
    refine a_tableIn (off := 169) C 170 dX11_count_1 (by rw [h17]; decide) (by rw [h17]; decide) (by rw [h17]; first | done | rfl | decide) (by decide) ?_
    refine a_aload_n C dX11_count_170 rfl ?_
    refine a_get C eX11_count_10 dX11_count_171 0 rfl rfl ?_
    refine a_get C eX11_count_114 dX11_count_174 9 rfl rfl ?_
    obtain rfl := fx_some hf
    exact a_iret C hQ dX11_count_177 ⟨rfl, rfl⟩
  have hf := fx_f h17 hf
  refine a_tableOut C 178 dX11_count_1 (by have z0 := lv_neT (a := 0) h1 (by decide); have z1 := lv_neT (a := 1) h2 (by decide); have z2 := lv_neT (a := 2) h3 (by decide); have z3 := lv_neT (a := 3) h4 (by decide); have z4 := lv_neT (a := 4) h5 (by decide); have z5 := lv_neT (a := 5) h6 (by decide); have z6 := lv_neT (a := 6) h7 (by decide); have z7 := lv_neT (a := 7) h8 (by decide); have z8 := lv_neT (a := 8) h10 (by decide); have z9 := lv_neT (a := 9) h12 (by decide); have z10 := lv_neT (a := 10) h14 (by decide); have z11 := lv_neT (a := 11) h15 (by decide); have z12 := lv_neT (a := 12) h16 (by decide); have z13 := lv_neT (a := 13) h17 (by decide); omega) (by decide) ?_
  refine a_bipush C (-100 : Int32) dX11_count_178 (by decide) ?_
  obtain rfl := fx_some hf
  exact a_iret C hQ dX11_count_180 ⟨rfl, rfl⟩
-- X11_buildAndTell
abbrev rmX11_buildAndTell : Room := { frames := 5, cells := 0, slots := 0, locals := 110 }
theorem dvX11_buildAndTell : yX11_buildAndTell.cls = RX11 ∧ yX11_buildAndTell.cls ≠ "java/lang/invoke/MethodHandle" ∧ yX11_buildAndTell.cls ≠ "java/lang/invoke/VarHandle" ∧ (parseMethodDescriptor yX11_buildAndTell.desc).map (fun d => d.parameters.length) = some 1 := by decide +kernel
theorem eX11_buildAndTell_inX11 : ∀ w ∈ wsX110, w ∈ wsX11_buildAndTell := by decide +kernel
theorem eX11_buildAndTell_56 : aF wsX11_buildAndTell RX11 56 11 8 := ⟨RX11, TX11, 17, rfl, eX11_buildAndTell_inX11, by decide, by decide +kernel⟩
theorem eX11_buildAndTell_19 : aF wsX11_buildAndTell RX11 19 11 1 := ⟨RX11, TX11, 17, rfl, eX11_buildAndTell_inX11, by decide, by decide +kernel⟩
def fX11_buildAndTell (iC_size : Int32) (cC_age : Nat → Int32) (cC_skill : Nat → Int32) (cC_pals : Nat → Int32) (iL_cells : Int32) (inow_spades : Int32) (cnow_wall : Nat → Int32) (cnow_mood : Nat → Int32) (cnow_place : Nat → Int32) (itold_size : Int32) (ctold_numbers : Nat → Int64) (x1 : Int32) : Option (Int32 × (Nat → Int32) × (Nat → Int32) × (Nat → Int32) × Int32 × (Nat → Int64)) :=
  (fX11_within x1 (0 : Int32) (30 : Int32)).bind (fun r1 => if r1 = (0 : Int32) then (some ((-1 : Int32), cnow_wall, cnow_mood, cnow_place, itold_size, ctold_numbers)) else ((fX9_sand cnow_wall iL_cells).bind (fun r3 => (fX9_atHome cnow_place iC_size).bind (fun r4 => (fX9_buildOn inow_spades cnow_wall cnow_mood cnow_place iC_size cC_age cC_skill cC_pals iL_cells x1).bind (fun r5 => (fX9_atHome r5.2.2 iC_size).bind (fun r6 => (fX8_tell itold_size ctold_numbers ((r6 &&& (r4 ^^^ (-1 : Int32))).toInt64)).bind (fun r7 => (fX9_sand r5.1 iL_cells).bind (fun r8 => some ((r8 - r3), r5.1, r5.2.1, r5.2.2, r7.1, r7.2)))))))))
set_option maxHeartbeats 400000 in
set_option maxRecDepth 100000 in
theorem kX11_buildAndTell (l : Launch) (D : va_G) (Y : Nat → ClassId) (ao atext atold aL aC alaw aotherLaw anow atrial ahistory aguess acrewPlan amoatPlan achance : Nat → Nat) (io_wind : Int32) (io_spadeLimit : Int32) (iC_size : Int32) (cC_age : Nat → Int32) (cC_skill : Nat → Int32) (cC_pals : Nat → Int32) (iL_cells : Int32) (inow_moats : Int32) (inow_spades : Int32) (inow_tides : Int32) (cnow_wall : Nat → Int32) (cnow_mood : Nat → Int32) (cnow_place : Nat → Int32) (itold_size : Int32) (ctold_numbers : Nat → Int64) (x1 : Int32) (res : Int32 × (Nat → Int32) × (Nat → Int32) × (Nat → Int32) × Int32 × (Nat → Int64)) (hf : fX11_buildAndTell iC_size cC_age cC_skill cC_pals iL_cells inow_spades cnow_wall cnow_mood cnow_place itold_size ctold_numbers x1 = some res) : amf l D Y yX11_buildAndTell wsX11_buildAndTell rmX11_buildAndTell [.ref (ao 0), .int x1] [oX11 ao atext atold aL aC alaw aotherLaw anow atrial ahistory aguess acrewPlan amoatPlan achance io_wind io_spadeLimit, oX2 aC iC_size, rI Y (aC 1) 8 cC_age, rI Y (aC 2) 8 cC_skill, rI Y (aC 4) 8 cC_pals, oX5 aL iL_cells, oX9 anow aL aC inow_moats inow_spades inow_tides, rI Y (anow 1) 12 cnow_wall, rI Y (anow 3) 8 cnow_mood, rI Y (anow 4) 8 cnow_place, oX8 atold itold_size, rJ Y (atold 1) 12 ctold_numbers] (some (.int res.1)) [oX11 ao atext atold aL aC alaw aotherLaw anow atrial ahistory aguess acrewPlan amoatPlan achance io_wind io_spadeLimit, oX2 aC iC_size, rI Y (aC 1) 8 cC_age, rI Y (aC 2) 8 cC_skill, rI Y (aC 4) 8 cC_pals, oX5 aL iL_cells, oX9 anow aL aC inow_moats inow_spades inow_tides, rI Y (anow 1) 12 res.2.1, rI Y (anow 3) 8 res.2.2.1, rI Y (anow 4) 8 res.2.2.2.1, oX8 atold res.2.2.2.2.1, rJ Y (atold 1) 12 res.2.2.2.2.2] := by
  refine amf.of (cc := cX11_buildAndTell) (maxL := 4) (rt := (some .int)) (by decide) rfl RX11 rfl (Nat.le_of_ble_eq_true rfl) [some (.ref (ao 0)), some (.int x1), none, none] rfl ?_
  intro X C hQ
  unfold fX11_buildAndTell at hf
  refine a_iload_n C dX11_buildAndTell_0 rfl ?_
  refine a_iconst C (0 : Int32) dX11_buildAndTell_1 (by decide) ?_
  refine a_bipush C (30 : Int32) dX11_buildAndTell_2 (by decide) ?_
  obtain ⟨r1, h1, hf⟩ := fx_bind hf
  refine a_fS C (kX11_within l D Y x1 (0 : Int32) (30 : Int32) r1 h1) gX11_buildAndTell_X11_within rfl dvX11_within ⟨⟨rfl, rfl⟩, ⟨Nat.le_of_ble_eq_true rfl, Nat.le_of_ble_eq_true rfl⟩, ⟨Nat.le_of_ble_eq_true rfl, Nat.le_of_ble_eq_true rfl⟩⟩ rfl (Nat.le_of_ble_eq_true rfl) dX11_buildAndTell_4 [] [0, 1, 2, 3, 4, 5, 6, 7, 8, 9, 10, 11] trivial rfl rfl [oX11 ao atext atold aL aC alaw aotherLaw anow atrial ahistory aguess acrewPlan amoatPlan achance io_wind io_spadeLimit, oX2 aC iC_size, rI Y (aC 1) 8 cC_age, rI Y (aC 2) 8 cC_skill, rI Y (aC 4) 8 cC_pals, oX5 aL iL_cells, oX9 anow aL aC inow_moats inow_spades inow_tides, rI Y (anow 1) 12 cnow_wall, rI Y (anow 3) 8 cnow_mood, rI Y (anow 4) 8 cnow_place, oX8 atold itold_size, rJ Y (atold 1) 12 ctold_numbers] trivial ⟨rfl, rfl, rfl, rfl, rfl, rfl, rfl, rfl, rfl, rfl, rfl, rfl, trivial⟩ rfl ?_
  refine a_if_ne C 12 dX11_buildAndTell_7 (by decide) (fun h2 => ?_) (fun h2 => ?_)
  · have hf := fx_f h2 hf
    refine a_aload_n C dX11_buildAndTell_12 rfl ?_
    refine a_get C eX11_buildAndTell_56 dX11_buildAndTell_13 0 rfl rfl ?_
    obtain ⟨r3, h3, hf⟩ := fx_bind hf
    refine a_fV C (kX9_sand l D Y anow aL aC inow_moats inow_spades inow_tides cnow_wall iL_cells r3 h3) gX11_buildAndTell_X9_sand rfl dvX9_sand ⟨⟨rfl, rfl⟩, ⟨Nat.le_of_ble_eq_true rfl, Nat.le_of_ble_eq_true rfl⟩, ⟨Nat.le_of_ble_eq_true rfl, Nat.le_of_ble_eq_true rfl⟩⟩ rfl (Nat.le_of_ble_eq_true rfl) dX11_buildAndTell_16 rfl rfl [6, 7, 5] [0, 1, 2, 3, 4, 8, 9, 10, 11] ⟨rfl, rfl, rfl, trivial⟩ rfl rfl [oX11 ao atext atold aL aC alaw aotherLaw anow atrial ahistory aguess acrewPlan amoatPlan achance io_wind io_spadeLimit, oX2 aC iC_size, rI Y (aC 1) 8 cC_age, rI Y (aC 2) 8 cC_skill, rI Y (aC 4) 8 cC_pals, oX5 aL iL_cells, oX9 anow aL aC inow_moats inow_spades inow_tides, rI Y (anow 1) 12 cnow_wall, rI Y (anow 3) 8 cnow_mood, rI Y (anow 4) 8 cnow_place, oX8 atold itold_size, rJ Y (atold 1) 12 ctold_numbers] ⟨rfl, rfl, rfl, trivial⟩ ⟨rfl, rfl, rfl, rfl, rfl, rfl, rfl, rfl, rfl, trivial⟩ rfl ?_
    refine a_istore_n C dX11_buildAndTell_19 (by decide) rfl ?_
    refine a_aload_n C dX11_buildAndTell_20 rfl ?_
    refine a_get C eX11_buildAndTell_56 dX11_buildAndTell_21 0 rfl rfl ?_
    obtain ⟨r4, h4, hf⟩ := fx_bind hf
    refine a_fV C (kX9_atHome l D Y anow aL aC inow_moats inow_spades inow_tides cnow_place iC_size r4 h4) gX11_buildAndTell_X9_atHome rfl dvX9_atHome ⟨⟨rfl, rfl⟩, ⟨Nat.le_of_ble_eq_true rfl, Nat.le_of_ble_eq_true rfl⟩, ⟨Nat.le_of_ble_eq_true rfl, Nat.le_of_ble_eq_true rfl⟩⟩ rfl (Nat.le_of_ble_eq_true rfl) dX11_buildAndTell_24 rfl rfl [6, 9, 1] [0, 2, 3, 4, 5, 7, 8, 10, 11] ⟨rfl, rfl, rfl, trivial⟩ rfl rfl [oX11 ao atext atold aL aC alaw aotherLaw anow atrial ahistory aguess acrewPlan amoatPlan achance io_wind io_spadeLimit, oX2 aC iC_size, rI Y (aC 1) 8 cC_age, rI Y (aC 2) 8 cC_skill, rI Y (aC 4) 8 cC_pals, oX5 aL iL_cells, oX9 anow aL aC inow_moats inow_spades inow_tides, rI Y (anow 1) 12 cnow_wall, rI Y (anow 3) 8 cnow_mood, rI Y (anow 4) 8 cnow_place, oX8 atold itold_size, rJ Y (atold 1) 12 ctold_numbers] ⟨rfl, rfl, rfl, trivial⟩ ⟨rfl, rfl, rfl, rfl, rfl, rfl, rfl, rfl, rfl, trivial⟩ rfl ?_
    refine a_istore_n C dX11_buildAndTell_27 (by decide) rfl ?_
    refine a_aload_n C dX11_buildAndTell_28 rfl ?_
    refine a_get C eX11_buildAndTell_56 dX11_buildAndTell_29 0 rfl rfl ?_
    refine a_iload_n C dX11_buildAndTell_32 rfl ?_
    obtain ⟨r5, h5, hf⟩ := fx_bind hf
    refine a_fV C (kX9_buildOn l D Y anow aL aC inow_moats inow_spades inow_tides cnow_wall cnow_mood cnow_place iC_size cC_age cC_skill cC_pals iL_cells x1 r5 h5) gX11_buildAndTell_X9_buildOn rfl dvX9_buildOn ⟨⟨rfl, rfl⟩, ⟨Nat.le_of_ble_eq_true rfl, Nat.le_of_ble_eq_true rfl⟩, ⟨Nat.le_of_ble_eq_true rfl, Nat.le_of_ble_eq_true rfl⟩⟩ rfl (Nat.le_of_ble_eq_true rfl) dX11_buildAndTell_33 rfl rfl [6, 7, 8, 9, 1, 2, 3, 4, 5] [0, 10, 11] ⟨rfl, rfl, rfl, rfl, rfl, rfl, rfl, rfl, rfl, trivial⟩ rfl rfl [oX11 ao atext atold aL aC alaw aotherLaw anow atrial ahistory aguess acrewPlan amoatPlan achance io_wind io_spadeLimit, oX2 aC iC_size, rI Y (aC 1) 8 cC_age, rI Y (aC 2) 8 cC_skill, rI Y (aC 4) 8 cC_pals, oX5 aL iL_cells, oX9 anow aL aC inow_moats inow_spades inow_tides, rI Y (anow 1) 12 r5.1, rI Y (anow 3) 8 r5.2.1, rI Y (anow 4) 8 r5.2.2, oX8 atold itold_size, rJ Y (atold 1) 12 ctold_numbers] ⟨rfl, rfl, rfl, rfl, rfl, rfl, rfl, rfl, rfl, trivial⟩ ⟨rfl, rfl, rfl, trivial⟩ rfl ?_
    refine a_aload_n C dX11_buildAndTell_36 rfl ?_
    refine a_get C eX11_buildAndTell_19 dX11_buildAndTell_37 0 rfl rfl ?_
    refine a_aload_n C dX11_buildAndTell_40 rfl ?_
    refine a_get C eX11_buildAndTell_56 dX11_buildAndTell_41 0 rfl rfl ?_
    obtain ⟨r6, h6, hf⟩ := fx_bind hf
    refine a_fV C (kX9_atHome l D Y anow aL aC inow_moats inow_spades inow_tides r5.2.2 iC_size r6 h6) gX11_buildAndTell_X9_atHome rfl dvX9_atHome ⟨⟨rfl, rfl⟩, ⟨Nat.le_of_ble_eq_true rfl, Nat.le_of_ble_eq_true rfl⟩, ⟨Nat.le_of_ble_eq_true rfl, Nat.le_of_ble_eq_true rfl⟩⟩ rfl (Nat.le_of_ble_eq_true rfl) dX11_buildAndTell_44 rfl rfl [6, 9, 1] [0, 2, 3, 4, 5, 7, 8, 10, 11] ⟨rfl, rfl, rfl, trivial⟩ rfl rfl [oX11 ao atext atold aL aC alaw aotherLaw anow atrial ahistory aguess acrewPlan amoatPlan achance io_wind io_spadeLimit, oX2 aC iC_size, rI Y (aC 1) 8 cC_age, rI Y (aC 2) 8 cC_skill, rI Y (aC 4) 8 cC_pals, oX5 aL iL_cells, oX9 anow aL aC inow_moats inow_spades inow_tides, rI Y (anow 1) 12 r5.1, rI Y (anow 3) 8 r5.2.1, rI Y (anow 4) 8 r5.2.2, oX8 atold itold_size, rJ Y (atold 1) 12 ctold_numbers] ⟨rfl, rfl, rfl, trivial⟩ ⟨rfl, rfl, rfl, rfl, rfl, rfl, rfl, rfl, rfl, trivial⟩ rfl ?_
    refine a_iload_n C dX11_buildAndTell_47 rfl ?_
    refine a_iconst C (-1 : Int32) dX11_buildAndTell_48 (by decide) ?_
    refine a_ixor C dX11_buildAndTell_49 ?_
    refine a_iand C dX11_buildAndTell_50 ?_
    refine a_i2l C dX11_buildAndTell_51 ?_
    obtain ⟨r7, h7, hf⟩ := fx_bind hf
    refine a_fV C (kX8_tell l D Y atold itold_size ctold_numbers ((r6 &&& (r4 ^^^ (-1 : Int32))).toInt64) r7 h7) gX11_buildAndTell_X8_tell rfl dvX8_tell ⟨⟨rfl, rfl⟩, ⟨Nat.le_of_ble_eq_true rfl, Nat.le_of_ble_eq_true rfl⟩, ⟨Nat.le_of_ble_eq_true rfl, Nat.le_of_ble_eq_true rfl⟩⟩ rfl (Nat.le_of_ble_eq_true rfl) dX11_buildAndTell_52 rfl rfl [10, 11] [0, 1, 2, 3, 4, 5, 6, 7, 8, 9] ⟨rfl, rfl, trivial⟩ rfl rfl [oX11 ao atext atold aL aC alaw aotherLaw anow atrial ahistory aguess acrewPlan amoatPlan achance io_wind io_spadeLimit, oX2 aC iC_size, rI Y (aC 1) 8 cC_age, rI Y (aC 2) 8 cC_skill, rI Y (aC 4) 8 cC_pals, oX5 aL iL_cells, oX9 anow aL aC inow_moats inow_spades inow_tides, rI Y (anow 1) 12 r5.1, rI Y (anow 3) 8 r5.2.1, rI Y (anow 4) 8 r5.2.2, oX8 atold r7.1, rJ Y (atold 1) 12 r7.2] ⟨rfl, rfl, trivial⟩ ⟨rfl, rfl, rfl, rfl, rfl, rfl, rfl, rfl, rfl, rfl, trivial⟩ rfl ?_
    refine a_aload_n C dX11_buildAndTell_55 rfl ?_
    refine a_get C eX11_buildAndTell_56 dX11_buildAndTell_56 0 rfl rfl ?_
    obtain ⟨r8, h8, hf⟩ := fx_bind hf
    refine a_fV C (kX9_sand l D Y anow aL aC inow_moats inow_spades inow_tides r5.1 iL_cells r8 h8) gX11_buildAndTell_X9_sand rfl dvX9_sand ⟨⟨rfl, rfl⟩, ⟨Nat.le_of_ble_eq_true rfl, Nat.le_of_ble_eq_true rfl⟩, ⟨Nat.le_of_ble_eq_true rfl, Nat.le_of_ble_eq_true rfl⟩⟩ rfl (Nat.le_of_ble_eq_true rfl) dX11_buildAndTell_59 rfl rfl [6, 7, 5] [0, 1, 2, 3, 4, 8, 9, 10, 11] ⟨rfl, rfl, rfl, trivial⟩ rfl rfl [oX11 ao atext atold aL aC alaw aotherLaw anow atrial ahistory aguess acrewPlan amoatPlan achance io_wind io_spadeLimit, oX2 aC iC_size, rI Y (aC 1) 8 cC_age, rI Y (aC 2) 8 cC_skill, rI Y (aC 4) 8 cC_pals, oX5 aL iL_cells, oX9 anow aL aC inow_moats inow_spades inow_tides, rI Y (anow 1) 12 r5.1, rI Y (anow 3) 8 r5.2.1, rI Y (anow 4) 8 r5.2.2, oX8 atold r7.1, rJ Y (atold 1) 12 r7.2] ⟨rfl, rfl, rfl, trivial⟩ ⟨rfl, rfl, rfl, rfl, rfl, rfl, rfl, rfl, rfl, trivial⟩ rfl ?_
    refine a_iload_n C dX11_buildAndTell_62 rfl ?_
    refine a_isub C dX11_buildAndTell_63 ?_
    obtain rfl := fx_some hf
    exact a_iret C hQ dX11_buildAndTell_64 ⟨rfl, rfl⟩
  · have hf := fx_t h2 hf
    refine a_iconst C (-1 : Int32) dX11_buildAndTell_10 (by decide) ?_
    obtain rfl := fx_some hf
    exact a_iret C hQ dX11_buildAndTell_11 ⟨rfl, rfl⟩
-- X11_wordsOf
abbrev rmX11_wordsOf : Room := { frames := 0, cells := 0, slots := 0, locals := 0 }
theorem dvX11_wordsOf : yX11_wordsOf.cls ≠ "java/lang/invoke/MethodHandle" ∧ yX11_wordsOf.cls ≠ "java/lang/invoke/VarHandle" ∧ (parseMethodDescriptor yX11_wordsOf.desc).map (fun d => d.parameters.length) = some 1 := by decide +kernel
def fX11_wordsOf (x0 : Int32) : Option (Int32) :=
  if x0 = (98 : Int32) then (some (1 : Int32)) else if x0 = (99 : Int32) then (some (-1 : Int32)) else if x0 = (100 : Int32) then (some (-1 : Int32)) else if x0 = (101 : Int32) then (some (-1 : Int32)) else if x0 = (102 : Int32) then (some (-1 : Int32)) else if x0 = (103 : Int32) then (some (2 : Int32)) else if x0 = (104 : Int32) then (some (1 : Int32)) else if x0 = (105 : Int32) then (some (-1 : Int32)) else if x0 = (106 : Int32) then (some (-1 : Int32)) else if x0 = (107 : Int32) then (some (-1 : Int32)) else if x0 = (108 : Int32) then (some (-1 : Int32)) else if x0 = (109 : Int32) then (some (1 : Int32)) else if x0 = (110 : Int32) then (some (-1 : Int32)) else if x0 = (111 : Int32) then (some (-1 : Int32)) else if x0 = (112 : Int32) then (some (-1 : Int32)) else if x0 = (113 : Int32) then (some (-1 : Int32)) else if x0 = (114 : Int32) then (some (-1 : Int32)) else if x0 = (115 : Int32) then (some (1 : Int32)) else if x0 = (116 : Int32) then (some (1 : Int32)) else if x0 = (117 : Int32) then (some (-1 : Int32)) else if x0 = (118 : Int32) then (some (-1 : Int32)) else if x0 = (119 : Int32) then (some (0 : Int32)) else (some (-1 : Int32))
set_option maxHeartbeats 400000 in
set_option maxRecDepth 100000 in
theorem kX11_wordsOf (l : Launch) (D : va_G) (Y : Nat → ClassId) (x0 : Int32) (res : Int32) (hf : fX11_wordsOf x0 = some res) : amf l D Y yX11_wordsOf wsX11_wordsOf rmX11_wordsOf [.int x0] [] (some (.int res)) [] := by
  refine amf.of (cc := cX11_wordsOf) (maxL := 1) (rt := (some .int)) (by decide) rfl RX11 rfl (Nat.le_of_ble_eq_true rfl) [some (.int x0)] rfl ?_
  intro X C hQ
  unfold fX11_wordsOf at hf
  refine a_iload_n C dX11_wordsOf_0 rfl ?_
  by_cases h1 : x0 = (98 : Int32)
  · have hf := fx_t h1 hf
    refine a_tableIn (off := 105) C 106 dX11_wordsOf_1 (by rw [h1]; decide) (by rw [h1]; decide) (by rw [h1]; first | done | rfl | decide) (by decide) ?_
    refine a_iconst C (1 : Int32) dX11_wordsOf_106 (by decide) ?_
    obtain rfl := fx_some hf
    exact a_iret C hQ dX11_wordsOf_107 ⟨rfl, rfl⟩
  have hf := fx_f h1 hf
  by_cases h2 : x0 = (99 : Int32)
  · have hf := fx_t h2 hf
    refine a_tableIn (off := 109) C 110 dX11_wordsOf_1 (by rw [h2]; decide) (by rw [h2]; decide) (by rw [h2]; first | done | rfl | decide) (by decide) ?_
    refine a_iconst C (-1 : Int32) dX11_wordsOf_110 (by decide) ?_
    obtain rfl := fx_some hf
    exact a_iret C hQ dX11_wordsOf_111 ⟨rfl, rfl⟩
  have hf := fx_f h2 hf
  by_cases h3 : x0 = (100 : Int32)
  · have hf := fx_t h3 hf
    refine a_tableIn (off := 109) C 110 dX11_wordsOf_1 (by rw [h3]; decide) (by rw [h3]; decide) (by rw [h3]; first | done | rfl | decide) (by decide) ?_
    refine a_iconst C (-1 : Int32) dX11_wordsOf_110 (by decide) ?_
    obtain rfl := fx_some hf
    exact a_iret C hQ dX11_wordsOf_111 ⟨rfl, rfl⟩
  have hf := fx_f h3 hf
  by_cases h4 : x0 = (101 : Int32)
  · have hf := fx_t h4 hf
    refine a_tableIn (off := 109) C 110 dX11_wordsOf_1 (by rw [h4]; decide) (by rw [h4]; decide) (by rw [h4]; first | done | rfl | decide) (by decide) ?_
    refine a_iconst C (-1 : Int32) dX11_wordsOf_110 (by decide) ?_
    obtain rfl := fx_some hf
    exact a_iret C hQ dX11_wordsOf_111 ⟨rfl, rfl⟩
  have hf := fx_f h4 hf
  by_cases h5 : x0 = (102 : Int32)
  · have hf := fx_t h5 hf
    refine a_tableIn (off := 109) C 110 dX11_wordsOf_1 (by rw [h5]; decide) (by rw [h5]; decide) (by rw [h5]; first | done | rfl | decide) (by decide) ?_
    refine a_iconst C (-1 : Int32) dX11_wordsOf_110 (by decide) ?_
    obtain rfl := fx_some hf
    exact a_iret C hQ dX11_wordsOf_111 ⟨rfl, rfl⟩
  have hf := fx_f h5 hf
  by_cases h6 : x0 = (103 : Int32)
  · have hf := fx_t h6 hf
    refine a_tableIn (off := 103) C 104 dX11_wordsOf_1 (by rw [h6]; decide) (by rw [h6]; decide) (by rw [h6]; first | done | rfl | decide) (by decide) ?_
    refine a_iconst C (2 : Int32) dX11_wordsOf_104 (by decide) ?_
    obtain rfl := fx_some hf
    exact a_iret C hQ dX11_wordsOf_105 ⟨rfl, rfl⟩
  have hf := fx_f h6 hf
  by_cases h7 : x0 = (104 : Int32)
  · have hf := fx_t h7 hf
    refine a_tableIn (off := 105) C 106 dX11_wordsOf_1 (by rw [h7]; decide) (by rw [h7]; decide) (by rw [h7]; first | done | rfl | decide) (by decide) ?_
    refine a_iconst C (1 : Int32) dX11_wordsOf_106 (by decide) ?_
    obtain rfl := fx_some hf
    exact a_iret C hQ dX11_wordsOf_107 ⟨rfl, rfl⟩
  have hf := fx_f h7 hf
  by_cases h8 : x0 = (105 : Int32)
  · have hf := fx_t h8 hf
    refine a_tableIn (off := 109) C 110 dX11_wordsOf_1 (by rw [h8]; decide) (by rw [h8]; decide) (by rw [h8]; first | done | rfl | decide) (by decide) ?_
    refine a_iconst C (-1 : Int32) dX11_wordsOf_110 (by decide) ?_
    obtain rfl := fx_some hf
    exact a_iret C hQ dX11_wordsOf_111 ⟨rfl, rfl⟩
  have hf := fx_f h8 hf
  by_cases h9 : x0 = (106 : Int32)
  · have hf := fx_t h9 hf
    refine a_tableIn (off := 109) C 110 dX11_wordsOf_1 (by rw [h9]; decide) (by rw [h9]; decide) (by rw [h9]; first | done | rfl | decide) (by decide) ?_
    refine a_iconst C (-1 : Int32) dX11_wordsOf_110 (by decide) ?_
    obtain rfl := fx_some hf
    exact a_iret C hQ dX11_wordsOf_111 ⟨rfl, rfl⟩
  have hf := fx_f h9 hf
  by_cases h10 : x0 = (107 : Int32)
  · have hf := fx_t h10 hf
    refine a_tableIn (off := 109) C 110 dX11_wordsOf_1 (by rw [h10]; decide) (by rw [h10]; decide) (by rw [h10]; first | done | rfl | decide) (by decide) ?_
    refine a_iconst C (-1 : Int32) dX11_wordsOf_110 (by decide) ?_
    obtain rfl := fx_some hf
    exact a_iret C hQ dX11_wordsOf_111 ⟨rfl, rfl⟩
  have hf := fx_f h10 hf
  by_cases h11 : x0 = (108 : Int32)
  · have hf := fx_t h11 hf
    refine a_tableIn (off := 109) C 110 dX11_wordsOf_1 (by rw [h11]; decide) (by rw [h11]; decide) (by rw [h11]; first | done | rfl | decide) (by decide) ?_
    refine a_iconst C (-1 : Int32) dX11_wordsOf_110 (by decide) ?_
    obtain rfl := fx_some hf
    exact a_iret C hQ dX11_wordsOf_111 ⟨rfl, rfl⟩
  have hf := fx_f h11 hf
  by_cases h12 : x0 = (109 : Int32)
  · have hf := fx_t h12 hf
    refine a_tableIn (off := 105) C 106 dX11_wordsOf_1 (by rw [h12]; decide) (by rw [h12]; decide) (by rw [h12]; first | done | rfl | decide) (by decide) ?_
    refine a_iconst C (1 : Int32) dX11_wordsOf_106 (by decide) ?_
    obtain rfl := fx_some hf
    exact a_iret C hQ dX11_wordsOf_107 ⟨rfl, rfl⟩
  have hf := fx_f h12 hf
  by_cases h13 : x0 = (110 : Int32)
  · have hf := fx_t h13 hf
    refine a_tableIn (off := 109) C 110 dX11_wordsOf_1 (by rw [h13]; decide) (by rw [h13]; decide) (by rw [h13]; first | done | rfl | decide) (by decide) ?_
    refine a_iconst C (-1 : Int32) dX11_wordsOf_110 (by decide) ?_
    obtain rfl := fx_some hf
    exact a_iret C hQ dX11_wordsOf_111 ⟨rfl, rfl⟩
  have hf := fx_f h13 hf
  by_cases h14 : x0 = (111 : Int32)
  · have hf := fx_t h14 hf
    refine a_tableIn (off := 109) C 110 dX11_wordsOf_1 (by rw [h14]; decide) (by rw [h14]; decide) (by rw [h14]; first | done | rfl | decide) (by decide) ?_
    refine a_iconst C (-1 : Int32) dX11_wordsOf_110 (by decide) ?_
    obtain rfl := fx_some hf
    exact a_iret C hQ dX11_wordsOf_111 ⟨rfl, rfl⟩
  have hf := fx_f h14 hf
  by_cases h15 : x0 = (112 : Int32)
  · have hf := fx_t h15 hf
    refine a_tableIn (off := 109) C 110 dX11_wordsOf_1 (by rw [h15]; decide) (by rw [h15]; decide) (by rw [h15]; first | done | rfl | decide) (by decide) ?_
    refine a_iconst C (-1 : Int32) dX11_wordsOf_110 (by decide) ?_
    obtain rfl := fx_some hf
    exact a_iret C hQ dX11_wordsOf_111 ⟨rfl, rfl⟩
  have hf := fx_f h15 hf
  by_cases h16 : x0 = (113 : Int32)
  · have hf := fx_t h16 hf
    refine a_tableIn (off := 109) C 110 dX11_wordsOf_1 (by rw [h16]; decide) (by rw [h16]; decide) (by rw [h16]; first | done | rfl | decide) (by decide) ?_
    refine a_iconst C (-1 : Int32) dX11_wordsOf_110 (by decide) ?_
    obtain rfl := fx_some hf
    exact a_iret C hQ dX11_wordsOf_111 ⟨rfl, rfl⟩
  have hf := fx_f h16 hf
  by_cases h17 : x0 = (114 : Int32)
  · have hf := fx_t h17 hf
    refine a_tableIn (off := 109) C 110 dX11_wordsOf_1 (by rw [h17]; decide) (by rw [h17]; decide) (by rw [h17]; first | done | rfl | decide) (by decide) ?_
    refine a_iconst C (-1 : Int32) dX11_wordsOf_110 (by decide) ?_
    obtain rfl := fx_some hf
    exact a_iret C hQ dX11_wordsOf_111 ⟨rfl, rfl⟩
  have hf := fx_f h17 hf
  by_cases h18 : x0 = (115 : Int32)
  · have hf := fx_t h18 hf
    refine a_tableIn (off := 105) C 106 dX11_wordsOf_1 (by rw [h18]; decide) (by rw [h18]; decide) (by rw [h18]; first | done | rfl | decide) (by decide) ?_
    refine a_iconst C (1 : Int32) dX11_wordsOf_106 (by decide) ?_
    obtain rfl := fx_some hf
    exact a_iret C hQ dX11_wordsOf_107 ⟨rfl, rfl⟩
  have hf := fx_f h18 hf
  by_cases h19 : x0 = (116 : Int32)
  · have hf := fx_t h19 hf
    refine a_tableIn (off := 105) C 106 dX11_wordsOf_1 (by rw [h19]; decide) (by rw [h19]; decide) (by rw [h19]; first | done | rfl | decide) (by decide) ?_
    refine a_iconst C (1 : Int32) dX11_wordsOf_106 (by decide) ?_
    obtain rfl := fx_some hf
    exact a_iret C hQ dX11_wordsOf_107 ⟨rfl, rfl⟩
  have hf := fx_f h19 hf
  by_cases h20 : x0 = (117 : Int32)
  · have hf := fx_t h20 hf
    refine a_tableIn (off := 109) C 110 dX11_wordsOf_1 (by rw [h20]; decide) (by rw [h20]; decide) (by rw [h20]; first | done | rfl | decide) (by decide) ?_
    refine a_iconst C (-1 : Int32) dX11_wordsOf_110 (by decide) ?_
    obtain rfl := fx_some hf
    exact a_iret C hQ dX11_wordsOf_111 ⟨rfl, rfl⟩
  have hf := fx_f h20 hf
  by_cases h21 : x0 = (118 : Int32)
  · have hf := fx_t h21 hf
    refine a_tableIn (off := 109) C 110 dX11_wordsOf_1 (by rw [h21]; decide) (by rw [h21]; decide) (by rw [h21]; first | done | rfl | decide) (by decide) ?_
    refine a_iconst C (-1 : Int32) dX11_wordsOf_110 (by decide) ?_
    obtain rfl := fx_some hf
    exact a_iret C hQ dX11_wordsOf_111 ⟨rfl, rfl⟩
  have hf := fx_f h21 hf
  by_cases h22 : x0 = (119 : Int32)
  · have hf := fx_t h22 hf
    refine a_tableIn (off := 107) C 108 dX11_wordsOf_1 (by rw [h22]; decide) (by rw [h22]; decide) (by rw [h22]; first | done | rfl | decide) (by decide) ?_
    refine a_iconst C (0 : Int32) dX11_wordsOf_108 (by decide) ?_
    obtain rfl := fx_some hf
    exact a_iret C hQ dX11_wordsOf_109 ⟨rfl, rfl⟩
  have hf := fx_f h22 hf
  refine a_tableOut C 110 dX11_wordsOf_1 (by have z0 := lv_neT (a := 98) h1 (by decide); have z1 := lv_neT (a := 99) h2 (by decide); have z2 := lv_neT (a := 100) h3 (by decide); have z3 := lv_neT (a := 101) h4 (by decide); have z4 := lv_neT (a := 102) h5 (by decide); have z5 := lv_neT (a := 103) h6 (by decide); have z6 := lv_neT (a := 104) h7 (by decide); have z7 := lv_neT (a := 105) h8 (by decide); have z8 := lv_neT (a := 106) h9 (by decide); have z9 := lv_neT (a := 107) h10 (by decide); have z10 := lv_neT (a := 108) h11 (by decide); have z11 := lv_neT (a := 109) h12 (by decide); have z12 := lv_neT (a := 110) h13 (by decide); have z13 := lv_neT (a := 111) h14 (by decide); have z14 := lv_neT (a := 112) h15 (by decide); have z15 := lv_neT (a := 113) h16 (by decide); have z16 := lv_neT (a := 114) h17 (by decide); have z17 := lv_neT (a := 115) h18 (by decide); have z18 := lv_neT (a := 116) h19 (by decide); have z19 := lv_neT (a := 117) h20 (by decide); have z20 := lv_neT (a := 118) h21 (by decide); have z21 := lv_neT (a := 119) h22 (by decide); omega) (by decide) ?_
  refine a_iconst C (-1 : Int32) dX11_wordsOf_110 (by decide) ?_
  obtain rfl := fx_some hf
  exact a_iret C hQ dX11_wordsOf_111 ⟨rfl, rfl⟩
-- X11_wordFits
abbrev rmX11_wordFits : Room := { frames := 1, cells := 0, slots := 0, locals := 22 }
theorem dvX11_wordFits : yX11_wordFits.cls ≠ "java/lang/invoke/MethodHandle" ∧ yX11_wordFits.cls ≠ "java/lang/invoke/VarHandle" ∧ (parseMethodDescriptor yX11_wordFits.desc).map (fun d => d.parameters.length) = some 3 := by decide +kernel
def fX11_wordFits_b42 (s0 : Int32) (s1 : Int32) (s2 : Int32) : Option (Int32) :=
  (fX11_within s0 s1 s2).bind (fun r1 => if r1 = 0 ∨ r1 = 1 then some r1 else none)
set_option maxHeartbeats 400000 in
set_option maxRecDepth 100000 in
theorem kX11_wordFits_b42 {X : cxT} {l : Launch} {D : va_G} {Y : Nat → ClassId} {s0 : Int32} {s1 : Int32} {s2 : Int32} {res : Int32} (C : axC X l D Y cX11_wordFits 4 RX11 wsX11_wordFits rmX11_wordFits (some .boolean)) (hQ : axQ X 0 0 (fun r9 w9 => r9 = (some (.int res)) ∧ w9 = [])) (hf : fX11_wordFits_b42 s0 s1 s2 = some res) : ax X 0 0 42 [none, none, none, none] [] [.int s2, .int s1, .int s0] := by
  unfold fX11_wordFits_b42 at hf
  obtain ⟨r1, h1, hf⟩ := fx_bind hf
  refine a_fS C (kX11_within l D Y s0 s1 s2 r1 h1) gX11_wordFits_X11_within rfl dvX11_within ⟨⟨rfl, rfl⟩, ⟨Nat.le_of_ble_eq_true rfl, Nat.le_of_ble_eq_true rfl⟩, ⟨Nat.le_of_ble_eq_true rfl, Nat.le_of_ble_eq_true rfl⟩⟩ rfl (Nat.le_of_ble_eq_true rfl) dX11_wordFits_42 [] [] trivial rfl rfl [] trivial trivial rfl ?_
  obtain ⟨h2, hf⟩ := fx_ite hf
  obtain rfl := fx_some hf
  exact a_zret C hQ h2 dX11_wordFits_45 ⟨rfl, rfl⟩
def fX11_wordFits_b27 (x2 : Int32) (s0 : Int32) : Option (Int32) :=
  if s0 = (0 : Int32) then (fX11_wordFits_b42 x2 (97 : Int32) (104 : Int32)) else (fX11_wordFits_b42 x2 (97 : Int32) (108 : Int32))
set_option maxHeartbeats 400000 in
set_option maxRecDepth 100000 in
theorem kX11_wordFits_b27 {X : cxT} {l : Launch} {D : va_G} {Y : Nat → ClassId} {x2 : Int32} {s0 : Int32} {res : Int32} (C : axC X l D Y cX11_wordFits 4 RX11 wsX11_wordFits rmX11_wordFits (some .boolean)) (hQ : axQ X 0 0 (fun r9 w9 => r9 = (some (.int res)) ∧ w9 = [])) (hf : fX11_wordFits_b27 x2 s0 = some res) : ax X 0 0 27 [none, none, some (.int x2), none] [] [.int s0] := by
  unfold fX11_wordFits_b27 at hf
  refine a_istore_n C dX11_wordFits_27 (by decide) rfl ?_
  refine a_iload_n C dX11_wordFits_28 rfl ?_
  refine a_bipush C (97 : Int32) dX11_wordFits_29 (by decide) ?_
  refine a_iload_n C dX11_wordFits_31 rfl ?_
  refine a_if_eq C 40 dX11_wordFits_32 (by decide) (fun h3 => ?_) (fun h3 => ?_)
  · have hf := fx_t h3 hf
    refine a_bipush C (104 : Int32) dX11_wordFits_40 (by decide) ?_
    refine a_kill [2, 3] ?_
    exact kX11_wordFits_b42 C hQ hf
  · have hf := fx_f h3 hf
    refine a_bipush C (108 : Int32) dX11_wordFits_35 (by decide) ?_
    refine a_goto C 42 dX11_wordFits_37 (by decide) ?_
    refine a_kill [2, 3] ?_
    exact kX11_wordFits_b42 C hQ hf
def fX11_wordFits_b22 (x2 : Int32) : Option (Int32) :=
  fX11_wordFits_b27 x2 (1 : Int32)
set_option maxHeartbeats 400000 in
set_option maxRecDepth 100000 in
theorem kX11_wordFits_b22 {X : cxT} {l : Launch} {D : va_G} {Y : Nat → ClassId} {x2 : Int32} {res : Int32} (C : axC X l D Y cX11_wordFits 4 RX11 wsX11_wordFits rmX11_wordFits (some .boolean)) (hQ : axQ X 0 0 (fun r9 w9 => r9 = (some (.int res)) ∧ w9 = [])) (hf : fX11_wordFits_b22 x2 = some res) : ax X 0 0 22 [none, none, some (.int x2), none] [] [] := by
  unfold fX11_wordFits_b22 at hf
  refine a_iconst C (1 : Int32) dX11_wordFits_22 (by decide) ?_
  refine a_goto C 27 dX11_wordFits_23 (by decide) ?_
  exact kX11_wordFits_b27 C hQ hf
def fX11_wordFits (x0 : Int32) (x1 : Int32) (x2 : Int32) : Option (Int32) :=
  if x0 = (98 : Int32) then ((fX11_isDigit x2).bind (fun r7 => if r7 = 0 ∨ r7 = 1 then some r7 else none)) else (if x0 = (109 : Int32) then (fX11_wordFits_b22 x2) else (if x1 = (1 : Int32) then (fX11_wordFits_b22 x2) else (fX11_wordFits_b27 x2 (0 : Int32))))
set_option maxHeartbeats 400000 in
set_option maxRecDepth 100000 in
theorem kX11_wordFits (l : Launch) (D : va_G) (Y : Nat → ClassId) (x0 : Int32) (x1 : Int32) (x2 : Int32) (res : Int32) (hf : fX11_wordFits x0 x1 x2 = some res) : amf l D Y yX11_wordFits wsX11_wordFits rmX11_wordFits [.int x0, .int x1, .int x2] [] (some (.int res)) [] := by
  refine amf.of (cc := cX11_wordFits) (maxL := 4) (rt := (some .boolean)) (by decide) rfl RX11 rfl (Nat.le_of_ble_eq_true rfl) [some (.int x0), some (.int x1), some (.int x2), none] rfl ?_
  intro X C hQ
  unfold fX11_wordFits at hf
  refine a_iload_n C dX11_wordFits_0 rfl ?_
  refine a_bipush C (98 : Int32) dX11_wordFits_1 (by decide) ?_
  refine a_icmp_ne C 11 dX11_wordFits_3 (by decide) (fun h4 => ?_) (fun h4 => ?_)
  · have hf := fx_f h4 hf
    refine a_iload_n C dX11_wordFits_11 rfl ?_
    refine a_bipush C (109 : Int32) dX11_wordFits_12 (by decide) ?_
    refine a_icmp_eq C 22 dX11_wordFits_14 (by decide) (fun h5 => ?_) (fun h5 => ?_)
    · have hf := fx_t h5 hf
      refine a_kill [0, 1] ?_
      exact kX11_wordFits_b22 C hQ hf
    · have hf := fx_f h5 hf
      refine a_iload_n C dX11_wordFits_17 rfl ?_
      refine a_iconst C (1 : Int32) dX11_wordFits_18 (by decide) ?_
      refine a_icmp_ne C 26 dX11_wordFits_19 (by decide) (fun h6 => ?_) (fun h6 => ?_)
      · have hf := fx_f h6 hf
        refine a_iconst C (0 : Int32) dX11_wordFits_26 (by decide) ?_
        refine a_kill [0, 1] ?_
        exact kX11_wordFits_b27 C hQ hf
      · have hf := fx_t h6 hf
        refine a_kill [0, 1] ?_
        exact kX11_wordFits_b22 C hQ hf
  · have hf := fx_t h4 hf
    refine a_iload_n C dX11_wordFits_6 rfl ?_
    obtain ⟨r7, h7, hf⟩ := fx_bind hf
    refine a_fS C (kX11_isDigit l D Y x2 r7 h7) gX11_wordFits_X11_isDigit rfl dvX11_isDigit ⟨⟨rfl, rfl⟩, ⟨Nat.le_of_ble_eq_true rfl, Nat.le_of_ble_eq_true rfl⟩, ⟨Nat.le_of_ble_eq_true rfl, Nat.le_of_ble_eq_true rfl⟩⟩ rfl (Nat.le_of_ble_eq_true rfl) dX11_wordFits_7 [] [] trivial rfl rfl [] trivial trivial rfl ?_
    obtain ⟨h8, hf⟩ := fx_ite hf
    obtain rfl := fx_some hf
    exact a_zret C hQ h8 dX11_wordFits_10 ⟨rfl, rfl⟩
-- X11_wordAt
abbrev rmX11_wordAt : Room := { frames := 1, cells := 0, slots := 0, locals := 22 }
theorem dvX11_wordAt : yX11_wordAt.cls = RX11 ∧ yX11_wordAt.cls ≠ "java/lang/invoke/MethodHandle" ∧ yX11_wordAt.cls ≠ "java/lang/invoke/VarHandle" ∧ (parseMethodDescriptor yX11_wordAt.desc).map (fun d => d.parameters.length) = some 1 := by decide +kernel
theorem eX11_wordAt_inX11 : ∀ w ∈ wsX110, w ∈ wsX11_wordAt := by decide +kernel
theorem eX11_wordAt_10 : aF wsX11_wordAt RX11 10 11 0 := ⟨RX11, TX11, 17, rfl, eX11_wordAt_inX11, by decide, by decide +kernel⟩
theorem eX11_wordAt_inX10 : ∀ w ∈ wsX100, w ∈ wsX11_wordAt := by decide +kernel
theorem eX11_wordAt_240 : aF wsX11_wordAt RX11 240 10 0 := ⟨RX10, TX10, 2, rfl, eX11_wordAt_inX10, by decide, by decide +kernel⟩
def fX11_wordAt_b40 (ctext_signs : Nat → Int32) (s0 : Int32) : Option (Int32) :=
  some s0
set_option maxHeartbeats 400000 in
set_option maxRecDepth 100000 in
theorem kX11_wordAt_b40 {X : cxT} {l : Launch} {D : va_G} {Y : Nat → ClassId} {ao atext atold aL aC alaw aotherLaw anow atrial ahistory aguess acrewPlan amoatPlan achance : Nat → Nat} {io_wind : Int32} {io_spadeLimit : Int32} {itext_length : Int32} {ctext_signs : Nat → Int32} {s0 : Int32} {res : Int32} (C : axC X l D Y cX11_wordAt 3 RX11 wsX11_wordAt rmX11_wordAt (some .int)) (hQ : axQ X 0 0 (fun r9 w9 => r9 = (some (.int res)) ∧ w9 = [oX11 ao atext atold aL aC alaw aotherLaw anow atrial ahistory aguess acrewPlan amoatPlan achance io_wind io_spadeLimit, oX10 atext itext_length, rC Y (atext 1) 80 ctext_signs])) (hf : fX11_wordAt_b40 ctext_signs s0 = some res) : ax X 0 0 40 [none, none, none] [oX11 ao atext atold aL aC alaw aotherLaw anow atrial ahistory aguess acrewPlan amoatPlan achance io_wind io_spadeLimit, oX10 atext itext_length, rC Y (atext 1) 80 ctext_signs] [.int s0] := by
  unfold fX11_wordAt_b40 at hf
  obtain rfl := fx_some hf
  exact a_iret C hQ dX11_wordAt_40 ⟨rfl, rfl⟩
def fX11_wordAt (ctext_signs : Nat → Int32) (x1 : Int32) : Option (Int32) :=
  (fX11_within x1 (0 : Int32) (79 : Int32)).bind (fun r1 => if r1 = (0 : Int32) then (some (-1 : Int32)) else (if inb x1 80 then (fX11_isDigit (ctext_signs (Int32.toNatClampNeg x1))).bind (fun r4 => if r4 = (0 : Int32) then (fX11_wordAt_b40 ctext_signs ((ctext_signs (Int32.toNatClampNeg x1)) - (97 : Int32))) else (fX11_wordAt_b40 ctext_signs ((ctext_signs (Int32.toNatClampNeg x1)) - (48 : Int32)))) else none))
set_option maxHeartbeats 400000 in
set_option maxRecDepth 100000 in
theorem kX11_wordAt (l : Launch) (D : va_G) (Y : Nat → ClassId) (ao atext atold aL aC alaw aotherLaw anow atrial ahistory aguess acrewPlan amoatPlan achance : Nat → Nat) (io_wind : Int32) (io_spadeLimit : Int32) (itext_length : Int32) (ctext_signs : Nat → Int32) (x1 : Int32) (res : Int32) (hf : fX11_wordAt ctext_signs x1 = some res) : amf l D Y yX11_wordAt wsX11_wordAt rmX11_wordAt [.ref (ao 0), .int x1] [oX11 ao atext atold aL aC alaw aotherLaw anow atrial ahistory aguess acrewPlan amoatPlan achance io_wind io_spadeLimit, oX10 atext itext_length, rC Y (atext 1) 80 ctext_signs] (some (.int res)) [oX11 ao atext atold aL aC alaw aotherLaw anow atrial ahistory aguess acrewPlan amoatPlan achance io_wind io_spadeLimit, oX10 atext itext_length, rC Y (atext 1) 80 ctext_signs] := by
  refine amf.of (cc := cX11_wordAt) (maxL := 3) (rt := (some .int)) (by decide) rfl RX11 rfl (Nat.le_of_ble_eq_true rfl) [some (.ref (ao 0)), some (.int x1), none] rfl ?_
  intro X C hQ
  unfold fX11_wordAt at hf
  refine a_iload_n C dX11_wordAt_0 rfl ?_
  refine a_iconst C (0 : Int32) dX11_wordAt_1 (by decide) ?_
  refine a_bipush C (79 : Int32) dX11_wordAt_2 (by decide) ?_
  obtain ⟨r1, h1, hf⟩ := fx_bind hf
  refine a_fS C (kX11_within l D Y x1 (0 : Int32) (79 : Int32) r1 h1) gX11_wordAt_X11_within rfl dvX11_within ⟨⟨rfl, rfl⟩, ⟨Nat.le_of_ble_eq_true rfl, Nat.le_of_ble_eq_true rfl⟩, ⟨Nat.le_of_ble_eq_true rfl, Nat.le_of_ble_eq_true rfl⟩⟩ rfl (Nat.le_of_ble_eq_true rfl) dX11_wordAt_4 [] [0, 1, 2] trivial rfl rfl [oX11 ao atext atold aL aC alaw aotherLaw anow atrial ahistory aguess acrewPlan amoatPlan achance io_wind io_spadeLimit, oX10 atext itext_length, rC Y (atext 1) 80 ctext_signs] trivial ⟨rfl, rfl, rfl, trivial⟩ rfl ?_
  refine a_if_ne C 12 dX11_wordAt_7 (by decide) (fun h2 => ?_) (fun h2 => ?_)
  · have hf := fx_f h2 hf
    refine a_aload_n C dX11_wordAt_12 rfl ?_
    refine a_get C eX11_wordAt_10 dX11_wordAt_13 0 rfl rfl ?_
    refine a_get C eX11_wordAt_240 dX11_wordAt_16 1 rfl rfl ?_
    refine a_iload_n C dX11_wordAt_19 rfl ?_
    obtain ⟨h3, hf⟩ := fx_ite hf
    refine a_cald C dX11_wordAt_20 2 rfl h3 ?_
    refine a_istore_n C dX11_wordAt_21 (by decide) rfl ?_
    refine a_iload_n C dX11_wordAt_22 rfl ?_
    obtain ⟨r4, h4, hf⟩ := fx_bind hf
    refine a_fS C (kX11_isDigit l D Y (ctext_signs (Int32.toNatClampNeg x1)) r4 h4) gX11_wordAt_X11_isDigit rfl dvX11_isDigit ⟨⟨rfl, rfl⟩, ⟨Nat.le_of_ble_eq_true rfl, Nat.le_of_ble_eq_true rfl⟩, ⟨Nat.le_of_ble_eq_true rfl, Nat.le_of_ble_eq_true rfl⟩⟩ rfl (Nat.le_of_ble_eq_true rfl) dX11_wordAt_23 [] [0, 1, 2] trivial rfl rfl [oX11 ao atext atold aL aC alaw aotherLaw anow atrial ahistory aguess acrewPlan amoatPlan achance io_wind io_spadeLimit, oX10 atext itext_length, rC Y (atext 1) 80 ctext_signs] trivial ⟨rfl, rfl, rfl, trivial⟩ rfl ?_
    refine a_if_eq C 36 dX11_wordAt_26 (by decide) (fun h5 => ?_) (fun h5 => ?_)
    · have hf := fx_t h5 hf
      refine a_iload_n C dX11_wordAt_36 rfl ?_
      refine a_bipush C (97 : Int32) dX11_wordAt_37 (by decide) ?_
      refine a_isub C dX11_wordAt_39 ?_
      refine a_kill [0, 1, 2] ?_
      exact kX11_wordAt_b40 C hQ hf
    · have hf := fx_f h5 hf
      refine a_iload_n C dX11_wordAt_29 rfl ?_
      refine a_bipush C (48 : Int32) dX11_wordAt_30 (by decide) ?_
      refine a_isub C dX11_wordAt_32 ?_
      refine a_goto C 40 dX11_wordAt_33 (by decide) ?_
      refine a_kill [0, 1, 2] ?_
      exact kX11_wordAt_b40 C hQ hf
  · have hf := fx_t h2 hf
    refine a_iconst C (-1 : Int32) dX11_wordAt_10 (by decide) ?_
    obtain rfl := fx_some hf
    exact a_iret C hQ dX11_wordAt_11 ⟨rfl, rfl⟩
-- X11_heightOf
abbrev rmX11_heightOf : Room := { frames := 3, cells := 0, slots := 0, locals := 69 }
theorem dvX11_heightOf : yX11_heightOf.cls = RX11 ∧ yX11_heightOf.cls ≠ "java/lang/invoke/MethodHandle" ∧ yX11_heightOf.cls ≠ "java/lang/invoke/VarHandle" ∧ (parseMethodDescriptor yX11_heightOf.desc).map (fun d => d.parameters.length) = some 3 := by decide +kernel
theorem eX11_heightOf_inX9 : ∀ w ∈ wsX90, w ∈ wsX11_heightOf := by decide +kernel
theorem eX11_heightOf_380 : aF wsX11_heightOf RX11 380 9 8 := ⟨RX9, TX9, 9, rfl, eX11_heightOf_inX9, by decide, by decide +kernel⟩
theorem eX11_heightOf_inX11 : ∀ w ∈ wsX110, w ∈ wsX11_heightOf := by decide +kernel
theorem eX11_heightOf_207 : aF wsX11_heightOf RX11 207 11 6 := ⟨RX11, TX11, 17, rfl, eX11_heightOf_inX11, by decide, by decide +kernel⟩
theorem eX11_heightOf_26 : aF wsX11_heightOf RX11 26 11 2 := ⟨RX11, TX11, 17, rfl, eX11_heightOf_inX11, by decide, by decide +kernel⟩
theorem eX11_heightOf_inX5 : ∀ w ∈ wsX50, w ∈ wsX11_heightOf := by decide +kernel
theorem eX11_heightOf_131 : aF wsX11_heightOf RX11 131 5 0 := ⟨RX5, TX5, 5, rfl, eX11_heightOf_inX5, by decide, by decide +kernel⟩
theorem eX11_heightOf_159 : aF wsX11_heightOf RX11 159 9 6 := ⟨RX9, TX9, 9, rfl, eX11_heightOf_inX9, by decide, by decide +kernel⟩
def fX11_heightOf (io_wind : Int32) (ip1_length : Int32) (cp1_codes : Nat → Int32) (cp1_stack : Nat → Int32) (ip2_moats : Int32) (ip2_tides : Int32) (iL_cells : Int32) (x3 : Int32) : Option (Int32 × (Nat → Int32)) :=
  (fJ6_bitCount_0f7a4 ip2_moats).bind (fun r1 => (fX6_value ip1_length cp1_codes cp1_stack (jrem (ip2_tides + x3) (8 : Int32)) io_wind iL_cells r1).bind (fun r2 => some (r2.1, r2.2)))
set_option maxHeartbeats 400000 in
set_option maxRecDepth 100000 in
theorem kX11_heightOf (l : Launch) (D : va_G) (Y : Nat → ClassId) (ao atext atold aL aC alaw aotherLaw anow atrial ahistory aguess acrewPlan amoatPlan achance ap1 ap2 : Nat → Nat) (io_wind : Int32) (io_spadeLimit : Int32) (ip1_length : Int32) (ip1_at : Int32) (ip1_sign : Int32) (ip1_bad : Int32) (cp1_codes : Nat → Int32) (cp1_stack : Nat → Int32) (ip2_moats : Int32) (ip2_spades : Int32) (ip2_tides : Int32) (iL_cells : Int32) (x3 : Int32) (res : Int32 × (Nat → Int32)) (hf : fX11_heightOf io_wind ip1_length cp1_codes cp1_stack ip2_moats ip2_tides iL_cells x3 = some res) : amf l D Y yX11_heightOf wsX11_heightOf rmX11_heightOf [.ref (ao 0), .ref (ap1 0), .ref (ap2 0), .int x3] [oX11 ao atext atold aL aC alaw aotherLaw anow atrial ahistory aguess acrewPlan amoatPlan achance io_wind io_spadeLimit, oX6 ap1 ip1_length ip1_at ip1_sign ip1_bad, rI Y (ap1 1) 40 cp1_codes, rI Y (ap1 2) 40 cp1_stack, oX9 ap2 aL aC ip2_moats ip2_spades ip2_tides, oX5 aL iL_cells] (some (.int res.1)) [oX11 ao atext atold aL aC alaw aotherLaw anow atrial ahistory aguess acrewPlan amoatPlan achance io_wind io_spadeLimit, oX6 ap1 ip1_length ip1_at ip1_sign ip1_bad, rI Y (ap1 1) 40 cp1_codes, rI Y (ap1 2) 40 res.2, oX9 ap2 aL aC ip2_moats ip2_spades ip2_tides, oX5 aL iL_cells] := by
  refine amf.of (cc := cX11_heightOf) (maxL := 4) (rt := (some .int)) (by decide) rfl RX11 rfl (Nat.le_of_ble_eq_true rfl) [some (.ref (ao 0)), some (.ref (ap1 0)), some (.ref (ap2 0)), some (.int x3)] rfl ?_
  intro X C hQ
  unfold fX11_heightOf at hf
  refine a_aload_n C dX11_heightOf_0 rfl ?_
  refine a_aload_n C dX11_heightOf_1 rfl ?_
  refine a_get C eX11_heightOf_380 dX11_heightOf_2 4 rfl rfl ?_
  refine a_iload_n C dX11_heightOf_5 rfl ?_
  refine a_iadd C dX11_heightOf_6 ?_
  refine a_bipush C (8 : Int32) dX11_heightOf_7 (by decide) ?_
  refine a_irem C dX11_heightOf_9 (by decide) ?_
  refine a_aload_n C dX11_heightOf_10 rfl ?_
  refine a_get C eX11_heightOf_207 dX11_heightOf_11 0 rfl rfl ?_
  refine a_aload_n C dX11_heightOf_14 rfl ?_
  refine a_get C eX11_heightOf_26 dX11_heightOf_15 0 rfl rfl ?_
  refine a_get C eX11_heightOf_131 dX11_heightOf_18 5 rfl rfl ?_
  refine a_aload_n C dX11_heightOf_21 rfl ?_
  refine a_get C eX11_heightOf_159 dX11_heightOf_22 4 rfl rfl ?_
  obtain ⟨r1, h1, hf⟩ := fx_bind hf
  refine a_fS C (kJ6_bitCount_0f7a4 l D Y ip2_moats r1 h1) gX11_heightOf_J6_bitCount_0f7a4 rfl dvJ6_bitCount_0f7a4 ⟨⟨rfl, rfl⟩, ⟨Nat.le_of_ble_eq_true rfl, Nat.le_of_ble_eq_true rfl⟩, ⟨Nat.le_of_ble_eq_true rfl, Nat.le_of_ble_eq_true rfl⟩⟩ rfl (Nat.le_of_ble_eq_true rfl) dX11_heightOf_25 [] [0, 1, 2, 3, 4, 5] trivial rfl rfl [oX11 ao atext atold aL aC alaw aotherLaw anow atrial ahistory aguess acrewPlan amoatPlan achance io_wind io_spadeLimit, oX6 ap1 ip1_length ip1_at ip1_sign ip1_bad, rI Y (ap1 1) 40 cp1_codes, rI Y (ap1 2) 40 cp1_stack, oX9 ap2 aL aC ip2_moats ip2_spades ip2_tides, oX5 aL iL_cells] trivial ⟨rfl, rfl, rfl, rfl, rfl, rfl, trivial⟩ rfl ?_
  obtain ⟨r2, h2, hf⟩ := fx_bind hf
  refine a_fV C (kX6_value l D Y ap1 ip1_length ip1_at ip1_sign ip1_bad cp1_codes cp1_stack (jrem (ip2_tides + x3) (8 : Int32)) io_wind iL_cells r1 r2 h2) gX11_heightOf_X6_value rfl dvX6_value ⟨⟨rfl, rfl⟩, ⟨Nat.le_of_ble_eq_true rfl, Nat.le_of_ble_eq_true rfl⟩, ⟨Nat.le_of_ble_eq_true rfl, Nat.le_of_ble_eq_true rfl⟩⟩ rfl (Nat.le_of_ble_eq_true rfl) dX11_heightOf_28 rfl rfl [1, 2, 3] [0, 4, 5] ⟨rfl, rfl, rfl, trivial⟩ rfl rfl [oX11 ao atext atold aL aC alaw aotherLaw anow atrial ahistory aguess acrewPlan amoatPlan achance io_wind io_spadeLimit, oX6 ap1 ip1_length ip1_at ip1_sign ip1_bad, rI Y (ap1 1) 40 cp1_codes, rI Y (ap1 2) 40 r2.2, oX9 ap2 aL aC ip2_moats ip2_spades ip2_tides, oX5 aL iL_cells] ⟨rfl, rfl, rfl, trivial⟩ ⟨rfl, rfl, rfl, trivial⟩ rfl ?_
  obtain rfl := fx_some hf
  exact a_iret C hQ dX11_heightOf_31 ⟨rfl, rfl⟩
-- X11_breaksOf
abbrev rmX11_breaksOf : Room := { frames := 4, cells := 0, slots := 0, locals := 92 }
theorem dvX11_breaksOf : yX11_breaksOf.cls = RX11 ∧ yX11_breaksOf.cls ≠ "java/lang/invoke/MethodHandle" ∧ yX11_breaksOf.cls ≠ "java/lang/invoke/VarHandle" ∧ (parseMethodDescriptor yX11_breaksOf.desc).map (fun d => d.parameters.length) = some 2 := by decide +kernel
theorem eX11_breaksOf_inX11 : ∀ w ∈ wsX110, w ∈ wsX11_breaksOf := by decide +kernel
theorem eX11_breaksOf_60 : aF wsX11_breaksOf RX11 60 11 9 := ⟨RX11, TX11, 17, rfl, eX11_breaksOf_inX11, by decide, by decide +kernel⟩
theorem eX11_breaksOf_56 : aF wsX11_breaksOf RX11 56 11 8 := ⟨RX11, TX11, 17, rfl, eX11_breaksOf_inX11, by decide, by decide +kernel⟩
def fX11_breaksOf_b51 (io_wind : Int32) (ip1_length : Int32) (cp1_codes : Nat → Int32) (cp1_stack : Nat → Int32) (iL_cells : Int32) (cL_base : Nat → Int32) (cL_dyke : Nat → Int32) (inow_moats : Int32) (inow_spades : Int32) (inow_tides : Int32) (cnow_wall : Nat → Int32) (cnow_depth : Nat → Int32) (cnow_mood : Nat → Int32) (cnow_place : Nat → Int32) (itrial_moats : Int32) (itrial_spades : Int32) (itrial_tides : Int32) (ctrial_wall : Nat → Int32) (ctrial_depth : Nat → Int32) (ctrial_mood : Nat → Int32) (ctrial_place : Nat → Int32) (x3 : Int32) : Option (Int32 × (Nat → Int32) × Int32 × Int32 × Int32 × (Nat → Int32) × (Nat → Int32) × (Nat → Int32) × (Nat → Int32)) :=
  some (x3, cp1_stack, itrial_moats, itrial_spades, itrial_tides, ctrial_wall, ctrial_depth, ctrial_mood, ctrial_place)
set_option maxHeartbeats 400000 in
set_option maxRecDepth 100000 in
theorem kX11_breaksOf_b51 {X : cxT} {l : Launch} {D : va_G} {Y : Nat → ClassId} {ao atext atold aL aC alaw aotherLaw anow atrial ahistory aguess acrewPlan amoatPlan achance ap1 : Nat → Nat} {io_wind : Int32} {io_spadeLimit : Int32} {ip1_length : Int32} {ip1_at : Int32} {ip1_sign : Int32} {ip1_bad : Int32} {cp1_codes : Nat → Int32} {cp1_stack : Nat → Int32} {iL_cells : Int32} {cL_base : Nat → Int32} {cL_dyke : Nat → Int32} {inow_moats : Int32} {inow_spades : Int32} {inow_tides : Int32} {cnow_wall : Nat → Int32} {cnow_depth : Nat → Int32} {cnow_mood : Nat → Int32} {cnow_place : Nat → Int32} {itrial_moats : Int32} {itrial_spades : Int32} {itrial_tides : Int32} {ctrial_wall : Nat → Int32} {ctrial_depth : Nat → Int32} {ctrial_mood : Nat → Int32} {ctrial_place : Nat → Int32} {x3 : Int32} {res : Int32 × (Nat → Int32) × Int32 × Int32 × Int32 × (Nat → Int32) × (Nat → Int32) × (Nat → Int32) × (Nat → Int32)} (C : axC X l D Y cX11_breaksOf 5 RX11 wsX11_breaksOf rmX11_breaksOf (some .int)) (hQ : axQ X 0 0 (fun r9 w9 => r9 = (some (.int res.1)) ∧ w9 = [oX11 ao atext atold aL aC alaw aotherLaw anow atrial ahistory aguess acrewPlan amoatPlan achance io_wind io_spadeLimit, oX6 ap1 ip1_length ip1_at ip1_sign ip1_bad, rI Y (ap1 1) 40 cp1_codes, rI Y (ap1 2) 40 res.2.1, oX5 aL iL_cells, rI Y (aL 1) 12 cL_base, rI Y (aL 2) 12 cL_dyke, oX9 anow aL aC inow_moats inow_spades inow_tides, rI Y (anow 1) 12 cnow_wall, rI Y (anow 2) 12 cnow_depth, rI Y (anow 3) 8 cnow_mood, rI Y (anow 4) 8 cnow_place, oX9 atrial aL aC res.2.2.1 res.2.2.2.1 res.2.2.2.2.1, rI Y (atrial 1) 12 res.2.2.2.2.2.1, rI Y (atrial 2) 12 res.2.2.2.2.2.2.1, rI Y (atrial 3) 8 res.2.2.2.2.2.2.2.1, rI Y (atrial 4) 8 res.2.2.2.2.2.2.2.2])) (hf : fX11_breaksOf_b51 io_wind ip1_length cp1_codes cp1_stack iL_cells cL_base cL_dyke inow_moats inow_spades inow_tides cnow_wall cnow_depth cnow_mood cnow_place itrial_moats itrial_spades itrial_tides ctrial_wall ctrial_depth ctrial_mood ctrial_place x3 = some res) : ax X 0 0 51 [none, none, none, some (.int x3), none] [oX11 ao atext atold aL aC alaw aotherLaw anow atrial ahistory aguess acrewPlan amoatPlan achance io_wind io_spadeLimit, oX6 ap1 ip1_length ip1_at ip1_sign ip1_bad, rI Y (ap1 1) 40 cp1_codes, rI Y (ap1 2) 40 cp1_stack, oX5 aL iL_cells, rI Y (aL 1) 12 cL_base, rI Y (aL 2) 12 cL_dyke, oX9 anow aL aC inow_moats inow_spades inow_tides, rI Y (anow 1) 12 cnow_wall, rI Y (anow 2) 12 cnow_depth, rI Y (anow 3) 8 cnow_mood, rI Y (anow 4) 8 cnow_place, oX9 atrial aL aC itrial_moats itrial_spades itrial_tides, rI Y (atrial 1) 12 ctrial_wall, rI Y (atrial 2) 12 ctrial_depth, rI Y (atrial 3) 8 ctrial_mood, rI Y (atrial 4) 8 ctrial_place] [] := by
  unfold fX11_breaksOf_b51 at hf
  refine a_iload_n C dX11_breaksOf_51 rfl ?_
  obtain rfl := fx_some hf
  exact a_iret C hQ dX11_breaksOf_52 ⟨rfl, rfl⟩
def fX11_breaksOf_b45 (io_wind : Int32) (ip1_length : Int32) (cp1_codes : Nat → Int32) (cp1_stack : Nat → Int32) (iL_cells : Int32) (cL_base : Nat → Int32) (cL_dyke : Nat → Int32) (inow_moats : Int32) (inow_spades : Int32) (inow_tides : Int32) (cnow_wall : Nat → Int32) (cnow_depth : Nat → Int32) (cnow_mood : Nat → Int32) (cnow_place : Nat → Int32) (itrial_moats : Int32) (itrial_spades : Int32) (itrial_tides : Int32) (ctrial_wall : Nat → Int32) (ctrial_depth : Nat → Int32) (ctrial_mood : Nat → Int32) (ctrial_place : Nat → Int32) (x2 : Int32) (x3 : Int32) (x4 : Int32) (k16 : (Nat → Int32) × Int32 × Int32 × (Nat → Int32) × (Nat → Int32) × Int32 × Int32 → Option (Int32 × (Nat → Int32) × Int32 × Int32 × Int32 × (Nat → Int32) × (Nat → Int32) × (Nat → Int32) × (Nat → Int32))) : Option (Int32 × (Nat → Int32) × Int32 × Int32 × Int32 × (Nat → Int32) × (Nat → Int32) × (Nat → Int32) × (Nat → Int32)) :=
  k16 (cp1_stack, itrial_moats, itrial_tides, ctrial_wall, ctrial_depth, x3, (x4 + (1 : Int32)))
set_option maxHeartbeats 400000 in
set_option maxRecDepth 100000 in
theorem kX11_breaksOf_b45 {X : cxT} {l : Launch} {D : va_G} {Y : Nat → ClassId} {ao atext atold aL aC alaw aotherLaw anow atrial ahistory aguess acrewPlan amoatPlan achance ap1 : Nat → Nat} {io_wind : Int32} {io_spadeLimit : Int32} {ip1_length : Int32} {ip1_at : Int32} {ip1_sign : Int32} {ip1_bad : Int32} {cp1_codes : Nat → Int32} {cp1_stack : Nat → Int32} {iL_cells : Int32} {cL_base : Nat → Int32} {cL_dyke : Nat → Int32} {inow_moats : Int32} {inow_spades : Int32} {inow_tides : Int32} {cnow_wall : Nat → Int32} {cnow_depth : Nat → Int32} {cnow_mood : Nat → Int32} {cnow_place : Nat → Int32} {itrial_moats : Int32} {itrial_spades : Int32} {itrial_tides : Int32} {ctrial_wall : Nat → Int32} {ctrial_depth : Nat → Int32} {ctrial_mood : Nat → Int32} {ctrial_place : Nat → Int32} {x2 : Int32} {x3 : Int32} {x4 : Int32} {res : Int32 × (Nat → Int32) × Int32 × Int32 × Int32 × (Nat → Int32) × (Nat → Int32) × (Nat → Int32) × (Nat → Int32)} (C : axC X l D Y cX11_breaksOf 5 RX11 wsX11_breaksOf rmX11_breaksOf (some .int)) (hQ : axQ X 0 0 (fun r9 w9 => r9 = (some (.int res.1)) ∧ w9 = [oX11 ao atext atold aL aC alaw aotherLaw anow atrial ahistory aguess acrewPlan amoatPlan achance io_wind io_spadeLimit, oX6 ap1 ip1_length ip1_at ip1_sign ip1_bad, rI Y (ap1 1) 40 cp1_codes, rI Y (ap1 2) 40 res.2.1, oX5 aL iL_cells, rI Y (aL 1) 12 cL_base, rI Y (aL 2) 12 cL_dyke, oX9 anow aL aC inow_moats inow_spades inow_tides, rI Y (anow 1) 12 cnow_wall, rI Y (anow 2) 12 cnow_depth, rI Y (anow 3) 8 cnow_mood, rI Y (anow 4) 8 cnow_place, oX9 atrial aL aC res.2.2.1 res.2.2.2.1 res.2.2.2.2.1, rI Y (atrial 1) 12 res.2.2.2.2.2.1, rI Y (atrial 2) 12 res.2.2.2.2.2.2.1, rI Y (atrial 3) 8 res.2.2.2.2.2.2.2.1, rI Y (atrial 4) 8 res.2.2.2.2.2.2.2.2])) {k16 : (Nat → Int32) × Int32 × Int32 × (Nat → Int32) × (Nat → Int32) × Int32 × Int32 → Option (Int32 × (Nat → Int32) × Int32 × Int32 × Int32 × (Nat → Int32) × (Nat → Int32) × (Nat → Int32) × (Nat → Int32))} (hk16 : ∀ s : (Nat → Int32) × Int32 × Int32 × (Nat → Int32) × (Nat → Int32) × Int32 × Int32, k16 s = some res → ax X 0 0 16 [some (.ref (ao 0)), some (.ref (ap1 0)), some (.int x2), some (.int s.2.2.2.2.2.1), some (.int s.2.2.2.2.2.2)] [oX11 ao atext atold aL aC alaw aotherLaw anow atrial ahistory aguess acrewPlan amoatPlan achance io_wind io_spadeLimit, oX6 ap1 ip1_length ip1_at ip1_sign ip1_bad, rI Y (ap1 1) 40 cp1_codes, rI Y (ap1 2) 40 s.1, oX5 aL iL_cells, rI Y (aL 1) 12 cL_base, rI Y (aL 2) 12 cL_dyke, oX9 anow aL aC inow_moats inow_spades inow_tides, rI Y (anow 1) 12 cnow_wall, rI Y (anow 2) 12 cnow_depth, rI Y (anow 3) 8 cnow_mood, rI Y (anow 4) 8 cnow_place, oX9 atrial aL aC s.2.1 itrial_spades s.2.2.1, rI Y (atrial 1) 12 s.2.2.2.1, rI Y (atrial 2) 12 s.2.2.2.2.1, rI Y (atrial 3) 8 ctrial_mood, rI Y (atrial 4) 8 ctrial_place] []) (hf : fX11_breaksOf_b45 io_wind ip1_length cp1_codes cp1_stack iL_cells cL_base cL_dyke inow_moats inow_spades inow_tides cnow_wall cnow_depth cnow_mood cnow_place itrial_moats itrial_spades itrial_tides ctrial_wall ctrial_depth ctrial_mood ctrial_place x2 x3 x4 k16 = some res) : ax X 0 0 45 [some (.ref (ao 0)), some (.ref (ap1 0)), some (.int x2), some (.int x3), some (.int x4)] [oX11 ao atext atold aL aC alaw aotherLaw anow atrial ahistory aguess acrewPlan amoatPlan achance io_wind io_spadeLimit, oX6 ap1 ip1_length ip1_at ip1_sign ip1_bad, rI Y (ap1 1) 40 cp1_codes, rI Y (ap1 2) 40 cp1_stack, oX5 aL iL_cells, rI Y (aL 1) 12 cL_base, rI Y (aL 2) 12 cL_dyke, oX9 anow aL aC inow_moats inow_spades inow_tides, rI Y (anow 1) 12 cnow_wall, rI Y (anow 2) 12 cnow_depth, rI Y (anow 3) 8 cnow_mood, rI Y (anow 4) 8 cnow_place, oX9 atrial aL aC itrial_moats itrial_spades itrial_tides, rI Y (atrial 1) 12 ctrial_wall, rI Y (atrial 2) 12 ctrial_depth, rI Y (atrial 3) 8 ctrial_mood, rI Y (atrial 4) 8 ctrial_place] [] := by
  unfold fX11_breaksOf_b45 at hf
  refine a_iinc C (1 : Int32) dX11_breaksOf_45 (by decide) rfl (by decide) rfl ?_
  refine a_goto C 16 dX11_breaksOf_48 (by decide) ?_
  exact hk16 (cp1_stack, itrial_moats, itrial_tides, ctrial_wall, ctrial_depth, x3, (x4 + (1 : Int32))) hf
def fX11_breaksOf_l16 (io_wind : Int32) (ip1_length : Int32) (cp1_codes : Nat → Int32) (iL_cells : Int32) (cL_base : Nat → Int32) (cL_dyke : Nat → Int32) (inow_moats : Int32) (inow_spades : Int32) (inow_tides : Int32) (cnow_wall : Nat → Int32) (cnow_depth : Nat → Int32) (cnow_mood : Nat → Int32) (cnow_place : Nat → Int32) (itrial_spades : Int32) (ctrial_mood : Nat → Int32) (ctrial_place : Nat → Int32) (x2 : Int32) (k16 : (Nat → Int32) × Int32 × Int32 × (Nat → Int32) × (Nat → Int32) × Int32 × Int32 → Option (Int32 × (Nat → Int32) × Int32 × Int32 × Int32 × (Nat → Int32) × (Nat → Int32) × (Nat → Int32) × (Nat → Int32))) (cp1_stack : Nat → Int32) (itrial_moats : Int32) (itrial_tides : Int32) (ctrial_wall : Nat → Int32) (ctrial_depth : Nat → Int32) (x3 : Int32) (x4 : Int32) : Option (Int32 × (Nat → Int32) × Int32 × Int32 × Int32 × (Nat → Int32) × (Nat → Int32) × (Nat → Int32) × (Nat → Int32)) :=
  if x2 ≤ x4 then (fX11_breaksOf_b51 io_wind ip1_length cp1_codes cp1_stack iL_cells cL_base cL_dyke inow_moats inow_spades inow_tides cnow_wall cnow_depth cnow_mood cnow_place itrial_moats itrial_spades itrial_tides ctrial_wall ctrial_depth ctrial_mood ctrial_place x3) else ((fX11_heightOf io_wind ip1_length cp1_codes cp1_stack itrial_moats itrial_tides iL_cells (0 : Int32)).bind (fun r2 => (fX9_surge itrial_moats itrial_tides ctrial_wall ctrial_depth iL_cells cL_base cL_dyke r2.1).bind (fun r3 => if r3.1 = (0 : Int32) then (fX11_breaksOf_b45 io_wind ip1_length cp1_codes r2.2 iL_cells cL_base cL_dyke inow_moats inow_spades inow_tides cnow_wall cnow_depth cnow_mood cnow_place r3.2.1 itrial_spades r3.2.2.1 r3.2.2.2.1 r3.2.2.2.2 ctrial_mood ctrial_place x2 x3 x4 k16) else (fX11_breaksOf_b45 io_wind ip1_length cp1_codes r2.2 iL_cells cL_base cL_dyke inow_moats inow_spades inow_tides cnow_wall cnow_depth cnow_mood cnow_place r3.2.1 itrial_spades r3.2.2.1 r3.2.2.2.1 r3.2.2.2.2 ctrial_mood ctrial_place x2 (x3 + (1 : Int32)) x4 k16))))
def fX11_breaksOf_b16 (io_wind : Int32) (ip1_length : Int32) (cp1_codes : Nat → Int32) (cp1_stack : Nat → Int32) (iL_cells : Int32) (cL_base : Nat → Int32) (cL_dyke : Nat → Int32) (inow_moats : Int32) (inow_spades : Int32) (inow_tides : Int32) (cnow_wall : Nat → Int32) (cnow_depth : Nat → Int32) (cnow_mood : Nat → Int32) (cnow_place : Nat → Int32) (itrial_moats : Int32) (itrial_spades : Int32) (itrial_tides : Int32) (ctrial_wall : Nat → Int32) (ctrial_depth : Nat → Int32) (ctrial_mood : Nat → Int32) (ctrial_place : Nat → Int32) (x2 : Int32) (x3 : Int32) (x4 : Int32) : Option (Int32 × (Nat → Int32) × Int32 × Int32 × Int32 × (Nat → Int32) × (Nat → Int32) × (Nat → Int32) × (Nat → Int32)) :=
  loopN (fun (s : (Nat → Int32) × Int32 × Int32 × (Nat → Int32) × (Nat → Int32) × Int32 × Int32) k16 => fX11_breaksOf_l16 io_wind ip1_length cp1_codes iL_cells cL_base cL_dyke inow_moats inow_spades inow_tides cnow_wall cnow_depth cnow_mood cnow_place itrial_spades ctrial_mood ctrial_place x2 k16 s.1 s.2.1 s.2.2.1 s.2.2.2.1 s.2.2.2.2.1 s.2.2.2.2.2.1 s.2.2.2.2.2.2) FUEL (cp1_stack, itrial_moats, itrial_tides, ctrial_wall, ctrial_depth, x3, x4)
set_option maxHeartbeats 400000 in
set_option maxRecDepth 100000 in
theorem kX11_breaksOf_l16 {X : cxT} {l : Launch} {D : va_G} {Y : Nat → ClassId} {ao atext atold aL aC alaw aotherLaw anow atrial ahistory aguess acrewPlan amoatPlan achance ap1 : Nat → Nat} {io_wind : Int32} {io_spadeLimit : Int32} {ip1_length : Int32} {ip1_at : Int32} {ip1_sign : Int32} {ip1_bad : Int32} {cp1_codes : Nat → Int32} {cp1_stack : Nat → Int32} {iL_cells : Int32} {cL_base : Nat → Int32} {cL_dyke : Nat → Int32} {inow_moats : Int32} {inow_spades : Int32} {inow_tides : Int32} {cnow_wall : Nat → Int32} {cnow_depth : Nat → Int32} {cnow_mood : Nat → Int32} {cnow_place : Nat → Int32} {itrial_moats : Int32} {itrial_spades : Int32} {itrial_tides : Int32} {ctrial_wall : Nat → Int32} {ctrial_depth : Nat → Int32} {ctrial_mood : Nat → Int32} {ctrial_place : Nat → Int32} {x2 : Int32} {x3 : Int32} {x4 : Int32} {res : Int32 × (Nat → Int32) × Int32 × Int32 × Int32 × (Nat → Int32) × (Nat → Int32) × (Nat → Int32) × (Nat → Int32)} (C : axC X l D Y cX11_breaksOf 5 RX11 wsX11_breaksOf rmX11_breaksOf (some .int)) (hQ : axQ X 0 0 (fun r9 w9 => r9 = (some (.int res.1)) ∧ w9 = [oX11 ao atext atold aL aC alaw aotherLaw anow atrial ahistory aguess acrewPlan amoatPlan achance io_wind io_spadeLimit, oX6 ap1 ip1_length ip1_at ip1_sign ip1_bad, rI Y (ap1 1) 40 cp1_codes, rI Y (ap1 2) 40 res.2.1, oX5 aL iL_cells, rI Y (aL 1) 12 cL_base, rI Y (aL 2) 12 cL_dyke, oX9 anow aL aC inow_moats inow_spades inow_tides, rI Y (anow 1) 12 cnow_wall, rI Y (anow 2) 12 cnow_depth, rI Y (anow 3) 8 cnow_mood, rI Y (anow 4) 8 cnow_place, oX9 atrial aL aC res.2.2.1 res.2.2.2.1 res.2.2.2.2.1, rI Y (atrial 1) 12 res.2.2.2.2.2.1, rI Y (atrial 2) 12 res.2.2.2.2.2.2.1, rI Y (atrial 3) 8 res.2.2.2.2.2.2.2.1, rI Y (atrial 4) 8 res.2.2.2.2.2.2.2.2])) {k16 : (Nat → Int32) × Int32 × Int32 × (Nat → Int32) × (Nat → Int32) × Int32 × Int32 → Option (Int32 × (Nat → Int32) × Int32 × Int32 × Int32 × (Nat → Int32) × (Nat → Int32) × (Nat → Int32) × (Nat → Int32))} (hk16 : ∀ s : (Nat → Int32) × Int32 × Int32 × (Nat → Int32) × (Nat → Int32) × Int32 × Int32, k16 s = some res → ax X 0 0 16 [some (.ref (ao 0)), some (.ref (ap1 0)), some (.int x2), some (.int s.2.2.2.2.2.1), some (.int s.2.2.2.2.2.2)] [oX11 ao atext atold aL aC alaw aotherLaw anow atrial ahistory aguess acrewPlan amoatPlan achance io_wind io_spadeLimit, oX6 ap1 ip1_length ip1_at ip1_sign ip1_bad, rI Y (ap1 1) 40 cp1_codes, rI Y (ap1 2) 40 s.1, oX5 aL iL_cells, rI Y (aL 1) 12 cL_base, rI Y (aL 2) 12 cL_dyke, oX9 anow aL aC inow_moats inow_spades inow_tides, rI Y (anow 1) 12 cnow_wall, rI Y (anow 2) 12 cnow_depth, rI Y (anow 3) 8 cnow_mood, rI Y (anow 4) 8 cnow_place, oX9 atrial aL aC s.2.1 itrial_spades s.2.2.1, rI Y (atrial 1) 12 s.2.2.2.1, rI Y (atrial 2) 12 s.2.2.2.2.1, rI Y (atrial 3) 8 ctrial_mood, rI Y (atrial 4) 8 ctrial_place] []) (hf : fX11_breaksOf_l16 io_wind ip1_length cp1_codes iL_cells cL_base cL_dyke inow_moats inow_spades inow_tides cnow_wall cnow_depth cnow_mood cnow_place itrial_spades ctrial_mood ctrial_place x2 k16 cp1_stack itrial_moats itrial_tides ctrial_wall ctrial_depth x3 x4 = some res) : ax X 0 0 16 [some (.ref (ao 0)), some (.ref (ap1 0)), some (.int x2), some (.int x3), some (.int x4)] [oX11 ao atext atold aL aC alaw aotherLaw anow atrial ahistory aguess acrewPlan amoatPlan achance io_wind io_spadeLimit, oX6 ap1 ip1_length ip1_at ip1_sign ip1_bad, rI Y (ap1 1) 40 cp1_codes, rI Y (ap1 2) 40 cp1_stack, oX5 aL iL_cells, rI Y (aL 1) 12 cL_base, rI Y (aL 2) 12 cL_dyke, oX9 anow aL aC inow_moats inow_spades inow_tides, rI Y (anow 1) 12 cnow_wall, rI Y (anow 2) 12 cnow_depth, rI Y (anow 3) 8 cnow_mood, rI Y (anow 4) 8 cnow_place, oX9 atrial aL aC itrial_moats itrial_spades itrial_tides, rI Y (atrial 1) 12 ctrial_wall, rI Y (atrial 2) 12 ctrial_depth, rI Y (atrial 3) 8 ctrial_mood, rI Y (atrial 4) 8 ctrial_place] [] := by
  unfold fX11_breaksOf_l16 at hf
  refine a_iload C dX11_breaksOf_16 rfl ?_
  refine a_iload_n C dX11_breaksOf_18 rfl ?_
  refine a_icmp_ge C 51 dX11_breaksOf_19 (by decide) (fun h1 => ?_) (fun h1 => ?_)
  · have hf := fx_t h1 hf
    refine a_kill [0, 1, 2, 4] ?_
    exact kX11_breaksOf_b51 C hQ hf
  · have hf := fx_f h1 hf
    refine a_aload_n C dX11_breaksOf_22 rfl ?_
    refine a_get C eX11_breaksOf_60 dX11_breaksOf_23 0 rfl rfl ?_
    refine a_aload_n C dX11_breaksOf_26 rfl ?_
    refine a_aload_n C dX11_breaksOf_27 rfl ?_
    refine a_aload_n C dX11_breaksOf_28 rfl ?_
    refine a_get C eX11_breaksOf_60 dX11_breaksOf_29 0 rfl rfl ?_
    refine a_iconst C (0 : Int32) dX11_breaksOf_32 (by decide) ?_
    obtain ⟨r2, h2, hf⟩ := fx_bind hf
    refine a_fV C (kX11_heightOf l D Y ao atext atold aL aC alaw aotherLaw anow atrial ahistory aguess acrewPlan amoatPlan achance ap1 atrial io_wind io_spadeLimit ip1_length ip1_at ip1_sign ip1_bad cp1_codes cp1_stack itrial_moats itrial_spades itrial_tides iL_cells (0 : Int32) r2 h2) gX11_breaksOf_X11_heightOf rfl dvX11_heightOf ⟨⟨rfl, rfl⟩, ⟨Nat.le_of_ble_eq_true rfl, Nat.le_of_ble_eq_true rfl⟩, ⟨Nat.le_of_ble_eq_true rfl, Nat.le_of_ble_eq_true rfl⟩⟩ rfl (Nat.le_of_ble_eq_true rfl) dX11_breaksOf_33 rfl rfl [0, 1, 2, 3, 12, 4] [5, 6, 7, 8, 9, 10, 11, 13, 14, 15, 16] ⟨rfl, rfl, rfl, rfl, rfl, rfl, trivial⟩ rfl rfl [oX11 ao atext atold aL aC alaw aotherLaw anow atrial ahistory aguess acrewPlan amoatPlan achance io_wind io_spadeLimit, oX6 ap1 ip1_length ip1_at ip1_sign ip1_bad, rI Y (ap1 1) 40 cp1_codes, rI Y (ap1 2) 40 r2.2, oX5 aL iL_cells, rI Y (aL 1) 12 cL_base, rI Y (aL 2) 12 cL_dyke, oX9 anow aL aC inow_moats inow_spades inow_tides, rI Y (anow 1) 12 cnow_wall, rI Y (anow 2) 12 cnow_depth, rI Y (anow 3) 8 cnow_mood, rI Y (anow 4) 8 cnow_place, oX9 atrial aL aC itrial_moats itrial_spades itrial_tides, rI Y (atrial 1) 12 ctrial_wall, rI Y (atrial 2) 12 ctrial_depth, rI Y (atrial 3) 8 ctrial_mood, rI Y (atrial 4) 8 ctrial_place] ⟨rfl, rfl, rfl, rfl, rfl, rfl, trivial⟩ ⟨rfl, rfl, rfl, rfl, rfl, rfl, rfl, rfl, rfl, rfl, rfl, trivial⟩ rfl ?_
    obtain ⟨r3, h3, hf⟩ := fx_bind hf
    refine a_fV C (kX9_surge l D Y atrial aL aC itrial_moats itrial_spades itrial_tides ctrial_wall ctrial_depth iL_cells cL_base cL_dyke r2.1 r3 h3) gX11_breaksOf_X9_surge rfl dvX9_surge ⟨⟨rfl, rfl⟩, ⟨Nat.le_of_ble_eq_true rfl, Nat.le_of_ble_eq_true rfl⟩, ⟨Nat.le_of_ble_eq_true rfl, Nat.le_of_ble_eq_true rfl⟩⟩ rfl (Nat.le_of_ble_eq_true rfl) dX11_breaksOf_36 rfl rfl [12, 13, 14, 4, 5, 6] [0, 1, 2, 3, 7, 8, 9, 10, 11, 15, 16] ⟨rfl, rfl, rfl, rfl, rfl, rfl, trivial⟩ rfl rfl [oX11 ao atext atold aL aC alaw aotherLaw anow atrial ahistory aguess acrewPlan amoatPlan achance io_wind io_spadeLimit, oX6 ap1 ip1_length ip1_at ip1_sign ip1_bad, rI Y (ap1 1) 40 cp1_codes, rI Y (ap1 2) 40 r2.2, oX5 aL iL_cells, rI Y (aL 1) 12 cL_base, rI Y (aL 2) 12 cL_dyke, oX9 anow aL aC inow_moats inow_spades inow_tides, rI Y (anow 1) 12 cnow_wall, rI Y (anow 2) 12 cnow_depth, rI Y (anow 3) 8 cnow_mood, rI Y (anow 4) 8 cnow_place, oX9 atrial aL aC r3.2.1 itrial_spades r3.2.2.1, rI Y (atrial 1) 12 r3.2.2.2.1, rI Y (atrial 2) 12 r3.2.2.2.2, rI Y (atrial 3) 8 ctrial_mood, rI Y (atrial 4) 8 ctrial_place] ⟨rfl, rfl, rfl, rfl, rfl, rfl, trivial⟩ ⟨rfl, rfl, rfl, rfl, rfl, rfl, rfl, rfl, rfl, rfl, rfl, trivial⟩ rfl ?_
    refine a_if_eq C 45 dX11_breaksOf_39 (by decide) (fun h4 => ?_) (fun h4 => ?_)
    · have hf := fx_t h4 hf
      exact kX11_breaksOf_b45 C hQ hk16 hf
    · have hf := fx_f h4 hf
      refine a_iinc C (1 : Int32) dX11_breaksOf_42 (by decide) rfl (by decide) rfl ?_
      exact kX11_breaksOf_b45 C hQ hk16 hf
set_option maxHeartbeats 400000 in
set_option maxRecDepth 100000 in
theorem kX11_breaksOf_b16 {X : cxT} {l : Launch} {D : va_G} {Y : Nat → ClassId} {ao atext atold aL aC alaw aotherLaw anow atrial ahistory aguess acrewPlan amoatPlan achance ap1 : Nat → Nat} {io_wind : Int32} {io_spadeLimit : Int32} {ip1_length : Int32} {ip1_at : Int32} {ip1_sign : Int32} {ip1_bad : Int32} {cp1_codes : Nat → Int32} {cp1_stack : Nat → Int32} {iL_cells : Int32} {cL_base : Nat → Int32} {cL_dyke : Nat → Int32} {inow_moats : Int32} {inow_spades : Int32} {inow_tides : Int32} {cnow_wall : Nat → Int32} {cnow_depth : Nat → Int32} {cnow_mood : Nat → Int32} {cnow_place : Nat → Int32} {itrial_moats : Int32} {itrial_spades : Int32} {itrial_tides : Int32} {ctrial_wall : Nat → Int32} {ctrial_depth : Nat → Int32} {ctrial_mood : Nat → Int32} {ctrial_place : Nat → Int32} {x2 : Int32} {x3 : Int32} {x4 : Int32} {res : Int32 × (Nat → Int32) × Int32 × Int32 × Int32 × (Nat → Int32) × (Nat → Int32) × (Nat → Int32) × (Nat → Int32)} (C : axC X l D Y cX11_breaksOf 5 RX11 wsX11_breaksOf rmX11_breaksOf (some .int)) (hQ : axQ X 0 0 (fun r9 w9 => r9 = (some (.int res.1)) ∧ w9 = [oX11 ao atext atold aL aC alaw aotherLaw anow atrial ahistory aguess acrewPlan amoatPlan achance io_wind io_spadeLimit, oX6 ap1 ip1_length ip1_at ip1_sign ip1_bad, rI Y (ap1 1) 40 cp1_codes, rI Y (ap1 2) 40 res.2.1, oX5 aL iL_cells, rI Y (aL 1) 12 cL_base, rI Y (aL 2) 12 cL_dyke, oX9 anow aL aC inow_moats inow_spades inow_tides, rI Y (anow 1) 12 cnow_wall, rI Y (anow 2) 12 cnow_depth, rI Y (anow 3) 8 cnow_mood, rI Y (anow 4) 8 cnow_place, oX9 atrial aL aC res.2.2.1 res.2.2.2.1 res.2.2.2.2.1, rI Y (atrial 1) 12 res.2.2.2.2.2.1, rI Y (atrial 2) 12 res.2.2.2.2.2.2.1, rI Y (atrial 3) 8 res.2.2.2.2.2.2.2.1, rI Y (atrial 4) 8 res.2.2.2.2.2.2.2.2])) (hf : fX11_breaksOf_b16 io_wind ip1_length cp1_codes cp1_stack iL_cells cL_base cL_dyke inow_moats inow_spades inow_tides cnow_wall cnow_depth cnow_mood cnow_place itrial_moats itrial_spades itrial_tides ctrial_wall ctrial_depth ctrial_mood ctrial_place x2 x3 x4 = some res) : ax X 0 0 16 [some (.ref (ao 0)), some (.ref (ap1 0)), some (.int x2), some (.int x3), some (.int x4)] [oX11 ao atext atold aL aC alaw aotherLaw anow atrial ahistory aguess acrewPlan amoatPlan achance io_wind io_spadeLimit, oX6 ap1 ip1_length ip1_at ip1_sign ip1_bad, rI Y (ap1 1) 40 cp1_codes, rI Y (ap1 2) 40 cp1_stack, oX5 aL iL_cells, rI Y (aL 1) 12 cL_base, rI Y (aL 2) 12 cL_dyke, oX9 anow aL aC inow_moats inow_spades inow_tides, rI Y (anow 1) 12 cnow_wall, rI Y (anow 2) 12 cnow_depth, rI Y (anow 3) 8 cnow_mood, rI Y (anow 4) 8 cnow_place, oX9 atrial aL aC itrial_moats itrial_spades itrial_tides, rI Y (atrial 1) 12 ctrial_wall, rI Y (atrial 2) 12 ctrial_depth, rI Y (atrial 3) 8 ctrial_mood, rI Y (atrial 4) 8 ctrial_place] [] := by
  unfold fX11_breaksOf_b16 at hf
  exact fx_loop (P := fun s : (Nat → Int32) × Int32 × Int32 × (Nat → Int32) × (Nat → Int32) × Int32 × Int32 => ax X 0 0 16 [some (.ref (ao 0)), some (.ref (ap1 0)), some (.int x2), some (.int s.2.2.2.2.2.1), some (.int s.2.2.2.2.2.2)] [oX11 ao atext atold aL aC alaw aotherLaw anow atrial ahistory aguess acrewPlan amoatPlan achance io_wind io_spadeLimit, oX6 ap1 ip1_length ip1_at ip1_sign ip1_bad, rI Y (ap1 1) 40 cp1_codes, rI Y (ap1 2) 40 s.1, oX5 aL iL_cells, rI Y (aL 1) 12 cL_base, rI Y (aL 2) 12 cL_dyke, oX9 anow aL aC inow_moats inow_spades inow_tides, rI Y (anow 1) 12 cnow_wall, rI Y (anow 2) 12 cnow_depth, rI Y (anow 3) 8 cnow_mood, rI Y (anow 4) 8 cnow_place, oX9 atrial aL aC s.2.1 itrial_spades s.2.2.1, rI Y (atrial 1) 12 s.2.2.2.1, rI Y (atrial 2) 12 s.2.2.2.2.1, rI Y (atrial 3) 8 ctrial_mood, rI Y (atrial 4) 8 ctrial_place] []) (fun s k16 hk16 h => kX11_breaksOf_l16 C hQ hk16 h) FUEL (cp1_stack, itrial_moats, itrial_tides, ctrial_wall, ctrial_depth, x3, x4) hf
def fX11_breaksOf (io_wind : Int32) (ip1_length : Int32) (cp1_codes : Nat → Int32) (cp1_stack : Nat → Int32) (iL_cells : Int32) (cL_base : Nat → Int32) (cL_dyke : Nat → Int32) (inow_moats : Int32) (inow_spades : Int32) (inow_tides : Int32) (cnow_wall : Nat → Int32) (cnow_depth : Nat → Int32) (cnow_mood : Nat → Int32) (cnow_place : Nat → Int32) (itrial_moats : Int32) (itrial_spades : Int32) (itrial_tides : Int32) (ctrial_wall : Nat → Int32) (ctrial_depth : Nat → Int32) (ctrial_mood : Nat → Int32) (ctrial_place : Nat → Int32) (x2 : Int32) : Option (Int32 × (Nat → Int32) × Int32 × Int32 × Int32 × (Nat → Int32) × (Nat → Int32) × (Nat → Int32) × (Nat → Int32)) :=
  (fX9_copy itrial_moats itrial_spades itrial_tides ctrial_wall ctrial_depth ctrial_mood ctrial_place inow_moats inow_spades inow_tides cnow_wall cnow_depth cnow_mood cnow_place).bind (fun r5 => fX11_breaksOf_b16 io_wind ip1_length cp1_codes cp1_stack iL_cells cL_base cL_dyke inow_moats inow_spades inow_tides cnow_wall cnow_depth cnow_mood cnow_place r5.1 r5.2.1 r5.2.2.1 r5.2.2.2.1 r5.2.2.2.2.1 r5.2.2.2.2.2.1 r5.2.2.2.2.2.2 x2 (0 : Int32) (0 : Int32))
set_option maxHeartbeats 400000 in
set_option maxRecDepth 100000 in
theorem kX11_breaksOf (l : Launch) (D : va_G) (Y : Nat → ClassId) (ao atext atold aL aC alaw aotherLaw anow atrial ahistory aguess acrewPlan amoatPlan achance ap1 : Nat → Nat) (io_wind : Int32) (io_spadeLimit : Int32) (ip1_length : Int32) (ip1_at : Int32) (ip1_sign : Int32) (ip1_bad : Int32) (cp1_codes : Nat → Int32) (cp1_stack : Nat → Int32) (iL_cells : Int32) (cL_base : Nat → Int32) (cL_dyke : Nat → Int32) (inow_moats : Int32) (inow_spades : Int32) (inow_tides : Int32) (cnow_wall : Nat → Int32) (cnow_depth : Nat → Int32) (cnow_mood : Nat → Int32) (cnow_place : Nat → Int32) (itrial_moats : Int32) (itrial_spades : Int32) (itrial_tides : Int32) (ctrial_wall : Nat → Int32) (ctrial_depth : Nat → Int32) (ctrial_mood : Nat → Int32) (ctrial_place : Nat → Int32) (x2 : Int32) (res : Int32 × (Nat → Int32) × Int32 × Int32 × Int32 × (Nat → Int32) × (Nat → Int32) × (Nat → Int32) × (Nat → Int32)) (hf : fX11_breaksOf io_wind ip1_length cp1_codes cp1_stack iL_cells cL_base cL_dyke inow_moats inow_spades inow_tides cnow_wall cnow_depth cnow_mood cnow_place itrial_moats itrial_spades itrial_tides ctrial_wall ctrial_depth ctrial_mood ctrial_place x2 = some res) : amf l D Y yX11_breaksOf wsX11_breaksOf rmX11_breaksOf [.ref (ao 0), .ref (ap1 0), .int x2] [oX11 ao atext atold aL aC alaw aotherLaw anow atrial ahistory aguess acrewPlan amoatPlan achance io_wind io_spadeLimit, oX6 ap1 ip1_length ip1_at ip1_sign ip1_bad, rI Y (ap1 1) 40 cp1_codes, rI Y (ap1 2) 40 cp1_stack, oX5 aL iL_cells, rI Y (aL 1) 12 cL_base, rI Y (aL 2) 12 cL_dyke, oX9 anow aL aC inow_moats inow_spades inow_tides, rI Y (anow 1) 12 cnow_wall, rI Y (anow 2) 12 cnow_depth, rI Y (anow 3) 8 cnow_mood, rI Y (anow 4) 8 cnow_place, oX9 atrial aL aC itrial_moats itrial_spades itrial_tides, rI Y (atrial 1) 12 ctrial_wall, rI Y (atrial 2) 12 ctrial_depth, rI Y (atrial 3) 8 ctrial_mood, rI Y (atrial 4) 8 ctrial_place] (some (.int res.1)) [oX11 ao atext atold aL aC alaw aotherLaw anow atrial ahistory aguess acrewPlan amoatPlan achance io_wind io_spadeLimit, oX6 ap1 ip1_length ip1_at ip1_sign ip1_bad, rI Y (ap1 1) 40 cp1_codes, rI Y (ap1 2) 40 res.2.1, oX5 aL iL_cells, rI Y (aL 1) 12 cL_base, rI Y (aL 2) 12 cL_dyke, oX9 anow aL aC inow_moats inow_spades inow_tides, rI Y (anow 1) 12 cnow_wall, rI Y (anow 2) 12 cnow_depth, rI Y (anow 3) 8 cnow_mood, rI Y (anow 4) 8 cnow_place, oX9 atrial aL aC res.2.2.1 res.2.2.2.1 res.2.2.2.2.1, rI Y (atrial 1) 12 res.2.2.2.2.2.1, rI Y (atrial 2) 12 res.2.2.2.2.2.2.1, rI Y (atrial 3) 8 res.2.2.2.2.2.2.2.1, rI Y (atrial 4) 8 res.2.2.2.2.2.2.2.2] := by
  refine amf.of (cc := cX11_breaksOf) (maxL := 5) (rt := (some .int)) (by decide) rfl RX11 rfl (Nat.le_of_ble_eq_true rfl) [some (.ref (ao 0)), some (.ref (ap1 0)), some (.int x2), none, none] rfl ?_
  intro X C hQ
  unfold fX11_breaksOf at hf
  refine a_aload_n C dX11_breaksOf_0 rfl ?_
  refine a_get C eX11_breaksOf_60 dX11_breaksOf_1 0 rfl rfl ?_
  refine a_aload_n C dX11_breaksOf_4 rfl ?_
  refine a_get C eX11_breaksOf_56 dX11_breaksOf_5 0 rfl rfl ?_
  obtain ⟨r5, h5, hf⟩ := fx_bind hf
  refine a_fV C (kX9_copy l D Y atrial aL aC anow itrial_moats itrial_spades itrial_tides ctrial_wall ctrial_depth ctrial_mood ctrial_place inow_moats inow_spades inow_tides cnow_wall cnow_depth cnow_mood cnow_place r5 h5) gX11_breaksOf_X9_copy rfl dvX9_copy ⟨⟨rfl, rfl⟩, ⟨Nat.le_of_ble_eq_true rfl, Nat.le_of_ble_eq_true rfl⟩, ⟨Nat.le_of_ble_eq_true rfl, Nat.le_of_ble_eq_true rfl⟩⟩ rfl (Nat.le_of_ble_eq_true rfl) dX11_breaksOf_8 rfl rfl [12, 13, 14, 15, 16, 7, 8, 9, 10, 11] [0, 1, 2, 3, 4, 5, 6] ⟨rfl, rfl, rfl, rfl, rfl, rfl, rfl, rfl, rfl, rfl, trivial⟩ rfl rfl [oX11 ao atext atold aL aC alaw aotherLaw anow atrial ahistory aguess acrewPlan amoatPlan achance io_wind io_spadeLimit, oX6 ap1 ip1_length ip1_at ip1_sign ip1_bad, rI Y (ap1 1) 40 cp1_codes, rI Y (ap1 2) 40 cp1_stack, oX5 aL iL_cells, rI Y (aL 1) 12 cL_base, rI Y (aL 2) 12 cL_dyke, oX9 anow aL aC inow_moats inow_spades inow_tides, rI Y (anow 1) 12 cnow_wall, rI Y (anow 2) 12 cnow_depth, rI Y (anow 3) 8 cnow_mood, rI Y (anow 4) 8 cnow_place, oX9 atrial aL aC r5.1 r5.2.1 r5.2.2.1, rI Y (atrial 1) 12 r5.2.2.2.1, rI Y (atrial 2) 12 r5.2.2.2.2.1, rI Y (atrial 3) 8 r5.2.2.2.2.2.1, rI Y (atrial 4) 8 r5.2.2.2.2.2.2] ⟨rfl, rfl, rfl, rfl, rfl, rfl, rfl, rfl, rfl, rfl, trivial⟩ ⟨rfl, rfl, rfl, rfl, rfl, rfl, rfl, trivial⟩ rfl ?_
  refine a_iconst C (0 : Int32) dX11_breaksOf_11 (by decide) ?_
  refine a_istore_n C dX11_breaksOf_12 (by decide) rfl ?_
  refine a_iconst C (0 : Int32) dX11_breaksOf_13 (by decide) ?_
  refine a_istore C dX11_breaksOf_14 (by decide) rfl ?_
  exact kX11_breaksOf_b16 C hQ hf
-- X11_bestForSpade
abbrev rmX11_bestForSpade : Room := { frames := 3, cells := 0, slots := 0, locals := 66 }
theorem dvX11_bestForSpade : yX11_bestForSpade.cls = RX11 ∧ yX11_bestForSpade.cls ≠ "java/lang/invoke/MethodHandle" ∧ yX11_bestForSpade.cls ≠ "java/lang/invoke/VarHandle" ∧ (parseMethodDescriptor yX11_bestForSpade.desc).map (fun d => d.parameters.length) = some 0 := by decide +kernel
theorem eX11_bestForSpade_inX11 : ∀ w ∈ wsX110, w ∈ wsX11_bestForSpade := by decide +kernel
theorem eX11_bestForSpade_33 : aF wsX11_bestForSpade RX11 33 11 3 := ⟨RX11, TX11, 17, rfl, eX11_bestForSpade_inX11, by decide, by decide +kernel⟩
theorem eX11_bestForSpade_inX2 : ∀ w ∈ wsX20, w ∈ wsX11_bestForSpade := by decide +kernel
theorem eX11_bestForSpade_134 : aF wsX11_bestForSpade RX11 134 2 0 := ⟨RX2, TX2, 5, rfl, eX11_bestForSpade_inX2, by decide, by decide +kernel⟩
theorem eX11_bestForSpade_60 : aF wsX11_bestForSpade RX11 60 11 9 := ⟨RX11, TX11, 17, rfl, eX11_bestForSpade_inX11, by decide, by decide +kernel⟩
theorem eX11_bestForSpade_inX9 : ∀ w ∈ wsX90, w ∈ wsX11_bestForSpade := by decide +kernel
theorem eX11_bestForSpade_192 : aF wsX11_bestForSpade RX11 192 9 7 := ⟨RX9, TX9, 9, rfl, eX11_bestForSpade_inX9, by decide, by decide +kernel⟩
def fX11_bestForSpade_b93 (iC_size : Int32) (cC_age : Nat → Int32) (cC_skill : Nat → Int32) (cC_pals : Nat → Int32) (itrial_spades : Int32) (ctrial_mood : Nat → Int32) (ctrial_place : Nat → Int32) (x2 : Int32) : Option (Int32 × Int32) :=
  some (x2, itrial_spades)
set_option maxHeartbeats 400000 in
set_option maxRecDepth 100000 in
theorem kX11_bestForSpade_b93 {X : cxT} {l : Launch} {D : va_G} {Y : Nat → ClassId} {ao atext atold aL aC alaw aotherLaw anow atrial ahistory aguess acrewPlan amoatPlan achance : Nat → Nat} {io_wind : Int32} {io_spadeLimit : Int32} {iC_size : Int32} {cC_age : Nat → Int32} {cC_skill : Nat → Int32} {cC_pals : Nat → Int32} {itrial_moats : Int32} {itrial_spades : Int32} {itrial_tides : Int32} {ctrial_mood : Nat → Int32} {ctrial_place : Nat → Int32} {x2 : Int32} {res : Int32 × Int32} (C : axC X l D Y cX11_bestForSpade 7 RX11 wsX11_bestForSpade rmX11_bestForSpade (some .int)) (hQ : axQ X 0 0 (fun r9 w9 => r9 = (some (.int res.1)) ∧ w9 = [oX11 ao atext atold aL aC alaw aotherLaw anow atrial ahistory aguess acrewPlan amoatPlan achance io_wind io_spadeLimit, oX2 aC iC_size, rI Y (aC 1) 8 cC_age, rI Y (aC 2) 8 cC_skill, rI Y (aC 4) 8 cC_pals, oX9 atrial aL aC itrial_moats res.2 itrial_tides, rI Y (atrial 3) 8 ctrial_mood, rI Y (atrial 4) 8 ctrial_place])) (hf : fX11_bestForSpade_b93 iC_size cC_age cC_skill cC_pals itrial_spades ctrial_mood ctrial_place x2 = some res) : ax X 0 0 93 [none, none, some (.int x2), none, none, none, none] [oX11 ao atext atold aL aC alaw aotherLaw anow atrial ahistory aguess acrewPlan amoatPlan achance io_wind io_spadeLimit, oX2 aC iC_size, rI Y (aC 1) 8 cC_age, rI Y (aC 2) 8 cC_skill, rI Y (aC 4) 8 cC_pals, oX9 atrial aL aC itrial_moats itrial_spades itrial_tides, rI Y (atrial 3) 8 ctrial_mood, rI Y (atrial 4) 8 ctrial_place] [] := by
  unfold fX11_bestForSpade_b93 at hf
  refine a_iload_n C dX11_bestForSpade_93 rfl ?_
  obtain rfl := fx_some hf
  exact a_iret C hQ dX11_bestForSpade_94 ⟨rfl, rfl⟩
def fX11_bestForSpade_b87 (iC_size : Int32) (cC_age : Nat → Int32) (cC_skill : Nat → Int32) (cC_pals : Nat → Int32) (itrial_spades : Int32) (ctrial_mood : Nat → Int32) (ctrial_place : Nat → Int32) (x1 : Int32) (x2 : Int32) (x3 : Int32) (x4 : Int32) (k15 : Int32 × Int32 × Int32 × Int32 → Option (Int32 × Int32)) : Option (Int32 × Int32) :=
  k15 (itrial_spades, x2, x3, (x4 + (1 : Int32)))
set_option maxHeartbeats 400000 in
set_option maxRecDepth 100000 in
theorem kX11_bestForSpade_b87 {X : cxT} {l : Launch} {D : va_G} {Y : Nat → ClassId} {ao atext atold aL aC alaw aotherLaw anow atrial ahistory aguess acrewPlan amoatPlan achance : Nat → Nat} {io_wind : Int32} {io_spadeLimit : Int32} {iC_size : Int32} {cC_age : Nat → Int32} {cC_skill : Nat → Int32} {cC_pals : Nat → Int32} {itrial_moats : Int32} {itrial_spades : Int32} {itrial_tides : Int32} {ctrial_mood : Nat → Int32} {ctrial_place : Nat → Int32} {x1 : Int32} {x2 : Int32} {x3 : Int32} {x4 : Int32} {res : Int32 × Int32} (C : axC X l D Y cX11_bestForSpade 7 RX11 wsX11_bestForSpade rmX11_bestForSpade (some .int)) (hQ : axQ X 0 0 (fun r9 w9 => r9 = (some (.int res.1)) ∧ w9 = [oX11 ao atext atold aL aC alaw aotherLaw anow atrial ahistory aguess acrewPlan amoatPlan achance io_wind io_spadeLimit, oX2 aC iC_size, rI Y (aC 1) 8 cC_age, rI Y (aC 2) 8 cC_skill, rI Y (aC 4) 8 cC_pals, oX9 atrial aL aC itrial_moats res.2 itrial_tides, rI Y (atrial 3) 8 ctrial_mood, rI Y (atrial 4) 8 ctrial_place])) {k15 : Int32 × Int32 × Int32 × Int32 → Option (Int32 × Int32)} (hk15 : ∀ s : Int32 × Int32 × Int32 × Int32, k15 s = some res → ax X 0 0 15 [some (.ref (ao 0)), some (.int x1), some (.int s.2.1), some (.int s.2.2.1), some (.int s.2.2.2), none, none] [oX11 ao atext atold aL aC alaw aotherLaw anow atrial ahistory aguess acrewPlan amoatPlan achance io_wind io_spadeLimit, oX2 aC iC_size, rI Y (aC 1) 8 cC_age, rI Y (aC 2) 8 cC_skill, rI Y (aC 4) 8 cC_pals, oX9 atrial aL aC itrial_moats s.1 itrial_tides, rI Y (atrial 3) 8 ctrial_mood, rI Y (atrial 4) 8 ctrial_place] []) (hf : fX11_bestForSpade_b87 iC_size cC_age cC_skill cC_pals itrial_spades ctrial_mood ctrial_place x1 x2 x3 x4 k15 = some res) : ax X 0 0 87 [some (.ref (ao 0)), some (.int x1), some (.int x2), some (.int x3), some (.int x4), none, none] [oX11 ao atext atold aL aC alaw aotherLaw anow atrial ahistory aguess acrewPlan amoatPlan achance io_wind io_spadeLimit, oX2 aC iC_size, rI Y (aC 1) 8 cC_age, rI Y (aC 2) 8 cC_skill, rI Y (aC 4) 8 cC_pals, oX9 atrial aL aC itrial_moats itrial_spades itrial_tides, rI Y (atrial 3) 8 ctrial_mood, rI Y (atrial 4) 8 ctrial_place] [] := by
  unfold fX11_bestForSpade_b87 at hf
  refine a_iinc C (1 : Int32) dX11_bestForSpade_87 (by decide) rfl (by decide) rfl ?_
  refine a_goto C 15 dX11_bestForSpade_90 (by decide) ?_
  exact hk15 (itrial_spades, x2, x3, (x4 + (1 : Int32))) hf
def fX11_bestForSpade_l15 (iC_size : Int32) (cC_age : Nat → Int32) (cC_skill : Nat → Int32) (cC_pals : Nat → Int32) (ctrial_mood : Nat → Int32) (ctrial_place : Nat → Int32) (x1 : Int32) (k15 : Int32 × Int32 × Int32 × Int32 → Option (Int32 × Int32)) (itrial_spades : Int32) (x2 : Int32) (x3 : Int32) (x4 : Int32) : Option (Int32 × Int32) :=
  if iC_size ≤ x4 then (fX11_bestForSpade_b93 iC_size cC_age cC_skill cC_pals itrial_spades ctrial_mood ctrial_place x2) else ((fX9_buckets itrial_spades ctrial_mood ctrial_place iC_size cC_age cC_skill cC_pals x4).bind (fun r2 => (fX9_buckets (x1 ||| (jshl (1 : Int32) x4)) ctrial_mood ctrial_place iC_size cC_age cC_skill cC_pals x4).bind (fun r3 => if (r3 - r2) ≤ x3 then (fX11_bestForSpade_b87 iC_size cC_age cC_skill cC_pals x1 ctrial_mood ctrial_place x1 x2 x3 x4 k15) else (fX11_bestForSpade_b87 iC_size cC_age cC_skill cC_pals x1 ctrial_mood ctrial_place x1 (jshl (1 : Int32) x4) (r3 - r2) x4 k15))))
def fX11_bestForSpade_b15 (iC_size : Int32) (cC_age : Nat → Int32) (cC_skill : Nat → Int32) (cC_pals : Nat → Int32) (itrial_spades : Int32) (ctrial_mood : Nat → Int32) (ctrial_place : Nat → Int32) (x1 : Int32) (x2 : Int32) (x3 : Int32) (x4 : Int32) : Option (Int32 × Int32) :=
  loopN (fun (s : Int32 × Int32 × Int32 × Int32) k15 => fX11_bestForSpade_l15 iC_size cC_age cC_skill cC_pals ctrial_mood ctrial_place x1 k15 s.1 s.2.1 s.2.2.1 s.2.2.2) FUEL (itrial_spades, x2, x3, x4)
set_option maxHeartbeats 400000 in
set_option maxRecDepth 100000 in
theorem kX11_bestForSpade_l15 {X : cxT} {l : Launch} {D : va_G} {Y : Nat → ClassId} {ao atext atold aL aC alaw aotherLaw anow atrial ahistory aguess acrewPlan amoatPlan achance : Nat → Nat} {io_wind : Int32} {io_spadeLimit : Int32} {iC_size : Int32} {cC_age : Nat → Int32} {cC_skill : Nat → Int32} {cC_pals : Nat → Int32} {itrial_moats : Int32} {itrial_spades : Int32} {itrial_tides : Int32} {ctrial_mood : Nat → Int32} {ctrial_place : Nat → Int32} {x1 : Int32} {x2 : Int32} {x3 : Int32} {x4 : Int32} {res : Int32 × Int32} (C : axC X l D Y cX11_bestForSpade 7 RX11 wsX11_bestForSpade rmX11_bestForSpade (some .int)) (hQ : axQ X 0 0 (fun r9 w9 => r9 = (some (.int res.1)) ∧ w9 = [oX11 ao atext atold aL aC alaw aotherLaw anow atrial ahistory aguess acrewPlan amoatPlan achance io_wind io_spadeLimit, oX2 aC iC_size, rI Y (aC 1) 8 cC_age, rI Y (aC 2) 8 cC_skill, rI Y (aC 4) 8 cC_pals, oX9 atrial aL aC itrial_moats res.2 itrial_tides, rI Y (atrial 3) 8 ctrial_mood, rI Y (atrial 4) 8 ctrial_place])) {k15 : Int32 × Int32 × Int32 × Int32 → Option (Int32 × Int32)} (hk15 : ∀ s : Int32 × Int32 × Int32 × Int32, k15 s = some res → ax X 0 0 15 [some (.ref (ao 0)), some (.int x1), some (.int s.2.1), some (.int s.2.2.1), some (.int s.2.2.2), none, none] [oX11 ao atext atold aL aC alaw aotherLaw anow atrial ahistory aguess acrewPlan amoatPlan achance io_wind io_spadeLimit, oX2 aC iC_size, rI Y (aC 1) 8 cC_age, rI Y (aC 2) 8 cC_skill, rI Y (aC 4) 8 cC_pals, oX9 atrial aL aC itrial_moats s.1 itrial_tides, rI Y (atrial 3) 8 ctrial_mood, rI Y (atrial 4) 8 ctrial_place] []) (hf : fX11_bestForSpade_l15 iC_size cC_age cC_skill cC_pals ctrial_mood ctrial_place x1 k15 itrial_spades x2 x3 x4 = some res) : ax X 0 0 15 [some (.ref (ao 0)), some (.int x1), some (.int x2), some (.int x3), some (.int x4), none, none] [oX11 ao atext atold aL aC alaw aotherLaw anow atrial ahistory aguess acrewPlan amoatPlan achance io_wind io_spadeLimit, oX2 aC iC_size, rI Y (aC 1) 8 cC_age, rI Y (aC 2) 8 cC_skill, rI Y (aC 4) 8 cC_pals, oX9 atrial aL aC itrial_moats itrial_spades itrial_tides, rI Y (atrial 3) 8 ctrial_mood, rI Y (atrial 4) 8 ctrial_place] [] := by
  unfold fX11_bestForSpade_l15 at hf
  refine a_iload C dX11_bestForSpade_15 rfl ?_
  refine a_aload_n C dX11_bestForSpade_17 rfl ?_
  refine a_get C eX11_bestForSpade_33 dX11_bestForSpade_18 0 rfl rfl ?_
  refine a_get C eX11_bestForSpade_134 dX11_bestForSpade_21 1 rfl rfl ?_
  refine a_icmp_ge C 93 dX11_bestForSpade_24 (by decide) (fun h1 => ?_) (fun h1 => ?_)
  · have hf := fx_t h1 hf
    refine a_kill [0, 1, 3, 4] ?_
    exact kX11_bestForSpade_b93 C hQ hf
  · have hf := fx_f h1 hf
    refine a_aload_n C dX11_bestForSpade_27 rfl ?_
    refine a_get C eX11_bestForSpade_60 dX11_bestForSpade_28 0 rfl rfl ?_
    refine a_iload C dX11_bestForSpade_31 rfl ?_
    obtain ⟨r2, h2, hf⟩ := fx_bind hf
    refine a_fV C (kX9_buckets l D Y atrial aL aC itrial_moats itrial_spades itrial_tides ctrial_mood ctrial_place iC_size cC_age cC_skill cC_pals x4 r2 h2) gX11_bestForSpade_X9_buckets rfl dvX9_buckets ⟨⟨rfl, rfl⟩, ⟨Nat.le_of_ble_eq_true rfl, Nat.le_of_ble_eq_true rfl⟩, ⟨Nat.le_of_ble_eq_true rfl, Nat.le_of_ble_eq_true rfl⟩⟩ rfl (Nat.le_of_ble_eq_true rfl) dX11_bestForSpade_33 rfl rfl [5, 6, 7, 1, 2, 3, 4] [0] ⟨rfl, rfl, rfl, rfl, rfl, rfl, rfl, trivial⟩ rfl rfl [oX11 ao atext atold aL aC alaw aotherLaw anow atrial ahistory aguess acrewPlan amoatPlan achance io_wind io_spadeLimit, oX2 aC iC_size, rI Y (aC 1) 8 cC_age, rI Y (aC 2) 8 cC_skill, rI Y (aC 4) 8 cC_pals, oX9 atrial aL aC itrial_moats itrial_spades itrial_tides, rI Y (atrial 3) 8 ctrial_mood, rI Y (atrial 4) 8 ctrial_place] ⟨rfl, rfl, rfl, rfl, rfl, rfl, rfl, trivial⟩ ⟨rfl, trivial⟩ rfl ?_
    refine a_istore C dX11_bestForSpade_36 (by decide) rfl ?_
    refine a_aload_n C dX11_bestForSpade_38 rfl ?_
    refine a_get C eX11_bestForSpade_60 dX11_bestForSpade_39 0 rfl rfl ?_
    refine a_iload_n C dX11_bestForSpade_42 rfl ?_
    refine a_iconst C (1 : Int32) dX11_bestForSpade_43 (by decide) ?_
    refine a_iload C dX11_bestForSpade_44 rfl ?_
    refine a_ishl C dX11_bestForSpade_46 ?_
    refine a_ior C dX11_bestForSpade_47 ?_
    refine a_put C eX11_bestForSpade_192 tfX9_7 dX11_bestForSpade_48 5 rfl rfl rfl (Nat.le_of_ble_eq_true rfl) ?_
    refine a_aload_n C dX11_bestForSpade_51 rfl ?_
    refine a_get C eX11_bestForSpade_60 dX11_bestForSpade_52 0 rfl rfl ?_
    refine a_iload C dX11_bestForSpade_55 rfl ?_
    obtain ⟨r3, h3, hf⟩ := fx_bind hf
    refine a_fV C (kX9_buckets l D Y atrial aL aC itrial_moats (x1 ||| (jshl (1 : Int32) x4)) itrial_tides ctrial_mood ctrial_place iC_size cC_age cC_skill cC_pals x4 r3 h3) gX11_bestForSpade_X9_buckets rfl dvX9_buckets ⟨⟨rfl, rfl⟩, ⟨Nat.le_of_ble_eq_true rfl, Nat.le_of_ble_eq_true rfl⟩, ⟨Nat.le_of_ble_eq_true rfl, Nat.le_of_ble_eq_true rfl⟩⟩ rfl (Nat.le_of_ble_eq_true rfl) dX11_bestForSpade_57 rfl rfl [5, 6, 7, 1, 2, 3, 4] [0] ⟨rfl, rfl, rfl, rfl, rfl, rfl, rfl, trivial⟩ rfl rfl [oX11 ao atext atold aL aC alaw aotherLaw anow atrial ahistory aguess acrewPlan amoatPlan achance io_wind io_spadeLimit, oX2 aC iC_size, rI Y (aC 1) 8 cC_age, rI Y (aC 2) 8 cC_skill, rI Y (aC 4) 8 cC_pals, oX9 atrial aL aC itrial_moats (x1 ||| (jshl (1 : Int32) x4)) itrial_tides, rI Y (atrial 3) 8 ctrial_mood, rI Y (atrial 4) 8 ctrial_place] ⟨rfl, rfl, rfl, rfl, rfl, rfl, rfl, trivial⟩ ⟨rfl, trivial⟩ rfl ?_
    refine a_iload C dX11_bestForSpade_60 rfl ?_
    refine a_isub C dX11_bestForSpade_62 ?_
    refine a_istore C dX11_bestForSpade_63 (by decide) rfl ?_
    refine a_aload_n C dX11_bestForSpade_65 rfl ?_
    refine a_get C eX11_bestForSpade_60 dX11_bestForSpade_66 0 rfl rfl ?_
    refine a_iload_n C dX11_bestForSpade_69 rfl ?_
    refine a_put C eX11_bestForSpade_192 tfX9_7 dX11_bestForSpade_70 5 rfl rfl rfl (Nat.le_of_ble_eq_true rfl) ?_
    refine a_iload C dX11_bestForSpade_73 rfl ?_
    refine a_iload_n C dX11_bestForSpade_75 rfl ?_
    refine a_icmp_le C 87 dX11_bestForSpade_76 (by decide) (fun h4 => ?_) (fun h4 => ?_)
    · have hf := fx_t h4 hf
      refine a_kill [5, 6] ?_
      exact kX11_bestForSpade_b87 C hQ hk15 hf
    · have hf := fx_f h4 hf
      refine a_iload C dX11_bestForSpade_79 rfl ?_
      refine a_istore_n C dX11_bestForSpade_81 (by decide) rfl ?_
      refine a_iconst C (1 : Int32) dX11_bestForSpade_82 (by decide) ?_
      refine a_iload C dX11_bestForSpade_83 rfl ?_
      refine a_ishl C dX11_bestForSpade_85 ?_
      refine a_istore_n C dX11_bestForSpade_86 (by decide) rfl ?_
      refine a_kill [5, 6] ?_
      exact kX11_bestForSpade_b87 C hQ hk15 hf
set_option maxHeartbeats 400000 in
set_option maxRecDepth 100000 in
theorem kX11_bestForSpade_b15 {X : cxT} {l : Launch} {D : va_G} {Y : Nat → ClassId} {ao atext atold aL aC alaw aotherLaw anow atrial ahistory aguess acrewPlan amoatPlan achance : Nat → Nat} {io_wind : Int32} {io_spadeLimit : Int32} {iC_size : Int32} {cC_age : Nat → Int32} {cC_skill : Nat → Int32} {cC_pals : Nat → Int32} {itrial_moats : Int32} {itrial_spades : Int32} {itrial_tides : Int32} {ctrial_mood : Nat → Int32} {ctrial_place : Nat → Int32} {x1 : Int32} {x2 : Int32} {x3 : Int32} {x4 : Int32} {res : Int32 × Int32} (C : axC X l D Y cX11_bestForSpade 7 RX11 wsX11_bestForSpade rmX11_bestForSpade (some .int)) (hQ : axQ X 0 0 (fun r9 w9 => r9 = (some (.int res.1)) ∧ w9 = [oX11 ao atext atold aL aC alaw aotherLaw anow atrial ahistory aguess acrewPlan amoatPlan achance io_wind io_spadeLimit, oX2 aC iC_size, rI Y (aC 1) 8 cC_age, rI Y (aC 2) 8 cC_skill, rI Y (aC 4) 8 cC_pals, oX9 atrial aL aC itrial_moats res.2 itrial_tides, rI Y (atrial 3) 8 ctrial_mood, rI Y (atrial 4) 8 ctrial_place])) (hf : fX11_bestForSpade_b15 iC_size cC_age cC_skill cC_pals itrial_spades ctrial_mood ctrial_place x1 x2 x3 x4 = some res) : ax X 0 0 15 [some (.ref (ao 0)), some (.int x1), some (.int x2), some (.int x3), some (.int x4), none, none] [oX11 ao atext atold aL aC alaw aotherLaw anow atrial ahistory aguess acrewPlan amoatPlan achance io_wind io_spadeLimit, oX2 aC iC_size, rI Y (aC 1) 8 cC_age, rI Y (aC 2) 8 cC_skill, rI Y (aC 4) 8 cC_pals, oX9 atrial aL aC itrial_moats itrial_spades itrial_tides, rI Y (atrial 3) 8 ctrial_mood, rI Y (atrial 4) 8 ctrial_place] [] := by
  unfold fX11_bestForSpade_b15 at hf
  exact fx_loop (P := fun s : Int32 × Int32 × Int32 × Int32 => ax X 0 0 15 [some (.ref (ao 0)), some (.int x1), some (.int s.2.1), some (.int s.2.2.1), some (.int s.2.2.2), none, none] [oX11 ao atext atold aL aC alaw aotherLaw anow atrial ahistory aguess acrewPlan amoatPlan achance io_wind io_spadeLimit, oX2 aC iC_size, rI Y (aC 1) 8 cC_age, rI Y (aC 2) 8 cC_skill, rI Y (aC 4) 8 cC_pals, oX9 atrial aL aC itrial_moats s.1 itrial_tides, rI Y (atrial 3) 8 ctrial_mood, rI Y (atrial 4) 8 ctrial_place] []) (fun s k15 hk15 h => kX11_bestForSpade_l15 C hQ hk15 h) FUEL (itrial_spades, x2, x3, x4) hf
def fX11_bestForSpade (iC_size : Int32) (cC_age : Nat → Int32) (cC_skill : Nat → Int32) (cC_pals : Nat → Int32) (itrial_spades : Int32) (ctrial_mood : Nat → Int32) (ctrial_place : Nat → Int32) : Option (Int32 × Int32) :=
  fX11_bestForSpade_b15 iC_size cC_age cC_skill cC_pals itrial_spades ctrial_mood ctrial_place itrial_spades (0 : Int32) (0 : Int32) (0 : Int32)
set_option maxHeartbeats 400000 in
set_option maxRecDepth 100000 in
theorem kX11_bestForSpade (l : Launch) (D : va_G) (Y : Nat → ClassId) (ao atext atold aL aC alaw aotherLaw anow atrial ahistory aguess acrewPlan amoatPlan achance : Nat → Nat) (io_wind : Int32) (io_spadeLimit : Int32) (iC_size : Int32) (cC_age : Nat → Int32) (cC_skill : Nat → Int32) (cC_pals : Nat → Int32) (itrial_moats : Int32) (itrial_spades : Int32) (itrial_tides : Int32) (ctrial_mood : Nat → Int32) (ctrial_place : Nat → Int32) (res : Int32 × Int32) (hf : fX11_bestForSpade iC_size cC_age cC_skill cC_pals itrial_spades ctrial_mood ctrial_place = some res) : amf l D Y yX11_bestForSpade wsX11_bestForSpade rmX11_bestForSpade [.ref (ao 0)] [oX11 ao atext atold aL aC alaw aotherLaw anow atrial ahistory aguess acrewPlan amoatPlan achance io_wind io_spadeLimit, oX2 aC iC_size, rI Y (aC 1) 8 cC_age, rI Y (aC 2) 8 cC_skill, rI Y (aC 4) 8 cC_pals, oX9 atrial aL aC itrial_moats itrial_spades itrial_tides, rI Y (atrial 3) 8 ctrial_mood, rI Y (atrial 4) 8 ctrial_place] (some (.int res.1)) [oX11 ao atext atold aL aC alaw aotherLaw anow atrial ahistory aguess acrewPlan amoatPlan achance io_wind io_spadeLimit, oX2 aC iC_size, rI Y (aC 1) 8 cC_age, rI Y (aC 2) 8 cC_skill, rI Y (aC 4) 8 cC_pals, oX9 atrial aL aC itrial_moats res.2 itrial_tides, rI Y (atrial 3) 8 ctrial_mood, rI Y (atrial 4) 8 ctrial_place] := by
  refine amf.of (cc := cX11_bestForSpade) (maxL := 7) (rt := (some .int)) (by decide) rfl RX11 rfl (Nat.le_of_ble_eq_true rfl) [some (.ref (ao 0)), none, none, none, none, none, none] rfl ?_
  intro X C hQ
  unfold fX11_bestForSpade at hf
  refine a_aload_n C dX11_bestForSpade_0 rfl ?_
  refine a_get C eX11_bestForSpade_60 dX11_bestForSpade_1 0 rfl rfl ?_
  refine a_get C eX11_bestForSpade_192 dX11_bestForSpade_4 5 rfl rfl ?_
  refine a_istore_n C dX11_bestForSpade_7 (by decide) rfl ?_
  refine a_iconst C (0 : Int32) dX11_bestForSpade_8 (by decide) ?_
  refine a_istore_n C dX11_bestForSpade_9 (by decide) rfl ?_
  refine a_iconst C (0 : Int32) dX11_bestForSpade_10 (by decide) ?_
  refine a_istore_n C dX11_bestForSpade_11 (by decide) rfl ?_
  refine a_iconst C (0 : Int32) dX11_bestForSpade_12 (by decide) ?_
  refine a_istore C dX11_bestForSpade_13 (by decide) rfl ?_
  exact kX11_bestForSpade_b15 C hQ hf
-- X11_sendDrawn
abbrev rmX11_sendDrawn : Room := { frames := 1, cells := 0, slots := 0, locals := 21 }
theorem dvX11_sendDrawn : yX11_sendDrawn.cls = RX11 ∧ yX11_sendDrawn.cls ≠ "java/lang/invoke/MethodHandle" ∧ yX11_sendDrawn.cls ≠ "java/lang/invoke/VarHandle" ∧ (parseMethodDescriptor yX11_sendDrawn.desc).map (fun d => d.parameters.length) = some 0 := by decide +kernel
theorem eX11_sendDrawn_inX11 : ∀ w ∈ wsX110, w ∈ wsX11_sendDrawn := by decide +kernel
theorem eX11_sendDrawn_33 : aF wsX11_sendDrawn RX11 33 11 3 := ⟨RX11, TX11, 17, rfl, eX11_sendDrawn_inX11, by decide, by decide +kernel⟩
theorem eX11_sendDrawn_inX2 : ∀ w ∈ wsX20, w ∈ wsX11_sendDrawn := by decide +kernel
theorem eX11_sendDrawn_134 : aF wsX11_sendDrawn RX11 134 2 0 := ⟨RX2, TX2, 5, rfl, eX11_sendDrawn_inX2, by decide, by decide +kernel⟩
theorem eX11_sendDrawn_106 : aF wsX11_sendDrawn RX11 106 11 16 := ⟨RX11, TX11, 17, rfl, eX11_sendDrawn_inX11, by decide, by decide +kernel⟩
theorem eX11_sendDrawn_26 : aF wsX11_sendDrawn RX11 26 11 2 := ⟨RX11, TX11, 17, rfl, eX11_sendDrawn_inX11, by decide, by decide +kernel⟩
theorem eX11_sendDrawn_inX5 : ∀ w ∈ wsX50, w ∈ wsX11_sendDrawn := by decide +kernel
theorem eX11_sendDrawn_131 : aF wsX11_sendDrawn RX11 131 5 0 := ⟨RX5, TX5, 5, rfl, eX11_sendDrawn_inX5, by decide, by decide +kernel⟩
theorem eX11_sendDrawn_60 : aF wsX11_sendDrawn RX11 60 11 9 := ⟨RX11, TX11, 17, rfl, eX11_sendDrawn_inX11, by decide, by decide +kernel⟩
theorem eX11_sendDrawn_inX9 : ∀ w ∈ wsX90, w ∈ wsX11_sendDrawn := by decide +kernel
theorem eX11_sendDrawn_189 : aF wsX11_sendDrawn RX11 189 9 4 := ⟨RX9, TX9, 9, rfl, eX11_sendDrawn_inX9, by decide, by decide +kernel⟩
theorem eX11_sendDrawn_195 : aF wsX11_sendDrawn RX11 195 9 5 := ⟨RX9, TX9, 9, rfl, eX11_sendDrawn_inX9, by decide, by decide +kernel⟩
def fX11_sendDrawn_b85 (iC_size : Int32) (iL_cells : Int32) (ichance_seed : Int32) (ctrial_mood : Nat → Int32) (ctrial_place : Nat → Int32) : Option (Int32 × (Nat → Int32)) :=
  some (ichance_seed, ctrial_place)
set_option maxHeartbeats 400000 in
set_option maxRecDepth 100000 in
theorem kX11_sendDrawn_b85 {X : cxT} {l : Launch} {D : va_G} {Y : Nat → ClassId} {ao atext atold aL aC alaw aotherLaw anow atrial ahistory aguess acrewPlan amoatPlan achance : Nat → Nat} {io_wind : Int32} {io_spadeLimit : Int32} {iC_size : Int32} {iL_cells : Int32} {ichance_seed : Int32} {itrial_moats : Int32} {itrial_spades : Int32} {itrial_tides : Int32} {ctrial_mood : Nat → Int32} {ctrial_place : Nat → Int32} {res : Int32 × (Nat → Int32)} (C : axC X l D Y cX11_sendDrawn 3 RX11 wsX11_sendDrawn rmX11_sendDrawn none) (hQ : axQ X 0 0 (fun r9 w9 => r9 = none ∧ w9 = [oX11 ao atext atold aL aC alaw aotherLaw anow atrial ahistory aguess acrewPlan amoatPlan achance io_wind io_spadeLimit, oX2 aC iC_size, oX5 aL iL_cells, oX0 achance res.1, oX9 atrial aL aC itrial_moats itrial_spades itrial_tides, rI Y (atrial 3) 8 ctrial_mood, rI Y (atrial 4) 8 res.2])) (hf : fX11_sendDrawn_b85 iC_size iL_cells ichance_seed ctrial_mood ctrial_place = some res) : ax X 0 0 85 [none, none, none] [oX11 ao atext atold aL aC alaw aotherLaw anow atrial ahistory aguess acrewPlan amoatPlan achance io_wind io_spadeLimit, oX2 aC iC_size, oX5 aL iL_cells, oX0 achance ichance_seed, oX9 atrial aL aC itrial_moats itrial_spades itrial_tides, rI Y (atrial 3) 8 ctrial_mood, rI Y (atrial 4) 8 ctrial_place] [] := by
  unfold fX11_sendDrawn_b85 at hf
  obtain rfl := fx_some hf
  exact a_vret C hQ dX11_sendDrawn_85 ⟨rfl, rfl⟩
def fX11_sendDrawn (iC_size : Int32) (iL_cells : Int32) (ichance_seed : Int32) (ctrial_mood : Nat → Int32) (ctrial_place : Nat → Int32) : Option (Int32 × (Nat → Int32)) :=
  if iC_size = (0 : Int32) then (some (ichance_seed, ctrial_place)) else ((fX0_draw ichance_seed iC_size).bind (fun r2 => (fX0_draw r2.2 iL_cells).bind (fun r3 => (fX2_has iC_size r2.1).bind (fun r4 => if r4 = (0 : Int32) then (fX11_sendDrawn_b85 iC_size iL_cells r3.2 ctrial_mood ctrial_place) else ((fX5_has iL_cells r3.1).bind (fun r6 => if r6 = (0 : Int32) then (fX11_sendDrawn_b85 iC_size iL_cells r3.2 ctrial_mood ctrial_place) else (if inb r2.1 8 then if (ctrial_mood (Int32.toNatClampNeg r2.1)) = (0 : Int32) then (fX11_sendDrawn_b85 iC_size iL_cells r3.2 ctrial_mood ctrial_place) else (fX11_sendDrawn_b85 iC_size iL_cells r3.2 ctrial_mood (upd ctrial_place (Int32.toNatClampNeg r2.1) r3.1)) else none)))))))
set_option maxHeartbeats 400000 in
set_option maxRecDepth 100000 in
theorem kX11_sendDrawn (l : Launch) (D : va_G) (Y : Nat → ClassId) (ao atext atold aL aC alaw aotherLaw anow atrial ahistory aguess acrewPlan amoatPlan achance : Nat → Nat) (io_wind : Int32) (io_spadeLimit : Int32) (iC_size : Int32) (iL_cells : Int32) (ichance_seed : Int32) (itrial_moats : Int32) (itrial_spades : Int32) (itrial_tides : Int32) (ctrial_mood : Nat → Int32) (ctrial_place : Nat → Int32) (res : Int32 × (Nat → Int32)) (hf : fX11_sendDrawn iC_size iL_cells ichance_seed ctrial_mood ctrial_place = some res) : amf l D Y yX11_sendDrawn wsX11_sendDrawn rmX11_sendDrawn [.ref (ao 0)] [oX11 ao atext atold aL aC alaw aotherLaw anow atrial ahistory aguess acrewPlan amoatPlan achance io_wind io_spadeLimit, oX2 aC iC_size, oX5 aL iL_cells, oX0 achance ichance_seed, oX9 atrial aL aC itrial_moats itrial_spades itrial_tides, rI Y (atrial 3) 8 ctrial_mood, rI Y (atrial 4) 8 ctrial_place] none [oX11 ao atext atold aL aC alaw aotherLaw anow atrial ahistory aguess acrewPlan amoatPlan achance io_wind io_spadeLimit, oX2 aC iC_size, oX5 aL iL_cells, oX0 achance res.1, oX9 atrial aL aC itrial_moats itrial_spades itrial_tides, rI Y (atrial 3) 8 ctrial_mood, rI Y (atrial 4) 8 res.2] := by
  refine amf.of (cc := cX11_sendDrawn) (maxL := 3) (rt := none) (by decide) rfl RX11 rfl (Nat.le_of_ble_eq_true rfl) [some (.ref (ao 0)), none, none] rfl ?_
  intro X C hQ
  unfold fX11_sendDrawn at hf
  refine a_aload_n C dX11_sendDrawn_0 rfl ?_
  refine a_get C eX11_sendDrawn_33 dX11_sendDrawn_1 0 rfl rfl ?_
  refine a_get C eX11_sendDrawn_134 dX11_sendDrawn_4 1 rfl rfl ?_
  refine a_if_ne C 11 dX11_sendDrawn_7 (by decide) (fun h1 => ?_) (fun h1 => ?_)
  · have hf := fx_f h1 hf
    refine a_aload_n C dX11_sendDrawn_11 rfl ?_
    refine a_get C eX11_sendDrawn_106 dX11_sendDrawn_12 0 rfl rfl ?_
    refine a_aload_n C dX11_sendDrawn_15 rfl ?_
    refine a_get C eX11_sendDrawn_33 dX11_sendDrawn_16 0 rfl rfl ?_
    refine a_get C eX11_sendDrawn_134 dX11_sendDrawn_19 1 rfl rfl ?_
    obtain ⟨r2, h2, hf⟩ := fx_bind hf
    refine a_fV C (kX0_draw l D Y achance ichance_seed iC_size r2 h2) gX11_sendDrawn_X0_draw rfl dvX0_draw ⟨⟨rfl, rfl⟩, ⟨Nat.le_of_ble_eq_true rfl, Nat.le_of_ble_eq_true rfl⟩, ⟨Nat.le_of_ble_eq_true rfl, Nat.le_of_ble_eq_true rfl⟩⟩ rfl (Nat.le_of_ble_eq_true rfl) dX11_sendDrawn_22 rfl rfl [3] [0, 1, 2, 4, 5, 6] ⟨rfl, trivial⟩ rfl rfl [oX11 ao atext atold aL aC alaw aotherLaw anow atrial ahistory aguess acrewPlan amoatPlan achance io_wind io_spadeLimit, oX2 aC iC_size, oX5 aL iL_cells, oX0 achance r2.2, oX9 atrial aL aC itrial_moats itrial_spades itrial_tides, rI Y (atrial 3) 8 ctrial_mood, rI Y (atrial 4) 8 ctrial_place] ⟨rfl, trivial⟩ ⟨rfl, rfl, rfl, rfl, rfl, rfl, trivial⟩ rfl ?_
    refine a_istore_n C dX11_sendDrawn_25 (by decide) rfl ?_
    refine a_aload_n C dX11_sendDrawn_26 rfl ?_
    refine a_get C eX11_sendDrawn_106 dX11_sendDrawn_27 0 rfl rfl ?_
    refine a_aload_n C dX11_sendDrawn_30 rfl ?_
    refine a_get C eX11_sendDrawn_26 dX11_sendDrawn_31 0 rfl rfl ?_
    refine a_get C eX11_sendDrawn_131 dX11_sendDrawn_34 2 rfl rfl ?_
    obtain ⟨r3, h3, hf⟩ := fx_bind hf
    refine a_fV C (kX0_draw l D Y achance r2.2 iL_cells r3 h3) gX11_sendDrawn_X0_draw rfl dvX0_draw ⟨⟨rfl, rfl⟩, ⟨Nat.le_of_ble_eq_true rfl, Nat.le_of_ble_eq_true rfl⟩, ⟨Nat.le_of_ble_eq_true rfl, Nat.le_of_ble_eq_true rfl⟩⟩ rfl (Nat.le_of_ble_eq_true rfl) dX11_sendDrawn_37 rfl rfl [3] [0, 1, 2, 4, 5, 6] ⟨rfl, trivial⟩ rfl rfl [oX11 ao atext atold aL aC alaw aotherLaw anow atrial ahistory aguess acrewPlan amoatPlan achance io_wind io_spadeLimit, oX2 aC iC_size, oX5 aL iL_cells, oX0 achance r3.2, oX9 atrial aL aC itrial_moats itrial_spades itrial_tides, rI Y (atrial 3) 8 ctrial_mood, rI Y (atrial 4) 8 ctrial_place] ⟨rfl, trivial⟩ ⟨rfl, rfl, rfl, rfl, rfl, rfl, trivial⟩ rfl ?_
    refine a_istore_n C dX11_sendDrawn_40 (by decide) rfl ?_
    refine a_aload_n C dX11_sendDrawn_41 rfl ?_
    refine a_get C eX11_sendDrawn_33 dX11_sendDrawn_42 0 rfl rfl ?_
    refine a_iload_n C dX11_sendDrawn_45 rfl ?_
    obtain ⟨r4, h4, hf⟩ := fx_bind hf
    refine a_fV C (kX2_has l D Y aC iC_size r2.1 r4 h4) gX11_sendDrawn_X2_has rfl dvX2_has ⟨⟨rfl, rfl⟩, ⟨Nat.le_of_ble_eq_true rfl, Nat.le_of_ble_eq_true rfl⟩, ⟨Nat.le_of_ble_eq_true rfl, Nat.le_of_ble_eq_true rfl⟩⟩ rfl (Nat.le_of_ble_eq_true rfl) dX11_sendDrawn_46 rfl rfl [1] [0, 2, 3, 4, 5, 6] ⟨rfl, trivial⟩ rfl rfl [oX11 ao atext atold aL aC alaw aotherLaw anow atrial ahistory aguess acrewPlan amoatPlan achance io_wind io_spadeLimit, oX2 aC iC_size, oX5 aL iL_cells, oX0 achance r3.2, oX9 atrial aL aC itrial_moats itrial_spades itrial_tides, rI Y (atrial 3) 8 ctrial_mood, rI Y (atrial 4) 8 ctrial_place] ⟨rfl, trivial⟩ ⟨rfl, rfl, rfl, rfl, rfl, rfl, trivial⟩ rfl ?_
    refine a_if_eq C 85 dX11_sendDrawn_49 (by decide) (fun h5 => ?_) (fun h5 => ?_)
    · have hf := fx_t h5 hf
      refine a_kill [0, 1, 2] ?_
      exact kX11_sendDrawn_b85 C hQ hf
    · have hf := fx_f h5 hf
      refine a_aload_n C dX11_sendDrawn_52 rfl ?_
      refine a_get C eX11_sendDrawn_26 dX11_sendDrawn_53 0 rfl rfl ?_
      refine a_iload_n C dX11_sendDrawn_56 rfl ?_
      obtain ⟨r6, h6, hf⟩ := fx_bind hf
      refine a_fV C (kX5_has l D Y aL iL_cells r3.1 r6 h6) gX11_sendDrawn_X5_has rfl dvX5_has ⟨⟨rfl, rfl⟩, ⟨Nat.le_of_ble_eq_true rfl, Nat.le_of_ble_eq_true rfl⟩, ⟨Nat.le_of_ble_eq_true rfl, Nat.le_of_ble_eq_true rfl⟩⟩ rfl (Nat.le_of_ble_eq_true rfl) dX11_sendDrawn_57 rfl rfl [2] [0, 1, 3, 4, 5, 6] ⟨rfl, trivial⟩ rfl rfl [oX11 ao atext atold aL aC alaw aotherLaw anow atrial ahistory aguess acrewPlan amoatPlan achance io_wind io_spadeLimit, oX2 aC iC_size, oX5 aL iL_cells, oX0 achance r3.2, oX9 atrial aL aC itrial_moats itrial_spades itrial_tides, rI Y (atrial 3) 8 ctrial_mood, rI Y (atrial 4) 8 ctrial_place] ⟨rfl, trivial⟩ ⟨rfl, rfl, rfl, rfl, rfl, rfl, trivial⟩ rfl ?_
      refine a_if_eq C 85 dX11_sendDrawn_60 (by decide) (fun h7 => ?_) (fun h7 => ?_)
      · have hf := fx_t h7 hf
        refine a_kill [0, 1, 2] ?_
        exact kX11_sendDrawn_b85 C hQ hf
      · have hf := fx_f h7 hf
        refine a_aload_n C dX11_sendDrawn_63 rfl ?_
        refine a_get C eX11_sendDrawn_60 dX11_sendDrawn_64 0 rfl rfl ?_
        refine a_get C eX11_sendDrawn_189 dX11_sendDrawn_67 4 rfl rfl ?_
        refine a_iload_n C dX11_sendDrawn_70 rfl ?_
        obtain ⟨h8, hf⟩ := fx_ite hf
        refine a_iald C dX11_sendDrawn_71 5 rfl h8 ?_
        refine a_if_eq C 85 dX11_sendDrawn_72 (by decide) (fun h9 => ?_) (fun h9 => ?_)
        · have hf := fx_t h9 hf
          refine a_kill [0, 1, 2] ?_
          exact kX11_sendDrawn_b85 C hQ hf
        · have hf := fx_f h9 hf
          refine a_aload_n C dX11_sendDrawn_75 rfl ?_
          refine a_get C eX11_sendDrawn_60 dX11_sendDrawn_76 0 rfl rfl ?_
          refine a_get C eX11_sendDrawn_195 dX11_sendDrawn_79 4 rfl rfl ?_
          refine a_iload_n C dX11_sendDrawn_82 rfl ?_
          refine a_iload_n C dX11_sendDrawn_83 rfl ?_
          refine a_iast C dX11_sendDrawn_84 6 rfl h8 ?_
          refine a_kill [0, 1, 2] ?_
          exact kX11_sendDrawn_b85 C hQ hf
  · have hf := fx_t h1 hf
    obtain rfl := fx_some hf
    exact a_vret C hQ dX11_sendDrawn_10 ⟨rfl, rfl⟩
-- X11_narrowed
abbrev rmX11_narrowed : Room := { frames := 0, cells := 0, slots := 0, locals := 0 }
theorem dvX11_narrowed : yX11_narrowed.cls ≠ "java/lang/invoke/MethodHandle" ∧ yX11_narrowed.cls ≠ "java/lang/invoke/VarHandle" ∧ (parseMethodDescriptor yX11_narrowed.desc).map (fun d => d.parameters.length) = some 2 := by decide +kernel
def fX11_narrowed_b18 (s0 : Int32) : Option (Int32) :=
  some s0
set_option maxHeartbeats 400000 in
set_option maxRecDepth 100000 in
theorem kX11_narrowed_b18 {X : cxT} {l : Launch} {D : va_G} {Y : Nat → ClassId} {s0 : Int32} {res : Int32} (C : axC X l D Y cX11_narrowed 2 RX11 wsX11_narrowed rmX11_narrowed (some .int)) (hQ : axQ X 0 0 (fun r9 w9 => r9 = (some (.int res)) ∧ w9 = [])) (hf : fX11_narrowed_b18 s0 = some res) : ax X 0 0 18 [none, none] [] [.int s0] := by
  unfold fX11_narrowed_b18 at hf
  obtain rfl := fx_some hf
  exact a_iret C hQ dX11_narrowed_18 ⟨rfl, rfl⟩
def fX11_narrowed (x0 : Int32) (x1 : Int32) : Option (Int32) :=
  if x0 = (0 : Int32) then (some (x1.toInt8.toInt32)) else (if x0 = (1 : Int32) then (fX11_narrowed_b18 (x1.toInt16.toInt32)) else (fX11_narrowed_b18 x1))
set_option maxHeartbeats 400000 in
set_option maxRecDepth 100000 in
theorem kX11_narrowed (l : Launch) (D : va_G) (Y : Nat → ClassId) (x0 : Int32) (x1 : Int32) (res : Int32) (hf : fX11_narrowed x0 x1 = some res) : amf l D Y yX11_narrowed wsX11_narrowed rmX11_narrowed [.int x0, .int x1] [] (some (.int res)) [] := by
  refine amf.of (cc := cX11_narrowed) (maxL := 2) (rt := (some .int)) (by decide) rfl RX11 rfl (Nat.le_of_ble_eq_true rfl) [some (.int x0), some (.int x1)] rfl ?_
  intro X C hQ
  unfold fX11_narrowed at hf
  refine a_iload_n C dX11_narrowed_0 rfl ?_
  refine a_if_ne C 7 dX11_narrowed_1 (by decide) (fun h1 => ?_) (fun h1 => ?_)
  · have hf := fx_f h1 hf
    refine a_iload_n C dX11_narrowed_7 rfl ?_
    refine a_iconst C (1 : Int32) dX11_narrowed_8 (by decide) ?_
    refine a_icmp_ne C 17 dX11_narrowed_9 (by decide) (fun h2 => ?_) (fun h2 => ?_)
    · have hf := fx_f h2 hf
      refine a_iload_n C dX11_narrowed_17 rfl ?_
      refine a_kill [0, 1] ?_
      exact kX11_narrowed_b18 C hQ hf
    · have hf := fx_t h2 hf
      refine a_iload_n C dX11_narrowed_12 rfl ?_
      refine a_i2s C dX11_narrowed_13 ?_
      refine a_goto C 18 dX11_narrowed_14 (by decide) ?_
      refine a_kill [0, 1] ?_
      exact kX11_narrowed_b18 C hQ hf
  · have hf := fx_t h1 hf
    refine a_iload_n C dX11_narrowed_4 rfl ?_
    refine a_i2b C dX11_narrowed_5 ?_
    obtain rfl := fx_some hf
    exact a_iret C hQ dX11_narrowed_6 ⟨rfl, rfl⟩
-- X11_divisor
abbrev rmX11_divisor : Room := { frames := 0, cells := 0, slots := 0, locals := 0 }
theorem dvX11_divisor : yX11_divisor.cls ≠ "java/lang/invoke/MethodHandle" ∧ yX11_divisor.cls ≠ "java/lang/invoke/VarHandle" ∧ (parseMethodDescriptor yX11_divisor.desc).map (fun d => d.parameters.length) = some 2 := by decide +kernel
def fX11_divisor_b44 (x4 : Int64) : Option (Int64) :=
  some x4
set_option maxHeartbeats 400000 in
set_option maxRecDepth 100000 in
theorem kX11_divisor_b44 {X : cxT} {l : Launch} {D : va_G} {Y : Nat → ClassId} {x4 : Int64} {res : Int64} (C : axC X l D Y cX11_divisor 11 RX11 wsX11_divisor rmX11_divisor (some .long)) (hQ : axQ X 0 0 (fun r9 w9 => r9 = (some (.long res)) ∧ w9 = [])) (hf : fX11_divisor_b44 x4 = some res) : ax X 0 0 44 [none, none, none, none, some (.long x4), none, none, none, none, none, none] [] [] := by
  unfold fX11_divisor_b44 at hf
  refine a_lload C dX11_divisor_44 rfl ?_
  obtain rfl := fx_some hf
  exact a_lret C hQ dX11_divisor_46 ⟨rfl, rfl⟩
def fX11_divisor_l9 (k9 : Int64 × Int64 × Int32 → Option (Int64)) (x4 : Int64) (x6 : Int64) (x8 : Int32) : Option (Int64) :=
  if (100 : Int32) ≤ x8 then (fX11_divisor_b44 x4) else (if (lg_cmp x6 (0 : Int64)) = (0 : Int32) then (fX11_divisor_b44 x4) else (if ¬ x6 = 0 then k9 (x6, (jlrem x4 x6), (x8 + (1 : Int32))) else none))
def fX11_divisor_b9 (x4 : Int64) (x6 : Int64) (x8 : Int32) : Option (Int64) :=
  loopN (fun (s : Int64 × Int64 × Int32) k9 => fX11_divisor_l9  k9 s.1 s.2.1 s.2.2) FUEL (x4, x6, x8)
set_option maxHeartbeats 400000 in
set_option maxRecDepth 100000 in
theorem kX11_divisor_l9 {X : cxT} {l : Launch} {D : va_G} {Y : Nat → ClassId} {x4 : Int64} {x6 : Int64} {x8 : Int32} {res : Int64} (C : axC X l D Y cX11_divisor 11 RX11 wsX11_divisor rmX11_divisor (some .long)) (hQ : axQ X 0 0 (fun r9 w9 => r9 = (some (.long res)) ∧ w9 = [])) {k9 : Int64 × Int64 × Int32 → Option (Int64)} (hk9 : ∀ s : Int64 × Int64 × Int32, k9 s = some res → ax X 0 0 9 [none, none, none, none, some (.long s.1), none, some (.long s.2.1), none, some (.int s.2.2), none, none] [] []) (hf : fX11_divisor_l9  k9 x4 x6 x8 = some res) : ax X 0 0 9 [none, none, none, none, some (.long x4), none, some (.long x6), none, some (.int x8), none, none] [] [] := by
  unfold fX11_divisor_l9 at hf
  refine a_iload C dX11_divisor_9 rfl ?_
  refine a_bipush C (100 : Int32) dX11_divisor_11 (by decide) ?_
  refine a_icmp_ge C 44 dX11_divisor_13 (by decide) (fun h1 => ?_) (fun h1 => ?_)
  · have hf := fx_t h1 hf
    refine a_kill [6, 8] ?_
    exact kX11_divisor_b44 C hQ hf
  · have hf := fx_f h1 hf
    refine a_lload C dX11_divisor_16 rfl ?_
    refine a_lconst C (0 : Int64) dX11_divisor_18 (by decide) ?_
    refine a_lcmp C dX11_divisor_19 ?_
    refine a_if_eq C 44 dX11_divisor_20 (by decide) (fun h2 => ?_) (fun h2 => ?_)
    · have hf := fx_t h2 hf
      refine a_kill [6, 8] ?_
      exact kX11_divisor_b44 C hQ hf
    · have hf := fx_f h2 hf
      refine a_lload C dX11_divisor_23 rfl ?_
      refine a_lload C dX11_divisor_25 rfl ?_
      obtain ⟨h3, hf⟩ := fx_ite hf
      refine a_lrem C dX11_divisor_27 h3 ?_
      refine a_lstore C dX11_divisor_28 (by decide) rfl ?_
      refine a_lload C dX11_divisor_30 rfl ?_
      refine a_lstore C dX11_divisor_32 (by decide) rfl ?_
      refine a_lload C dX11_divisor_34 rfl ?_
      refine a_lstore C dX11_divisor_36 (by decide) rfl ?_
      refine a_iinc C (1 : Int32) dX11_divisor_38 (by decide) rfl (by decide) rfl ?_
      refine a_goto C 9 dX11_divisor_41 (by decide) ?_
      refine a_kill [9] ?_
      exact hk9 (x6, (jlrem x4 x6), (x8 + (1 : Int32))) hf
set_option maxHeartbeats 400000 in
set_option maxRecDepth 100000 in
theorem kX11_divisor_b9 {X : cxT} {l : Launch} {D : va_G} {Y : Nat → ClassId} {x4 : Int64} {x6 : Int64} {x8 : Int32} {res : Int64} (C : axC X l D Y cX11_divisor 11 RX11 wsX11_divisor rmX11_divisor (some .long)) (hQ : axQ X 0 0 (fun r9 w9 => r9 = (some (.long res)) ∧ w9 = [])) (hf : fX11_divisor_b9 x4 x6 x8 = some res) : ax X 0 0 9 [none, none, none, none, some (.long x4), none, some (.long x6), none, some (.int x8), none, none] [] [] := by
  unfold fX11_divisor_b9 at hf
  exact fx_loop (P := fun s : Int64 × Int64 × Int32 => ax X 0 0 9 [none, none, none, none, some (.long s.1), none, some (.long s.2.1), none, some (.int s.2.2), none, none] [] []) (fun s k9 hk9 h => kX11_divisor_l9 C hQ hk9 h) FUEL (x4, x6, x8) hf
def fX11_divisor (x0 : Int64) (x2 : Int64) : Option (Int64) :=
  fX11_divisor_b9 x0 x2 (0 : Int32)
set_option maxHeartbeats 400000 in
set_option maxRecDepth 100000 in
theorem kX11_divisor (l : Launch) (D : va_G) (Y : Nat → ClassId) (x0 : Int64) (x2 : Int64) (res : Int64) (hf : fX11_divisor x0 x2 = some res) : amf l D Y yX11_divisor wsX11_divisor rmX11_divisor [.long x0, .long x2] [] (some (.long res)) [] := by
  refine amf.of (cc := cX11_divisor) (maxL := 11) (rt := (some .long)) (by decide) rfl RX11 rfl (Nat.le_of_ble_eq_true rfl) [some (.long x0), none, some (.long x2), none, none, none, none, none, none, none, none] rfl ?_
  intro X C hQ
  unfold fX11_divisor at hf
  refine a_lload_n C dX11_divisor_0 rfl ?_
  refine a_lstore C dX11_divisor_1 (by decide) rfl ?_
  refine a_lload_n C dX11_divisor_3 rfl ?_
  refine a_lstore C dX11_divisor_4 (by decide) rfl ?_
  refine a_iconst C (0 : Int32) dX11_divisor_6 (by decide) ?_
  refine a_istore C dX11_divisor_7 (by decide) rfl ?_
  refine a_kill [0, 2] ?_
  exact kX11_divisor_b9 C hQ hf
-- X11_sheet
abbrev rmX11_sheet : Room := { frames := 2, cells := 0, slots := 0, locals := 42 }
theorem dvX11_sheet : yX11_sheet.cls = RX11 ∧ yX11_sheet.cls ≠ "java/lang/invoke/MethodHandle" ∧ yX11_sheet.cls ≠ "java/lang/invoke/VarHandle" ∧ (parseMethodDescriptor yX11_sheet.desc).map (fun d => d.parameters.length) = some 4 := by decide +kernel
theorem eX11_sheet_inX11 : ∀ w ∈ wsX110, w ∈ wsX11_sheet := by decide +kernel
theorem eX11_sheet_56 : aF wsX11_sheet RX11 56 11 8 := ⟨RX11, TX11, 17, rfl, eX11_sheet_inX11, by decide, by decide +kernel⟩
theorem eX11_sheet_inX9 : ∀ w ∈ wsX90, w ∈ wsX11_sheet := by decide +kernel
theorem eX11_sheet_189 : aF wsX11_sheet RX11 189 9 4 := ⟨RX9, TX9, 9, rfl, eX11_sheet_inX9, by decide, by decide +kernel⟩
theorem eX11_sheet_33 : aF wsX11_sheet RX11 33 11 3 := ⟨RX11, TX11, 17, rfl, eX11_sheet_inX11, by decide, by decide +kernel⟩
theorem eX11_sheet_inX2 : ∀ w ∈ wsX20, w ∈ wsX11_sheet := by decide +kernel
theorem eX11_sheet_134 : aF wsX11_sheet RX11 134 2 0 := ⟨RX2, TX2, 5, rfl, eX11_sheet_inX2, by decide, by decide +kernel⟩
def fX11_sheet_b15 (iC_size : Int32) (cnow_mood : Nat → Int32) : Option (Int32 × (Nat → Int32)) :=
  some ((-1 : Int32), cnow_mood)
set_option maxHeartbeats 400000 in
set_option maxRecDepth 100000 in
theorem kX11_sheet_b15 {X : cxT} {l : Launch} {D : va_G} {Y : Nat → ClassId} {ao atext atold aL aC alaw aotherLaw anow atrial ahistory aguess acrewPlan amoatPlan achance : Nat → Nat} {io_wind : Int32} {io_spadeLimit : Int32} {iC_size : Int32} {inow_moats : Int32} {inow_spades : Int32} {inow_tides : Int32} {cnow_mood : Nat → Int32} {res : Int32 × (Nat → Int32)} (C : axC X l D Y cX11_sheet 8 RX11 wsX11_sheet rmX11_sheet (some .int)) (hQ : axQ X 0 0 (fun r9 w9 => r9 = (some (.int res.1)) ∧ w9 = [oX11 ao atext atold aL aC alaw aotherLaw anow atrial ahistory aguess acrewPlan amoatPlan achance io_wind io_spadeLimit, oX2 aC iC_size, oX9 anow aL aC inow_moats inow_spades inow_tides, rI Y (anow 3) 8 res.2])) (hf : fX11_sheet_b15 iC_size cnow_mood = some res) : ax X 0 0 15 [none, none, none, none, none, none, none, none] [oX11 ao atext atold aL aC alaw aotherLaw anow atrial ahistory aguess acrewPlan amoatPlan achance io_wind io_spadeLimit, oX2 aC iC_size, oX9 anow aL aC inow_moats inow_spades inow_tides, rI Y (anow 3) 8 cnow_mood] [] := by
  unfold fX11_sheet_b15 at hf
  refine a_iconst C (-1 : Int32) dX11_sheet_15 (by decide) ?_
  obtain rfl := fx_some hf
  exact a_iret C hQ dX11_sheet_16 ⟨rfl, rfl⟩
def fX11_sheet_b123 (iC_size : Int32) (cnow_mood : Nat → Int32) (x5 : Int32) : Option (Int32 × (Nat → Int32)) :=
  some (x5, cnow_mood)
set_option maxHeartbeats 400000 in
set_option maxRecDepth 100000 in
theorem kX11_sheet_b123 {X : cxT} {l : Launch} {D : va_G} {Y : Nat → ClassId} {ao atext atold aL aC alaw aotherLaw anow atrial ahistory aguess acrewPlan amoatPlan achance : Nat → Nat} {io_wind : Int32} {io_spadeLimit : Int32} {iC_size : Int32} {inow_moats : Int32} {inow_spades : Int32} {inow_tides : Int32} {cnow_mood : Nat → Int32} {x5 : Int32} {res : Int32 × (Nat → Int32)} (C : axC X l D Y cX11_sheet 8 RX11 wsX11_sheet rmX11_sheet (some .int)) (hQ : axQ X 0 0 (fun r9 w9 => r9 = (some (.int res.1)) ∧ w9 = [oX11 ao atext atold aL aC alaw aotherLaw anow atrial ahistory aguess acrewPlan amoatPlan achance io_wind io_spadeLimit, oX2 aC iC_size, oX9 anow aL aC inow_moats inow_spades inow_tides, rI Y (anow 3) 8 res.2])) (hf : fX11_sheet_b123 iC_size cnow_mood x5 = some res) : ax X 0 0 123 [none, none, none, none, none, some (.int x5), none, none] [oX11 ao atext atold aL aC alaw aotherLaw anow atrial ahistory aguess acrewPlan amoatPlan achance io_wind io_spadeLimit, oX2 aC iC_size, oX9 anow aL aC inow_moats inow_spades inow_tides, rI Y (anow 3) 8 cnow_mood] [] := by
  unfold fX11_sheet_b123 at hf
  refine a_iload C dX11_sheet_123 rfl ?_
  obtain rfl := fx_some hf
  exact a_iret C hQ dX11_sheet_125 ⟨rfl, rfl⟩
def fX11_sheet_b94 (iC_size : Int32) (cnow_mood : Nat → Int32) (x1 : Int32) (x2 : Int32) (x4 : Int32) (x5 : Int32) (x6 : Int32) (x7 : Int32) (s1 : Int32) (s2 : Int32) (k52 : (Nat → Int32) × Int32 × Int32 × Int32 → Option (Int32 × (Nat → Int32))) : Option (Int32 × (Nat → Int32)) :=
  if inb s1 8 then if inb x7 8 then k52 ((upd cnow_mood (Int32.toNatClampNeg s1) s2), (x5 + ((upd cnow_mood (Int32.toNatClampNeg s1) s2) (Int32.toNatClampNeg x7))), (x6 + x4), (x7 + (1 : Int32))) else none else none
set_option maxHeartbeats 400000 in
set_option maxRecDepth 100000 in
theorem kX11_sheet_b94 {X : cxT} {l : Launch} {D : va_G} {Y : Nat → ClassId} {ao atext atold aL aC alaw aotherLaw anow atrial ahistory aguess acrewPlan amoatPlan achance : Nat → Nat} {io_wind : Int32} {io_spadeLimit : Int32} {iC_size : Int32} {inow_moats : Int32} {inow_spades : Int32} {inow_tides : Int32} {cnow_mood : Nat → Int32} {x1 : Int32} {x2 : Int32} {x4 : Int32} {x5 : Int32} {x6 : Int32} {x7 : Int32} {s1 : Int32} {s2 : Int32} {res : Int32 × (Nat → Int32)} (C : axC X l D Y cX11_sheet 8 RX11 wsX11_sheet rmX11_sheet (some .int)) (hQ : axQ X 0 0 (fun r9 w9 => r9 = (some (.int res.1)) ∧ w9 = [oX11 ao atext atold aL aC alaw aotherLaw anow atrial ahistory aguess acrewPlan amoatPlan achance io_wind io_spadeLimit, oX2 aC iC_size, oX9 anow aL aC inow_moats inow_spades inow_tides, rI Y (anow 3) 8 res.2])) {k52 : (Nat → Int32) × Int32 × Int32 × Int32 → Option (Int32 × (Nat → Int32))} (hk52 : ∀ s : (Nat → Int32) × Int32 × Int32 × Int32, k52 s = some res → ax X 0 0 52 [some (.ref (ao 0)), some (.int x1), some (.int x2), none, some (.int x4), some (.int s.2.1), some (.int s.2.2.1), some (.int s.2.2.2)] [oX11 ao atext atold aL aC alaw aotherLaw anow atrial ahistory aguess acrewPlan amoatPlan achance io_wind io_spadeLimit, oX2 aC iC_size, oX9 anow aL aC inow_moats inow_spades inow_tides, rI Y (anow 3) 8 s.1] []) (hf : fX11_sheet_b94 iC_size cnow_mood x1 x2 x4 x5 x6 x7 s1 s2 k52 = some res) : ax X 0 0 94 [some (.ref (ao 0)), some (.int x1), some (.int x2), none, some (.int x4), some (.int x5), some (.int x6), some (.int x7)] [oX11 ao atext atold aL aC alaw aotherLaw anow atrial ahistory aguess acrewPlan amoatPlan achance io_wind io_spadeLimit, oX2 aC iC_size, oX9 anow aL aC inow_moats inow_spades inow_tides, rI Y (anow 3) 8 cnow_mood] [.int s2, .int s1, .ref (anow 3)] := by
  unfold fX11_sheet_b94 at hf
  obtain ⟨h1, hf⟩ := fx_ite hf
  refine a_iast C dX11_sheet_94 3 rfl h1 ?_
  refine a_iload C dX11_sheet_95 rfl ?_
  refine a_aload_n C dX11_sheet_97 rfl ?_
  refine a_get C eX11_sheet_56 dX11_sheet_98 0 rfl rfl ?_
  refine a_get C eX11_sheet_189 dX11_sheet_101 2 rfl rfl ?_
  refine a_iload C dX11_sheet_104 rfl ?_
  obtain ⟨h2, hf⟩ := fx_ite hf
  refine a_iald C dX11_sheet_106 3 rfl h2 ?_
  refine a_iadd C dX11_sheet_107 ?_
  refine a_istore C dX11_sheet_108 (by decide) rfl ?_
  refine a_iload C dX11_sheet_110 rfl ?_
  refine a_iload C dX11_sheet_112 rfl ?_
  refine a_iadd C dX11_sheet_114 ?_
  refine a_istore C dX11_sheet_115 (by decide) rfl ?_
  refine a_iinc C (1 : Int32) dX11_sheet_117 (by decide) rfl (by decide) rfl ?_
  refine a_goto C 52 dX11_sheet_120 (by decide) ?_
  exact hk52 ((upd cnow_mood (Int32.toNatClampNeg s1) s2), (x5 + ((upd cnow_mood (Int32.toNatClampNeg s1) s2) (Int32.toNatClampNeg x7))), (x6 + x4), (x7 + (1 : Int32))) hf
def fX11_sheet_l52 (iC_size : Int32) (x1 : Int32) (x2 : Int32) (x4 : Int32) (k52 : (Nat → Int32) × Int32 × Int32 × Int32 → Option (Int32 × (Nat → Int32))) (cnow_mood : Nat → Int32) (x5 : Int32) (x6 : Int32) (x7 : Int32) : Option (Int32 × (Nat → Int32)) :=
  if iC_size ≤ x7 then (fX11_sheet_b123 iC_size cnow_mood x5) else (if x2 ≤ x7 then (fX11_sheet_b94 iC_size cnow_mood x1 x2 x4 x5 x6 x7 x7 (0 : Int32) k52) else ((fX11_narrowed x1 x6).bind (fun r5 => (fX11_clamp r5 (9 : Int32)).bind (fun r6 => fX11_sheet_b94 iC_size cnow_mood x1 x2 x4 x5 x6 x7 x7 r6 k52))))
def fX11_sheet_b52 (iC_size : Int32) (cnow_mood : Nat → Int32) (x1 : Int32) (x2 : Int32) (x4 : Int32) (x5 : Int32) (x6 : Int32) (x7 : Int32) : Option (Int32 × (Nat → Int32)) :=
  loopN (fun (s : (Nat → Int32) × Int32 × Int32 × Int32) k52 => fX11_sheet_l52 iC_size x1 x2 x4 k52 s.1 s.2.1 s.2.2.1 s.2.2.2) FUEL (cnow_mood, x5, x6, x7)
set_option maxHeartbeats 400000 in
set_option maxRecDepth 100000 in
theorem kX11_sheet_l52 {X : cxT} {l : Launch} {D : va_G} {Y : Nat → ClassId} {ao atext atold aL aC alaw aotherLaw anow atrial ahistory aguess acrewPlan amoatPlan achance : Nat → Nat} {io_wind : Int32} {io_spadeLimit : Int32} {iC_size : Int32} {inow_moats : Int32} {inow_spades : Int32} {inow_tides : Int32} {cnow_mood : Nat → Int32} {x1 : Int32} {x2 : Int32} {x4 : Int32} {x5 : Int32} {x6 : Int32} {x7 : Int32} {res : Int32 × (Nat → Int32)} (C : axC X l D Y cX11_sheet 8 RX11 wsX11_sheet rmX11_sheet (some .int)) (hQ : axQ X 0 0 (fun r9 w9 => r9 = (some (.int res.1)) ∧ w9 = [oX11 ao atext atold aL aC alaw aotherLaw anow atrial ahistory aguess acrewPlan amoatPlan achance io_wind io_spadeLimit, oX2 aC iC_size, oX9 anow aL aC inow_moats inow_spades inow_tides, rI Y (anow 3) 8 res.2])) {k52 : (Nat → Int32) × Int32 × Int32 × Int32 → Option (Int32 × (Nat → Int32))} (hk52 : ∀ s : (Nat → Int32) × Int32 × Int32 × Int32, k52 s = some res → ax X 0 0 52 [some (.ref (ao 0)), some (.int x1), some (.int x2), none, some (.int x4), some (.int s.2.1), some (.int s.2.2.1), some (.int s.2.2.2)] [oX11 ao atext atold aL aC alaw aotherLaw anow atrial ahistory aguess acrewPlan amoatPlan achance io_wind io_spadeLimit, oX2 aC iC_size, oX9 anow aL aC inow_moats inow_spades inow_tides, rI Y (anow 3) 8 s.1] []) (hf : fX11_sheet_l52 iC_size x1 x2 x4 k52 cnow_mood x5 x6 x7 = some res) : ax X 0 0 52 [some (.ref (ao 0)), some (.int x1), some (.int x2), none, some (.int x4), some (.int x5), some (.int x6), some (.int x7)] [oX11 ao atext atold aL aC alaw aotherLaw anow atrial ahistory aguess acrewPlan amoatPlan achance io_wind io_spadeLimit, oX2 aC iC_size, oX9 anow aL aC inow_moats inow_spades inow_tides, rI Y (anow 3) 8 cnow_mood] [] := by
  unfold fX11_sheet_l52 at hf
  refine a_iload C dX11_sheet_52 rfl ?_
  refine a_aload_n C dX11_sheet_54 rfl ?_
  refine a_get C eX11_sheet_33 dX11_sheet_55 0 rfl rfl ?_
  refine a_get C eX11_sheet_134 dX11_sheet_58 1 rfl rfl ?_
  refine a_icmp_ge C 123 dX11_sheet_61 (by decide) (fun h3 => ?_) (fun h3 => ?_)
  · have hf := fx_t h3 hf
    refine a_kill [0, 1, 2, 4, 6, 7] ?_
    exact kX11_sheet_b123 C hQ hf
  · have hf := fx_f h3 hf
    refine a_aload_n C dX11_sheet_64 rfl ?_
    refine a_get C eX11_sheet_56 dX11_sheet_65 0 rfl rfl ?_
    refine a_get C eX11_sheet_189 dX11_sheet_68 2 rfl rfl ?_
    refine a_iload C dX11_sheet_71 rfl ?_
    refine a_iload C dX11_sheet_73 rfl ?_
    refine a_iload_n C dX11_sheet_75 rfl ?_
    refine a_icmp_ge C 93 dX11_sheet_76 (by decide) (fun h4 => ?_) (fun h4 => ?_)
    · have hf := fx_t h4 hf
      refine a_iconst C (0 : Int32) dX11_sheet_93 (by decide) ?_
      exact kX11_sheet_b94 C hQ hk52 hf
    · have hf := fx_f h4 hf
      refine a_iload_n C dX11_sheet_79 rfl ?_
      refine a_iload C dX11_sheet_80 rfl ?_
      obtain ⟨r5, h5, hf⟩ := fx_bind hf
      refine a_fS C (kX11_narrowed l D Y x1 x6 r5 h5) gX11_sheet_X11_narrowed rfl dvX11_narrowed ⟨⟨rfl, rfl⟩, ⟨Nat.le_of_ble_eq_true rfl, Nat.le_of_ble_eq_true rfl⟩, ⟨Nat.le_of_ble_eq_true rfl, Nat.le_of_ble_eq_true rfl⟩⟩ rfl (Nat.le_of_ble_eq_true rfl) dX11_sheet_82 [] [0, 1, 2, 3] trivial rfl rfl [oX11 ao atext atold aL aC alaw aotherLaw anow atrial ahistory aguess acrewPlan amoatPlan achance io_wind io_spadeLimit, oX2 aC iC_size, oX9 anow aL aC inow_moats inow_spades inow_tides, rI Y (anow 3) 8 cnow_mood] trivial ⟨rfl, rfl, rfl, rfl, trivial⟩ rfl ?_
      refine a_bipush C (9 : Int32) dX11_sheet_85 (by decide) ?_
      obtain ⟨r6, h6, hf⟩ := fx_bind hf
      refine a_fS C (kX11_clamp l D Y r5 (9 : Int32) r6 h6) gX11_sheet_X11_clamp rfl dvX11_clamp ⟨⟨rfl, rfl⟩, ⟨Nat.le_of_ble_eq_true rfl, Nat.le_of_ble_eq_true rfl⟩, ⟨Nat.le_of_ble_eq_true rfl, Nat.le_of_ble_eq_true rfl⟩⟩ rfl (Nat.le_of_ble_eq_true rfl) dX11_sheet_87 [] [0, 1, 2, 3] trivial rfl rfl [oX11 ao atext atold aL aC alaw aotherLaw anow atrial ahistory aguess acrewPlan amoatPlan achance io_wind io_spadeLimit, oX2 aC iC_size, oX9 anow aL aC inow_moats inow_spades inow_tides, rI Y (anow 3) 8 cnow_mood] trivial ⟨rfl, rfl, rfl, rfl, trivial⟩ rfl ?_
      refine a_goto C 94 dX11_sheet_90 (by decide) ?_
      exact kX11_sheet_b94 C hQ hk52 hf
set_option maxHeartbeats 400000 in
set_option maxRecDepth 100000 in
theorem kX11_sheet_b52 {X : cxT} {l : Launch} {D : va_G} {Y : Nat → ClassId} {ao atext atold aL aC alaw aotherLaw anow atrial ahistory aguess acrewPlan amoatPlan achance : Nat → Nat} {io_wind : Int32} {io_spadeLimit : Int32} {iC_size : Int32} {inow_moats : Int32} {inow_spades : Int32} {inow_tides : Int32} {cnow_mood : Nat → Int32} {x1 : Int32} {x2 : Int32} {x4 : Int32} {x5 : Int32} {x6 : Int32} {x7 : Int32} {res : Int32 × (Nat → Int32)} (C : axC X l D Y cX11_sheet 8 RX11 wsX11_sheet rmX11_sheet (some .int)) (hQ : axQ X 0 0 (fun r9 w9 => r9 = (some (.int res.1)) ∧ w9 = [oX11 ao atext atold aL aC alaw aotherLaw anow atrial ahistory aguess acrewPlan amoatPlan achance io_wind io_spadeLimit, oX2 aC iC_size, oX9 anow aL aC inow_moats inow_spades inow_tides, rI Y (anow 3) 8 res.2])) (hf : fX11_sheet_b52 iC_size cnow_mood x1 x2 x4 x5 x6 x7 = some res) : ax X 0 0 52 [some (.ref (ao 0)), some (.int x1), some (.int x2), none, some (.int x4), some (.int x5), some (.int x6), some (.int x7)] [oX11 ao atext atold aL aC alaw aotherLaw anow atrial ahistory aguess acrewPlan amoatPlan achance io_wind io_spadeLimit, oX2 aC iC_size, oX9 anow aL aC inow_moats inow_spades inow_tides, rI Y (anow 3) 8 cnow_mood] [] := by
  unfold fX11_sheet_b52 at hf
  exact fx_loop (P := fun s : (Nat → Int32) × Int32 × Int32 × Int32 => ax X 0 0 52 [some (.ref (ao 0)), some (.int x1), some (.int x2), none, some (.int x4), some (.int s.2.1), some (.int s.2.2.1), some (.int s.2.2.2)] [oX11 ao atext atold aL aC alaw aotherLaw anow atrial ahistory aguess acrewPlan amoatPlan achance io_wind io_spadeLimit, oX2 aC iC_size, oX9 anow aL aC inow_moats inow_spades inow_tides, rI Y (anow 3) 8 s.1] []) (fun s k52 hk52 h => kX11_sheet_l52 C hQ hk52 h) FUEL (cnow_mood, x5, x6, x7) hf
def fX11_sheet (iC_size : Int32) (cnow_mood : Nat → Int32) (x1 : Int32) (x2 : Int32) (x3 : Int32) (x4 : Int32) : Option (Int32 × (Nat → Int32)) :=
  (fX11_within x1 (0 : Int32) (3 : Int32)).bind (fun r7 => if r7 = (0 : Int32) then (fX11_sheet_b15 iC_size cnow_mood) else (if x2 ≤ (8 : Int32) then (if x1 = (3 : Int32) then ((fJ7_fill_53178 cnow_mood 8 (0 : Int32)).bind (fun r12 => some ((-3 : Int32), r12))) else (if (0 : Int32) ≤ x2 then (fX11_sheet_b52 iC_size cnow_mood x1 x2 x4 (0 : Int32) x3 (0 : Int32)) else (some ((-2 : Int32), cnow_mood)))) else (fX11_sheet_b15 iC_size cnow_mood)))
set_option maxHeartbeats 400000 in
set_option maxRecDepth 100000 in
theorem kX11_sheet (l : Launch) (D : va_G) (Y : Nat → ClassId) (ao atext atold aL aC alaw aotherLaw anow atrial ahistory aguess acrewPlan amoatPlan achance : Nat → Nat) (io_wind : Int32) (io_spadeLimit : Int32) (iC_size : Int32) (inow_moats : Int32) (inow_spades : Int32) (inow_tides : Int32) (cnow_mood : Nat → Int32) (x1 : Int32) (x2 : Int32) (x3 : Int32) (x4 : Int32) (res : Int32 × (Nat → Int32)) (hf : fX11_sheet iC_size cnow_mood x1 x2 x3 x4 = some res) : amf l D Y yX11_sheet wsX11_sheet rmX11_sheet [.ref (ao 0), .int x1, .int x2, .int x3, .int x4] [oX11 ao atext atold aL aC alaw aotherLaw anow atrial ahistory aguess acrewPlan amoatPlan achance io_wind io_spadeLimit, oX2 aC iC_size, oX9 anow aL aC inow_moats inow_spades inow_tides, rI Y (anow 3) 8 cnow_mood] (some (.int res.1)) [oX11 ao atext atold aL aC alaw aotherLaw anow atrial ahistory aguess acrewPlan amoatPlan achance io_wind io_spadeLimit, oX2 aC iC_size, oX9 anow aL aC inow_moats inow_spades inow_tides, rI Y (anow 3) 8 res.2] := by
  refine amf.of (cc := cX11_sheet) (maxL := 8) (rt := (some .int)) (by decide) rfl RX11 rfl (Nat.le_of_ble_eq_true rfl) [some (.ref (ao 0)), some (.int x1), some (.int x2), some (.int x3), some (.int x4), none, none, none] rfl ?_
  intro X C hQ
  unfold fX11_sheet at hf
  refine a_iload_n C dX11_sheet_0 rfl ?_
  refine a_iconst C (0 : Int32) dX11_sheet_1 (by decide) ?_
  refine a_iconst C (3 : Int32) dX11_sheet_2 (by decide) ?_
  obtain ⟨r7, h7, hf⟩ := fx_bind hf
  refine a_fS C (kX11_within l D Y x1 (0 : Int32) (3 : Int32) r7 h7) gX11_sheet_X11_within rfl dvX11_within ⟨⟨rfl, rfl⟩, ⟨Nat.le_of_ble_eq_true rfl, Nat.le_of_ble_eq_true rfl⟩, ⟨Nat.le_of_ble_eq_true rfl, Nat.le_of_ble_eq_true rfl⟩⟩ rfl (Nat.le_of_ble_eq_true rfl) dX11_sheet_3 [] [0, 1, 2, 3] trivial rfl rfl [oX11 ao atext atold aL aC alaw aotherLaw anow atrial ahistory aguess acrewPlan amoatPlan achance io_wind io_spadeLimit, oX2 aC iC_size, oX9 anow aL aC inow_moats inow_spades inow_tides, rI Y (anow 3) 8 cnow_mood] trivial ⟨rfl, rfl, rfl, rfl, trivial⟩ rfl ?_
  refine a_if_eq C 15 dX11_sheet_6 (by decide) (fun h8 => ?_) (fun h8 => ?_)
  · have hf := fx_t h8 hf
    refine a_kill [0, 1, 2, 3, 4] ?_
    exact kX11_sheet_b15 C hQ hf
  · have hf := fx_f h8 hf
    refine a_iload_n C dX11_sheet_9 rfl ?_
    refine a_bipush C (8 : Int32) dX11_sheet_10 (by decide) ?_
    refine a_icmp_le C 17 dX11_sheet_12 (by decide) (fun h9 => ?_) (fun h9 => ?_)
    · have hf := fx_t h9 hf
      refine a_iload_n C dX11_sheet_17 rfl ?_
      refine a_iconst C (3 : Int32) dX11_sheet_18 (by decide) ?_
      refine a_icmp_ne C 36 dX11_sheet_19 (by decide) (fun h10 => ?_) (fun h10 => ?_)
      · have hf := fx_f h10 hf
        refine a_iload_n C dX11_sheet_36 rfl ?_
        refine a_if_ge C 43 dX11_sheet_37 (by decide) (fun h11 => ?_) (fun h11 => ?_)
        · have hf := fx_t h11 hf
          refine a_iconst C (0 : Int32) dX11_sheet_43 (by decide) ?_
          refine a_istore C dX11_sheet_44 (by decide) rfl ?_
          refine a_iload_n C dX11_sheet_46 rfl ?_
          refine a_istore C dX11_sheet_47 (by decide) rfl ?_
          refine a_iconst C (0 : Int32) dX11_sheet_49 (by decide) ?_
          refine a_istore C dX11_sheet_50 (by decide) rfl ?_
          refine a_kill [3] ?_
          exact kX11_sheet_b52 C hQ hf
        · have hf := fx_f h11 hf
          refine a_bipush C (-2 : Int32) dX11_sheet_40 (by decide) ?_
          obtain rfl := fx_some hf
          exact a_iret C hQ dX11_sheet_42 ⟨rfl, rfl⟩
      · have hf := fx_t h10 hf
        refine a_aload_n C dX11_sheet_22 rfl ?_
        refine a_get C eX11_sheet_56 dX11_sheet_23 0 rfl rfl ?_
        refine a_get C eX11_sheet_189 dX11_sheet_26 2 rfl rfl ?_
        refine a_iconst C (0 : Int32) dX11_sheet_29 (by decide) ?_
        obtain ⟨r12, h12, hf⟩ := fx_bind hf
        refine a_fS C (kJ7_fill_53178 l D Y (anow 3) cnow_mood 8 (0 : Int32) r12 h12) gX11_sheet_J7_fill_53178 rfl dvJ7_fill_53178 ⟨⟨rfl, rfl⟩, ⟨Nat.le_of_ble_eq_true rfl, Nat.le_of_ble_eq_true rfl⟩, ⟨Nat.le_of_ble_eq_true rfl, Nat.le_of_ble_eq_true rfl⟩⟩ rfl (Nat.le_of_ble_eq_true rfl) dX11_sheet_30 [3] [0, 1, 2] ⟨rfl, trivial⟩ rfl rfl [oX11 ao atext atold aL aC alaw aotherLaw anow atrial ahistory aguess acrewPlan amoatPlan achance io_wind io_spadeLimit, oX2 aC iC_size, oX9 anow aL aC inow_moats inow_spades inow_tides, rI Y (anow 3) 8 r12] ⟨rfl, trivial⟩ ⟨rfl, rfl, rfl, trivial⟩ rfl ?_
        refine a_bipush C (-3 : Int32) dX11_sheet_33 (by decide) ?_
        obtain rfl := fx_some hf
        exact a_iret C hQ dX11_sheet_35 ⟨rfl, rfl⟩
    · have hf := fx_f h9 hf
      refine a_kill [0, 1, 2, 3, 4] ?_
      exact kX11_sheet_b15 C hQ hf
-- X11_level
abbrev rmX11_level : Room := { frames := 4, cells := 0, slots := 0, locals := 92 }
theorem dvX11_level : yX11_level.cls = RX11 ∧ yX11_level.cls ≠ "java/lang/invoke/MethodHandle" ∧ yX11_level.cls ≠ "java/lang/invoke/VarHandle" ∧ (parseMethodDescriptor yX11_level.desc).map (fun d => d.parameters.length) = some 1 := by decide +kernel
theorem eX11_level_inX11 : ∀ w ∈ wsX110, w ∈ wsX11_level := by decide +kernel
theorem eX11_level_40 : aF wsX11_level RX11 40 11 4 := ⟨RX11, TX11, 17, rfl, eX11_level_inX11, by decide, by decide +kernel⟩
theorem eX11_level_56 : aF wsX11_level RX11 56 11 8 := ⟨RX11, TX11, 17, rfl, eX11_level_inX11, by decide, by decide +kernel⟩
theorem eX11_level_19 : aF wsX11_level RX11 19 11 1 := ⟨RX11, TX11, 17, rfl, eX11_level_inX11, by decide, by decide +kernel⟩
def fX11_level (io_wind : Int32) (iL_cells : Int32) (cL_base : Nat → Int32) (ilaw_length : Int32) (claw_codes : Nat → Int32) (claw_stack : Nat → Int32) (inow_moats : Int32) (inow_tides : Int32) (cnow_wall : Nat → Int32) (itold_size : Int32) (ctold_numbers : Nat → Int64) (x1 : Int32) : Option (Int32 × (Nat → Int32) × Int32 × (Nat → Int64)) :=
  (fX11_within x1 (0 : Int32) (99 : Int32)).bind (fun r1 => if r1 = (0 : Int32) then (some ((-1 : Int32), claw_stack, itold_size, ctold_numbers)) else ((fX11_heightOf io_wind ilaw_length claw_codes claw_stack inow_moats inow_tides iL_cells x1).bind (fun r3 => (fX9_below cnow_wall iL_cells cL_base r3.1).bind (fun r4 => (fX8_tell itold_size ctold_numbers (r4.toInt64)).bind (fun r5 => some (r3.1, r3.2, r5.1, r5.2))))))
set_option maxHeartbeats 400000 in
set_option maxRecDepth 100000 in
theorem kX11_level (l : Launch) (D : va_G) (Y : Nat → ClassId) (ao atext atold aL aC alaw aotherLaw anow atrial ahistory aguess acrewPlan amoatPlan achance : Nat → Nat) (io_wind : Int32) (io_spadeLimit : Int32) (iL_cells : Int32) (cL_base : Nat → Int32) (ilaw_length : Int32) (ilaw_at : Int32) (ilaw_sign : Int32) (ilaw_bad : Int32) (claw_codes : Nat → Int32) (claw_stack : Nat → Int32) (inow_moats : Int32) (inow_spades : Int32) (inow_tides : Int32) (cnow_wall : Nat → Int32) (itold_size : Int32) (ctold_numbers : Nat → Int64) (x1 : Int32) (res : Int32 × (Nat → Int32) × Int32 × (Nat → Int64)) (hf : fX11_level io_wind iL_cells cL_base ilaw_length claw_codes claw_stack inow_moats inow_tides cnow_wall itold_size ctold_numbers x1 = some res) : amf l D Y yX11_level wsX11_level rmX11_level [.ref (ao 0), .int x1] [oX11 ao atext atold aL aC alaw aotherLaw anow atrial ahistory aguess acrewPlan amoatPlan achance io_wind io_spadeLimit, oX5 aL iL_cells, rI Y (aL 1) 12 cL_base, oX6 alaw ilaw_length ilaw_at ilaw_sign ilaw_bad, rI Y (alaw 1) 40 claw_codes, rI Y (alaw 2) 40 claw_stack, oX9 anow aL aC inow_moats inow_spades inow_tides, rI Y (anow 1) 12 cnow_wall, oX8 atold itold_size, rJ Y (atold 1) 12 ctold_numbers] (some (.int res.1)) [oX11 ao atext atold aL aC alaw aotherLaw anow atrial ahistory aguess acrewPlan amoatPlan achance io_wind io_spadeLimit, oX5 aL iL_cells, rI Y (aL 1) 12 cL_base, oX6 alaw ilaw_length ilaw_at ilaw_sign ilaw_bad, rI Y (alaw 1) 40 claw_codes, rI Y (alaw 2) 40 res.2.1, oX9 anow aL aC inow_moats inow_spades inow_tides, rI Y (anow 1) 12 cnow_wall, oX8 atold res.2.2.1, rJ Y (atold 1) 12 res.2.2.2] := by
  refine amf.of (cc := cX11_level) (maxL := 3) (rt := (some .int)) (by decide) rfl RX11 rfl (Nat.le_of_ble_eq_true rfl) [some (.ref (ao 0)), some (.int x1), none] rfl ?_
  intro X C hQ
  unfold fX11_level at hf
  refine a_iload_n C dX11_level_0 rfl ?_
  refine a_iconst C (0 : Int32) dX11_level_1 (by decide) ?_
  refine a_bipush C (99 : Int32) dX11_level_2 (by decide) ?_
  obtain ⟨r1, h1, hf⟩ := fx_bind hf
  refine a_fS C (kX11_within l D Y x1 (0 : Int32) (99 : Int32) r1 h1) gX11_level_X11_within rfl dvX11_within ⟨⟨rfl, rfl⟩, ⟨Nat.le_of_ble_eq_true rfl, Nat.le_of_ble_eq_true rfl⟩, ⟨Nat.le_of_ble_eq_true rfl, Nat.le_of_ble_eq_true rfl⟩⟩ rfl (Nat.le_of_ble_eq_true rfl) dX11_level_4 [] [0, 1, 2, 3, 4, 5, 6, 7, 8, 9] trivial rfl rfl [oX11 ao atext atold aL aC alaw aotherLaw anow atrial ahistory aguess acrewPlan amoatPlan achance io_wind io_spadeLimit, oX5 aL iL_cells, rI Y (aL 1) 12 cL_base, oX6 alaw ilaw_length ilaw_at ilaw_sign ilaw_bad, rI Y (alaw 1) 40 claw_codes, rI Y (alaw 2) 40 claw_stack, oX9 anow aL aC inow_moats inow_spades inow_tides, rI Y (anow 1) 12 cnow_wall, oX8 atold itold_size, rJ Y (atold 1) 12 ctold_numbers] trivial ⟨rfl, rfl, rfl, rfl, rfl, rfl, rfl, rfl, rfl, rfl, trivial⟩ rfl ?_
  refine a_if_ne C 12 dX11_level_7 (by decide) (fun h2 => ?_) (fun h2 => ?_)
  · have hf := fx_f h2 hf
    refine a_aload_n C dX11_level_12 rfl ?_
    refine a_aload_n C dX11_level_13 rfl ?_
    refine a_get C eX11_level_40 dX11_level_14 0 rfl rfl ?_
    refine a_aload_n C dX11_level_17 rfl ?_
    refine a_get C eX11_level_56 dX11_level_18 0 rfl rfl ?_
    refine a_iload_n C dX11_level_21 rfl ?_
    obtain ⟨r3, h3, hf⟩ := fx_bind hf
    refine a_fV C (kX11_heightOf l D Y ao atext atold aL aC alaw aotherLaw anow atrial ahistory aguess acrewPlan amoatPlan achance alaw anow io_wind io_spadeLimit ilaw_length ilaw_at ilaw_sign ilaw_bad claw_codes claw_stack inow_moats inow_spades inow_tides iL_cells x1 r3 h3) gX11_level_X11_heightOf rfl dvX11_heightOf ⟨⟨rfl, rfl⟩, ⟨Nat.le_of_ble_eq_true rfl, Nat.le_of_ble_eq_true rfl⟩, ⟨Nat.le_of_ble_eq_true rfl, Nat.le_of_ble_eq_true rfl⟩⟩ rfl (Nat.le_of_ble_eq_true rfl) dX11_level_22 rfl rfl [0, 3, 4, 5, 6, 1] [2, 7, 8, 9] ⟨rfl, rfl, rfl, rfl, rfl, rfl, trivial⟩ rfl rfl [oX11 ao atext atold aL aC alaw aotherLaw anow atrial ahistory aguess acrewPlan amoatPlan achance io_wind io_spadeLimit, oX5 aL iL_cells, rI Y (aL 1) 12 cL_base, oX6 alaw ilaw_length ilaw_at ilaw_sign ilaw_bad, rI Y (alaw 1) 40 claw_codes, rI Y (alaw 2) 40 r3.2, oX9 anow aL aC inow_moats inow_spades inow_tides, rI Y (anow 1) 12 cnow_wall, oX8 atold itold_size, rJ Y (atold 1) 12 ctold_numbers] ⟨rfl, rfl, rfl, rfl, rfl, rfl, trivial⟩ ⟨rfl, rfl, rfl, rfl, trivial⟩ rfl ?_
    refine a_istore_n C dX11_level_25 (by decide) rfl ?_
    refine a_aload_n C dX11_level_26 rfl ?_
    refine a_get C eX11_level_19 dX11_level_27 0 rfl rfl ?_
    refine a_aload_n C dX11_level_30 rfl ?_
    refine a_get C eX11_level_56 dX11_level_31 0 rfl rfl ?_
    refine a_iload_n C dX11_level_34 rfl ?_
    obtain ⟨r4, h4, hf⟩ := fx_bind hf
    refine a_fV C (kX9_below l D Y anow aL aC inow_moats inow_spades inow_tides cnow_wall iL_cells cL_base r3.1 r4 h4) gX11_level_X9_below rfl dvX9_below ⟨⟨rfl, rfl⟩, ⟨Nat.le_of_ble_eq_true rfl, Nat.le_of_ble_eq_true rfl⟩, ⟨Nat.le_of_ble_eq_true rfl, Nat.le_of_ble_eq_true rfl⟩⟩ rfl (Nat.le_of_ble_eq_true rfl) dX11_level_35 rfl rfl [6, 7, 1, 2] [0, 3, 4, 5, 8, 9] ⟨rfl, rfl, rfl, rfl, trivial⟩ rfl rfl [oX11 ao atext atold aL aC alaw aotherLaw anow atrial ahistory aguess acrewPlan amoatPlan achance io_wind io_spadeLimit, oX5 aL iL_cells, rI Y (aL 1) 12 cL_base, oX6 alaw ilaw_length ilaw_at ilaw_sign ilaw_bad, rI Y (alaw 1) 40 claw_codes, rI Y (alaw 2) 40 r3.2, oX9 anow aL aC inow_moats inow_spades inow_tides, rI Y (anow 1) 12 cnow_wall, oX8 atold itold_size, rJ Y (atold 1) 12 ctold_numbers] ⟨rfl, rfl, rfl, rfl, trivial⟩ ⟨rfl, rfl, rfl, rfl, rfl, rfl, trivial⟩ rfl ?_
    refine a_i2l C dX11_level_38 ?_
    obtain ⟨r5, h5, hf⟩ := fx_bind hf
    refine a_fV C (kX8_tell l D Y atold itold_size ctold_numbers (r4.toInt64) r5 h5) gX11_level_X8_tell rfl dvX8_tell ⟨⟨rfl, rfl⟩, ⟨Nat.le_of_ble_eq_true rfl, Nat.le_of_ble_eq_true rfl⟩, ⟨Nat.le_of_ble_eq_true rfl, Nat.le_of_ble_eq_true rfl⟩⟩ rfl (Nat.le_of_ble_eq_true rfl) dX11_level_39 rfl rfl [8, 9] [0, 1, 2, 3, 4, 5, 6, 7] ⟨rfl, rfl, trivial⟩ rfl rfl [oX11 ao atext atold aL aC alaw aotherLaw anow atrial ahistory aguess acrewPlan amoatPlan achance io_wind io_spadeLimit, oX5 aL iL_cells, rI Y (aL 1) 12 cL_base, oX6 alaw ilaw_length ilaw_at ilaw_sign ilaw_bad, rI Y (alaw 1) 40 claw_codes, rI Y (alaw 2) 40 r3.2, oX9 anow aL aC inow_moats inow_spades inow_tides, rI Y (anow 1) 12 cnow_wall, oX8 atold r5.1, rJ Y (atold 1) 12 r5.2] ⟨rfl, rfl, trivial⟩ ⟨rfl, rfl, rfl, rfl, rfl, rfl, rfl, rfl, trivial⟩ rfl ?_
    refine a_iload_n C dX11_level_42 rfl ?_
    obtain rfl := fx_some hf
    exact a_iret C hQ dX11_level_43 ⟨rfl, rfl⟩
  · have hf := fx_t h2 hf
    refine a_iconst C (-1 : Int32) dX11_level_10 (by decide) ?_
    obtain rfl := fx_some hf
    exact a_iret C hQ dX11_level_11 ⟨rfl, rfl⟩
-- X11_holds
abbrev rmX11_holds : Room := { frames := 4, cells := 0, slots := 0, locals := 92 }
theorem dvX11_holds : yX11_holds.cls = RX11 ∧ yX11_holds.cls ≠ "java/lang/invoke/MethodHandle" ∧ yX11_holds.cls ≠ "java/lang/invoke/VarHandle" ∧ (parseMethodDescriptor yX11_holds.desc).map (fun d => d.parameters.length) = some 0 := by decide +kernel
theorem eX11_holds_inX11 : ∀ w ∈ wsX110, w ∈ wsX11_holds := by decide +kernel
theorem eX11_holds_19 : aF wsX11_holds RX11 19 11 1 := ⟨RX11, TX11, 17, rfl, eX11_holds_inX11, by decide, by decide +kernel⟩
theorem eX11_holds_40 : aF wsX11_holds RX11 40 11 4 := ⟨RX11, TX11, 17, rfl, eX11_holds_inX11, by decide, by decide +kernel⟩
theorem eX11_holds_60 : aF wsX11_holds RX11 60 11 9 := ⟨RX11, TX11, 17, rfl, eX11_holds_inX11, by decide, by decide +kernel⟩
theorem eX11_holds_56 : aF wsX11_holds RX11 56 11 8 := ⟨RX11, TX11, 17, rfl, eX11_holds_inX11, by decide, by decide +kernel⟩
def fX11_holds_b65 (io_wind : Int32) (iL_cells : Int32) (cL_base : Nat → Int32) (cL_dyke : Nat → Int32) (ilaw_length : Int32) (claw_codes : Nat → Int32) (claw_stack : Nat → Int32) (inow_moats : Int32) (inow_spades : Int32) (inow_tides : Int32) (cnow_wall : Nat → Int32) (cnow_depth : Nat → Int32) (cnow_mood : Nat → Int32) (cnow_place : Nat → Int32) (itold_size : Int32) (ctold_numbers : Nat → Int64) (itrial_moats : Int32) (itrial_spades : Int32) (itrial_tides : Int32) (ctrial_wall : Nat → Int32) (ctrial_depth : Nat → Int32) (ctrial_mood : Nat → Int32) (ctrial_place : Nat → Int32) : Option (Int32 × (Nat → Int32) × Int32 × (Nat → Int64) × Int32 × Int32 × Int32 × (Nat → Int32) × (Nat → Int32) × (Nat → Int32) × (Nat → Int32)) :=
  some ((-2 : Int32), claw_stack, itold_size, ctold_numbers, itrial_moats, itrial_spades, itrial_tides, ctrial_wall, ctrial_depth, ctrial_mood, ctrial_place)
set_option maxHeartbeats 400000 in
set_option maxRecDepth 100000 in
theorem kX11_holds_b65 {X : cxT} {l : Launch} {D : va_G} {Y : Nat → ClassId} {ao atext atold aL aC alaw aotherLaw anow atrial ahistory aguess acrewPlan amoatPlan achance : Nat → Nat} {io_wind : Int32} {io_spadeLimit : Int32} {iL_cells : Int32} {cL_base : Nat → Int32} {cL_dyke : Nat → Int32} {ilaw_length : Int32} {ilaw_at : Int32} {ilaw_sign : Int32} {ilaw_bad : Int32} {claw_codes : Nat → Int32} {claw_stack : Nat → Int32} {inow_moats : Int32} {inow_spades : Int32} {inow_tides : Int32} {cnow_wall : Nat → Int32} {cnow_depth : Nat → Int32} {cnow_mood : Nat → Int32} {cnow_place : Nat → Int32} {itold_size : Int32} {ctold_numbers : Nat → Int64} {itrial_moats : Int32} {itrial_spades : Int32} {itrial_tides : Int32} {ctrial_wall : Nat → Int32} {ctrial_depth : Nat → Int32} {ctrial_mood : Nat → Int32} {ctrial_place : Nat → Int32} {res : Int32 × (Nat → Int32) × Int32 × (Nat → Int64) × Int32 × Int32 × Int32 × (Nat → Int32) × (Nat → Int32) × (Nat → Int32) × (Nat → Int32)} (C : axC X l D Y cX11_holds 4 RX11 wsX11_holds rmX11_holds (some .int)) (hQ : axQ X 0 0 (fun r9 w9 => r9 = (some (.int res.1)) ∧ w9 = [oX11 ao atext atold aL aC alaw aotherLaw anow atrial ahistory aguess acrewPlan amoatPlan achance io_wind io_spadeLimit, oX5 aL iL_cells, rI Y (aL 1) 12 cL_base, rI Y (aL 2) 12 cL_dyke, oX6 alaw ilaw_length ilaw_at ilaw_sign ilaw_bad, rI Y (alaw 1) 40 claw_codes, rI Y (alaw 2) 40 res.2.1, oX9 anow aL aC inow_moats inow_spades inow_tides, rI Y (anow 1) 12 cnow_wall, rI Y (anow 2) 12 cnow_depth, rI Y (anow 3) 8 cnow_mood, rI Y (anow 4) 8 cnow_place, oX8 atold res.2.2.1, rJ Y (atold 1) 12 res.2.2.2.1, oX9 atrial aL aC res.2.2.2.2.1 res.2.2.2.2.2.1 res.2.2.2.2.2.2.1, rI Y (atrial 1) 12 res.2.2.2.2.2.2.2.1, rI Y (atrial 2) 12 res.2.2.2.2.2.2.2.2.1, rI Y (atrial 3) 8 res.2.2.2.2.2.2.2.2.2.1, rI Y (atrial 4) 8 res.2.2.2.2.2.2.2.2.2.2])) (hf : fX11_holds_b65 io_wind iL_cells cL_base cL_dyke ilaw_length claw_codes claw_stack inow_moats inow_spades inow_tides cnow_wall cnow_depth cnow_mood cnow_place itold_size ctold_numbers itrial_moats itrial_spades itrial_tides ctrial_wall ctrial_depth ctrial_mood ctrial_place = some res) : ax X 0 0 65 [none, none, none, none] [oX11 ao atext atold aL aC alaw aotherLaw anow atrial ahistory aguess acrewPlan amoatPlan achance io_wind io_spadeLimit, oX5 aL iL_cells, rI Y (aL 1) 12 cL_base, rI Y (aL 2) 12 cL_dyke, oX6 alaw ilaw_length ilaw_at ilaw_sign ilaw_bad, rI Y (alaw 1) 40 claw_codes, rI Y (alaw 2) 40 claw_stack, oX9 anow aL aC inow_moats inow_spades inow_tides, rI Y (anow 1) 12 cnow_wall, rI Y (anow 2) 12 cnow_depth, rI Y (anow 3) 8 cnow_mood, rI Y (anow 4) 8 cnow_place, oX8 atold itold_size, rJ Y (atold 1) 12 ctold_numbers, oX9 atrial aL aC itrial_moats itrial_spades itrial_tides, rI Y (atrial 1) 12 ctrial_wall, rI Y (atrial 2) 12 ctrial_depth, rI Y (atrial 3) 8 ctrial_mood, rI Y (atrial 4) 8 ctrial_place] [] := by
  unfold fX11_holds_b65 at hf
  refine a_bipush C (-2 : Int32) dX11_holds_65 (by decide) ?_
  obtain rfl := fx_some hf
  exact a_iret C hQ dX11_holds_67 ⟨rfl, rfl⟩
def fX11_holds_b46 (io_wind : Int32) (iL_cells : Int32) (cL_base : Nat → Int32) (cL_dyke : Nat → Int32) (ilaw_length : Int32) (claw_codes : Nat → Int32) (claw_stack : Nat → Int32) (inow_moats : Int32) (inow_spades : Int32) (inow_tides : Int32) (cnow_wall : Nat → Int32) (cnow_depth : Nat → Int32) (cnow_mood : Nat → Int32) (cnow_place : Nat → Int32) (itold_size : Int32) (ctold_numbers : Nat → Int64) (itrial_moats : Int32) (itrial_spades : Int32) (itrial_tides : Int32) (ctrial_wall : Nat → Int32) (ctrial_depth : Nat → Int32) (ctrial_mood : Nat → Int32) (ctrial_place : Nat → Int32) (x1 : Int32) (x2 : Int32) (x3 : Int32) : Option (Int32 × (Nat → Int32) × Int32 × (Nat → Int64) × Int32 × Int32 × Int32 × (Nat → Int32) × (Nat → Int32) × (Nat → Int32) × (Nat → Int32)) :=
  (fX8_tell_ itold_size ctold_numbers (x3.toInt64) (x2.toInt64)).bind (fun r1 => some (x1, claw_stack, r1.1, r1.2, itrial_moats, itrial_spades, itrial_tides, ctrial_wall, ctrial_depth, ctrial_mood, ctrial_place))
set_option maxHeartbeats 400000 in
set_option maxRecDepth 100000 in
theorem kX11_holds_b46 {X : cxT} {l : Launch} {D : va_G} {Y : Nat → ClassId} {ao atext atold aL aC alaw aotherLaw anow atrial ahistory aguess acrewPlan amoatPlan achance : Nat → Nat} {io_wind : Int32} {io_spadeLimit : Int32} {iL_cells : Int32} {cL_base : Nat → Int32} {cL_dyke : Nat → Int32} {ilaw_length : Int32} {ilaw_at : Int32} {ilaw_sign : Int32} {ilaw_bad : Int32} {claw_codes : Nat → Int32} {claw_stack : Nat → Int32} {inow_moats : Int32} {inow_spades : Int32} {inow_tides : Int32} {cnow_wall : Nat → Int32} {cnow_depth : Nat → Int32} {cnow_mood : Nat → Int32} {cnow_place : Nat → Int32} {itold_size : Int32} {ctold_numbers : Nat → Int64} {itrial_moats : Int32} {itrial_spades : Int32} {itrial_tides : Int32} {ctrial_wall : Nat → Int32} {ctrial_depth : Nat → Int32} {ctrial_mood : Nat → Int32} {ctrial_place : Nat → Int32} {x1 : Int32} {x2 : Int32} {x3 : Int32} {res : Int32 × (Nat → Int32) × Int32 × (Nat → Int64) × Int32 × Int32 × Int32 × (Nat → Int32) × (Nat → Int32) × (Nat → Int32) × (Nat → Int32)} (C : axC X l D Y cX11_holds 4 RX11 wsX11_holds rmX11_holds (some .int)) (hQ : axQ X 0 0 (fun r9 w9 => r9 = (some (.int res.1)) ∧ w9 = [oX11 ao atext atold aL aC alaw aotherLaw anow atrial ahistory aguess acrewPlan amoatPlan achance io_wind io_spadeLimit, oX5 aL iL_cells, rI Y (aL 1) 12 cL_base, rI Y (aL 2) 12 cL_dyke, oX6 alaw ilaw_length ilaw_at ilaw_sign ilaw_bad, rI Y (alaw 1) 40 claw_codes, rI Y (alaw 2) 40 res.2.1, oX9 anow aL aC inow_moats inow_spades inow_tides, rI Y (anow 1) 12 cnow_wall, rI Y (anow 2) 12 cnow_depth, rI Y (anow 3) 8 cnow_mood, rI Y (anow 4) 8 cnow_place, oX8 atold res.2.2.1, rJ Y (atold 1) 12 res.2.2.2.1, oX9 atrial aL aC res.2.2.2.2.1 res.2.2.2.2.2.1 res.2.2.2.2.2.2.1, rI Y (atrial 1) 12 res.2.2.2.2.2.2.2.1, rI Y (atrial 2) 12 res.2.2.2.2.2.2.2.2.1, rI Y (atrial 3) 8 res.2.2.2.2.2.2.2.2.2.1, rI Y (atrial 4) 8 res.2.2.2.2.2.2.2.2.2.2])) (hf : fX11_holds_b46 io_wind iL_cells cL_base cL_dyke ilaw_length claw_codes claw_stack inow_moats inow_spades inow_tides cnow_wall cnow_depth cnow_mood cnow_place itold_size ctold_numbers itrial_moats itrial_spades itrial_tides ctrial_wall ctrial_depth ctrial_mood ctrial_place x1 x2 x3 = some res) : ax X 0 0 46 [some (.ref (ao 0)), some (.int x1), some (.int x2), some (.int x3)] [oX11 ao atext atold aL aC alaw aotherLaw anow atrial ahistory aguess acrewPlan amoatPlan achance io_wind io_spadeLimit, oX5 aL iL_cells, rI Y (aL 1) 12 cL_base, rI Y (aL 2) 12 cL_dyke, oX6 alaw ilaw_length ilaw_at ilaw_sign ilaw_bad, rI Y (alaw 1) 40 claw_codes, rI Y (alaw 2) 40 claw_stack, oX9 anow aL aC inow_moats inow_spades inow_tides, rI Y (anow 1) 12 cnow_wall, rI Y (anow 2) 12 cnow_depth, rI Y (anow 3) 8 cnow_mood, rI Y (anow 4) 8 cnow_place, oX8 atold itold_size, rJ Y (atold 1) 12 ctold_numbers, oX9 atrial aL aC itrial_moats itrial_spades itrial_tides, rI Y (atrial 1) 12 ctrial_wall, rI Y (atrial 2) 12 ctrial_depth, rI Y (atrial 3) 8 ctrial_mood, rI Y (atrial 4) 8 ctrial_place] [] := by
  unfold fX11_holds_b46 at hf
  refine a_aload_n C dX11_holds_46 rfl ?_
  refine a_get C eX11_holds_19 dX11_holds_47 0 rfl rfl ?_
  refine a_iload_n C dX11_holds_50 rfl ?_
  refine a_i2l C dX11_holds_51 ?_
  refine a_iload_n C dX11_holds_52 rfl ?_
  refine a_i2l C dX11_holds_53 ?_
  obtain ⟨r1, h1, hf⟩ := fx_bind hf
  refine a_fV C (kX8_tell_ l D Y atold itold_size ctold_numbers (x3.toInt64) (x2.toInt64) r1 h1) gX11_holds_X8_tell_ rfl dvX8_tell_ ⟨⟨rfl, rfl⟩, ⟨Nat.le_of_ble_eq_true rfl, Nat.le_of_ble_eq_true rfl⟩, ⟨Nat.le_of_ble_eq_true rfl, Nat.le_of_ble_eq_true rfl⟩⟩ rfl (Nat.le_of_ble_eq_true rfl) dX11_holds_54 rfl rfl [12, 13] [0, 1, 2, 3, 4, 5, 6, 7, 8, 9, 10, 11, 14, 15, 16, 17, 18] ⟨rfl, rfl, trivial⟩ rfl rfl [oX11 ao atext atold aL aC alaw aotherLaw anow atrial ahistory aguess acrewPlan amoatPlan achance io_wind io_spadeLimit, oX5 aL iL_cells, rI Y (aL 1) 12 cL_base, rI Y (aL 2) 12 cL_dyke, oX6 alaw ilaw_length ilaw_at ilaw_sign ilaw_bad, rI Y (alaw 1) 40 claw_codes, rI Y (alaw 2) 40 claw_stack, oX9 anow aL aC inow_moats inow_spades inow_tides, rI Y (anow 1) 12 cnow_wall, rI Y (anow 2) 12 cnow_depth, rI Y (anow 3) 8 cnow_mood, rI Y (anow 4) 8 cnow_place, oX8 atold r1.1, rJ Y (atold 1) 12 r1.2, oX9 atrial aL aC itrial_moats itrial_spades itrial_tides, rI Y (atrial 1) 12 ctrial_wall, rI Y (atrial 2) 12 ctrial_depth, rI Y (atrial 3) 8 ctrial_mood, rI Y (atrial 4) 8 ctrial_place] ⟨rfl, rfl, trivial⟩ ⟨rfl, rfl, rfl, rfl, rfl, rfl, rfl, rfl, rfl, rfl, rfl, rfl, rfl, rfl, rfl, rfl, rfl, trivial⟩ rfl ?_
  refine a_iload_n C dX11_holds_57 rfl ?_
  obtain rfl := fx_some hf
  exact a_iret C hQ dX11_holds_58 ⟨rfl, rfl⟩
def fX11_holds_l13 (io_wind : Int32) (iL_cells : Int32) (cL_base : Nat → Int32) (cL_dyke : Nat → Int32) (ilaw_length : Int32) (claw_codes : Nat → Int32) (inow_moats : Int32) (inow_spades : Int32) (inow_tides : Int32) (cnow_wall : Nat → Int32) (cnow_depth : Nat → Int32) (cnow_mood : Nat → Int32) (cnow_place : Nat → Int32) (itold_size : Int32) (ctold_numbers : Nat → Int64) (itrial_spades : Int32) (ctrial_mood : Nat → Int32) (ctrial_place : Nat → Int32) (k13 : (Nat → Int32) × Int32 × Int32 × (Nat → Int32) × (Nat → Int32) × Int32 → Option (Int32 × (Nat → Int32) × Int32 × (Nat → Int64) × Int32 × Int32 × Int32 × (Nat → Int32) × (Nat → Int32) × (Nat → Int32) × (Nat → Int32))) (claw_stack : Nat → Int32) (itrial_moats : Int32) (itrial_tides : Int32) (ctrial_wall : Nat → Int32) (ctrial_depth : Nat → Int32) (x1 : Int32) : Option (Int32 × (Nat → Int32) × Int32 × (Nat → Int64) × Int32 × Int32 × Int32 × (Nat → Int32) × (Nat → Int32) × (Nat → Int32) × (Nat → Int32)) :=
  if (99 : Int32) < x1 then (fX11_holds_b65 io_wind iL_cells cL_base cL_dyke ilaw_length claw_codes claw_stack inow_moats inow_spades inow_tides cnow_wall cnow_depth cnow_mood cnow_place itold_size ctold_numbers itrial_moats itrial_spades itrial_tides ctrial_wall ctrial_depth ctrial_mood ctrial_place) else ((fX11_heightOf io_wind ilaw_length claw_codes claw_stack itrial_moats itrial_tides iL_cells (0 : Int32)).bind (fun r3 => (fX9_surge itrial_moats itrial_tides ctrial_wall ctrial_depth iL_cells cL_base cL_dyke r3.1).bind (fun r4 => if r4.1 = (0 : Int32) then (k13 (r3.2, r4.2.1, r4.2.2.1, r4.2.2.2.1, r4.2.2.2.2, (x1 + (1 : Int32)))) else (fX11_holds_b46 io_wind iL_cells cL_base cL_dyke ilaw_length claw_codes r3.2 inow_moats inow_spades inow_tides cnow_wall cnow_depth cnow_mood cnow_place itold_size ctold_numbers r4.2.1 itrial_spades r4.2.2.1 r4.2.2.2.1 r4.2.2.2.2 ctrial_mood ctrial_place x1 r3.1 r4.1))))
def fX11_holds_b13 (io_wind : Int32) (iL_cells : Int32) (cL_base : Nat → Int32) (cL_dyke : Nat → Int32) (ilaw_length : Int32) (claw_codes : Nat → Int32) (claw_stack : Nat → Int32) (inow_moats : Int32) (inow_spades : Int32) (inow_tides : Int32) (cnow_wall : Nat → Int32) (cnow_depth : Nat → Int32) (cnow_mood : Nat → Int32) (cnow_place : Nat → Int32) (itold_size : Int32) (ctold_numbers : Nat → Int64) (itrial_moats : Int32) (itrial_spades : Int32) (itrial_tides : Int32) (ctrial_wall : Nat → Int32) (ctrial_depth : Nat → Int32) (ctrial_mood : Nat → Int32) (ctrial_place : Nat → Int32) (x1 : Int32) : Option (Int32 × (Nat → Int32) × Int32 × (Nat → Int64) × Int32 × Int32 × Int32 × (Nat → Int32) × (Nat → Int32) × (Nat → Int32) × (Nat → Int32)) :=
  loopN (fun (s : (Nat → Int32) × Int32 × Int32 × (Nat → Int32) × (Nat → Int32) × Int32) k13 => fX11_holds_l13 io_wind iL_cells cL_base cL_dyke ilaw_length claw_codes inow_moats inow_spades inow_tides cnow_wall cnow_depth cnow_mood cnow_place itold_size ctold_numbers itrial_spades ctrial_mood ctrial_place k13 s.1 s.2.1 s.2.2.1 s.2.2.2.1 s.2.2.2.2.1 s.2.2.2.2.2) FUEL (claw_stack, itrial_moats, itrial_tides, ctrial_wall, ctrial_depth, x1)
set_option maxHeartbeats 400000 in
set_option maxRecDepth 100000 in
theorem kX11_holds_l13 {X : cxT} {l : Launch} {D : va_G} {Y : Nat → ClassId} {ao atext atold aL aC alaw aotherLaw anow atrial ahistory aguess acrewPlan amoatPlan achance : Nat → Nat} {io_wind : Int32} {io_spadeLimit : Int32} {iL_cells : Int32} {cL_base : Nat → Int32} {cL_dyke : Nat → Int32} {ilaw_length : Int32} {ilaw_at : Int32} {ilaw_sign : Int32} {ilaw_bad : Int32} {claw_codes : Nat → Int32} {claw_stack : Nat → Int32} {inow_moats : Int32} {inow_spades : Int32} {inow_tides : Int32} {cnow_wall : Nat → Int32} {cnow_depth : Nat → Int32} {cnow_mood : Nat → Int32} {cnow_place : Nat → Int32} {itold_size : Int32} {ctold_numbers : Nat → Int64} {itrial_moats : Int32} {itrial_spades : Int32} {itrial_tides : Int32} {ctrial_wall : Nat → Int32} {ctrial_depth : Nat → Int32} {ctrial_mood : Nat → Int32} {ctrial_place : Nat → Int32} {x1 : Int32} {res : Int32 × (Nat → Int32) × Int32 × (Nat → Int64) × Int32 × Int32 × Int32 × (Nat → Int32) × (Nat → Int32) × (Nat → Int32) × (Nat → Int32)} (C : axC X l D Y cX11_holds 4 RX11 wsX11_holds rmX11_holds (some .int)) (hQ : axQ X 0 0 (fun r9 w9 => r9 = (some (.int res.1)) ∧ w9 = [oX11 ao atext atold aL aC alaw aotherLaw anow atrial ahistory aguess acrewPlan amoatPlan achance io_wind io_spadeLimit, oX5 aL iL_cells, rI Y (aL 1) 12 cL_base, rI Y (aL 2) 12 cL_dyke, oX6 alaw ilaw_length ilaw_at ilaw_sign ilaw_bad, rI Y (alaw 1) 40 claw_codes, rI Y (alaw 2) 40 res.2.1, oX9 anow aL aC inow_moats inow_spades inow_tides, rI Y (anow 1) 12 cnow_wall, rI Y (anow 2) 12 cnow_depth, rI Y (anow 3) 8 cnow_mood, rI Y (anow 4) 8 cnow_place, oX8 atold res.2.2.1, rJ Y (atold 1) 12 res.2.2.2.1, oX9 atrial aL aC res.2.2.2.2.1 res.2.2.2.2.2.1 res.2.2.2.2.2.2.1, rI Y (atrial 1) 12 res.2.2.2.2.2.2.2.1, rI Y (atrial 2) 12 res.2.2.2.2.2.2.2.2.1, rI Y (atrial 3) 8 res.2.2.2.2.2.2.2.2.2.1, rI Y (atrial 4) 8 res.2.2.2.2.2.2.2.2.2.2])) {k13 : (Nat → Int32) × Int32 × Int32 × (Nat → Int32) × (Nat → Int32) × Int32 → Option (Int32 × (Nat → Int32) × Int32 × (Nat → Int64) × Int32 × Int32 × Int32 × (Nat → Int32) × (Nat → Int32) × (Nat → Int32) × (Nat → Int32))} (hk13 : ∀ s : (Nat → Int32) × Int32 × Int32 × (Nat → Int32) × (Nat → Int32) × Int32, k13 s = some res → ax X 0 0 13 [some (.ref (ao 0)), some (.int s.2.2.2.2.2), none, none] [oX11 ao atext atold aL aC alaw aotherLaw anow atrial ahistory aguess acrewPlan amoatPlan achance io_wind io_spadeLimit, oX5 aL iL_cells, rI Y (aL 1) 12 cL_base, rI Y (aL 2) 12 cL_dyke, oX6 alaw ilaw_length ilaw_at ilaw_sign ilaw_bad, rI Y (alaw 1) 40 claw_codes, rI Y (alaw 2) 40 s.1, oX9 anow aL aC inow_moats inow_spades inow_tides, rI Y (anow 1) 12 cnow_wall, rI Y (anow 2) 12 cnow_depth, rI Y (anow 3) 8 cnow_mood, rI Y (anow 4) 8 cnow_place, oX8 atold itold_size, rJ Y (atold 1) 12 ctold_numbers, oX9 atrial aL aC s.2.1 itrial_spades s.2.2.1, rI Y (atrial 1) 12 s.2.2.2.1, rI Y (atrial 2) 12 s.2.2.2.2.1, rI Y (atrial 3) 8 ctrial_mood, rI Y (atrial 4) 8 ctrial_place] []) (hf : fX11_holds_l13 io_wind iL_cells cL_base cL_dyke ilaw_length claw_codes inow_moats inow_spades inow_tides cnow_wall cnow_depth cnow_mood cnow_place itold_size ctold_numbers itrial_spades ctrial_mood ctrial_place k13 claw_stack itrial_moats itrial_tides ctrial_wall ctrial_depth x1 = some res) : ax X 0 0 13 [some (.ref (ao 0)), some (.int x1), none, none] [oX11 ao atext atold aL aC alaw aotherLaw anow atrial ahistory aguess acrewPlan amoatPlan achance io_wind io_spadeLimit, oX5 aL iL_cells, rI Y (aL 1) 12 cL_base, rI Y (aL 2) 12 cL_dyke, oX6 alaw ilaw_length ilaw_at ilaw_sign ilaw_bad, rI Y (alaw 1) 40 claw_codes, rI Y (alaw 2) 40 claw_stack, oX9 anow aL aC inow_moats inow_spades inow_tides, rI Y (anow 1) 12 cnow_wall, rI Y (anow 2) 12 cnow_depth, rI Y (anow 3) 8 cnow_mood, rI Y (anow 4) 8 cnow_place, oX8 atold itold_size, rJ Y (atold 1) 12 ctold_numbers, oX9 atrial aL aC itrial_moats itrial_spades itrial_tides, rI Y (atrial 1) 12 ctrial_wall, rI Y (atrial 2) 12 ctrial_depth, rI Y (atrial 3) 8 ctrial_mood, rI Y (atrial 4) 8 ctrial_place] [] := by
  unfold fX11_holds_l13 at hf
  refine a_iload_n C dX11_holds_13 rfl ?_
  refine a_bipush C (99 : Int32) dX11_holds_14 (by decide) ?_
  refine a_icmp_gt C 65 dX11_holds_16 (by decide) (fun h2 => ?_) (fun h2 => ?_)
  · have hf := fx_t h2 hf
    refine a_kill [0, 1] ?_
    exact kX11_holds_b65 C hQ hf
  · have hf := fx_f h2 hf
    refine a_aload_n C dX11_holds_19 rfl ?_
    refine a_aload_n C dX11_holds_20 rfl ?_
    refine a_get C eX11_holds_40 dX11_holds_21 0 rfl rfl ?_
    refine a_aload_n C dX11_holds_24 rfl ?_
    refine a_get C eX11_holds_60 dX11_holds_25 0 rfl rfl ?_
    refine a_iconst C (0 : Int32) dX11_holds_28 (by decide) ?_
    obtain ⟨r3, h3, hf⟩ := fx_bind hf
    refine a_fV C (kX11_heightOf l D Y ao atext atold aL aC alaw aotherLaw anow atrial ahistory aguess acrewPlan amoatPlan achance alaw atrial io_wind io_spadeLimit ilaw_length ilaw_at ilaw_sign ilaw_bad claw_codes claw_stack itrial_moats itrial_spades itrial_tides iL_cells (0 : Int32) r3 h3) gX11_holds_X11_heightOf rfl dvX11_heightOf ⟨⟨rfl, rfl⟩, ⟨Nat.le_of_ble_eq_true rfl, Nat.le_of_ble_eq_true rfl⟩, ⟨Nat.le_of_ble_eq_true rfl, Nat.le_of_ble_eq_true rfl⟩⟩ rfl (Nat.le_of_ble_eq_true rfl) dX11_holds_29 rfl rfl [0, 4, 5, 6, 14, 1] [2, 3, 7, 8, 9, 10, 11, 12, 13, 15, 16, 17, 18] ⟨rfl, rfl, rfl, rfl, rfl, rfl, trivial⟩ rfl rfl [oX11 ao atext atold aL aC alaw aotherLaw anow atrial ahistory aguess acrewPlan amoatPlan achance io_wind io_spadeLimit, oX5 aL iL_cells, rI Y (aL 1) 12 cL_base, rI Y (aL 2) 12 cL_dyke, oX6 alaw ilaw_length ilaw_at ilaw_sign ilaw_bad, rI Y (alaw 1) 40 claw_codes, rI Y (alaw 2) 40 r3.2, oX9 anow aL aC inow_moats inow_spades inow_tides, rI Y (anow 1) 12 cnow_wall, rI Y (anow 2) 12 cnow_depth, rI Y (anow 3) 8 cnow_mood, rI Y (anow 4) 8 cnow_place, oX8 atold itold_size, rJ Y (atold 1) 12 ctold_numbers, oX9 atrial aL aC itrial_moats itrial_spades itrial_tides, rI Y (atrial 1) 12 ctrial_wall, rI Y (atrial 2) 12 ctrial_depth, rI Y (atrial 3) 8 ctrial_mood, rI Y (atrial 4) 8 ctrial_place] ⟨rfl, rfl, rfl, rfl, rfl, rfl, trivial⟩ ⟨rfl, rfl, rfl, rfl, rfl, rfl, rfl, rfl, rfl, rfl, rfl, rfl, rfl, trivial⟩ rfl ?_
    refine a_istore_n C dX11_holds_32 (by decide) rfl ?_
    refine a_aload_n C dX11_holds_33 rfl ?_
    refine a_get C eX11_holds_60 dX11_holds_34 0 rfl rfl ?_
    refine a_iload_n C dX11_holds_37 rfl ?_
    obtain ⟨r4, h4, hf⟩ := fx_bind hf
    refine a_fV C (kX9_surge l D Y atrial aL aC itrial_moats itrial_spades itrial_tides ctrial_wall ctrial_depth iL_cells cL_base cL_dyke r3.1 r4 h4) gX11_holds_X9_surge rfl dvX9_surge ⟨⟨rfl, rfl⟩, ⟨Nat.le_of_ble_eq_true rfl, Nat.le_of_ble_eq_true rfl⟩, ⟨Nat.le_of_ble_eq_true rfl, Nat.le_of_ble_eq_true rfl⟩⟩ rfl (Nat.le_of_ble_eq_true rfl) dX11_holds_38 rfl rfl [14, 15, 16, 1, 2, 3] [0, 4, 5, 6, 7, 8, 9, 10, 11, 12, 13, 17, 18] ⟨rfl, rfl, rfl, rfl, rfl, rfl, trivial⟩ rfl rfl [oX11 ao atext atold aL aC alaw aotherLaw anow atrial ahistory aguess acrewPlan amoatPlan achance io_wind io_spadeLimit, oX5 aL iL_cells, rI Y (aL 1) 12 cL_base, rI Y (aL 2) 12 cL_dyke, oX6 alaw ilaw_length ilaw_at ilaw_sign ilaw_bad, rI Y (alaw 1) 40 claw_codes, rI Y (alaw 2) 40 r3.2, oX9 anow aL aC inow_moats inow_spades inow_tides, rI Y (anow 1) 12 cnow_wall, rI Y (anow 2) 12 cnow_depth, rI Y (anow 3) 8 cnow_mood, rI Y (anow 4) 8 cnow_place, oX8 atold itold_size, rJ Y (atold 1) 12 ctold_numbers, oX9 atrial aL aC r4.2.1 itrial_spades r4.2.2.1, rI Y (atrial 1) 12 r4.2.2.2.1, rI Y (atrial 2) 12 r4.2.2.2.2, rI Y (atrial 3) 8 ctrial_mood, rI Y (atrial 4) 8 ctrial_place] ⟨rfl, rfl, rfl, rfl, rfl, rfl, trivial⟩ ⟨rfl, rfl, rfl, rfl, rfl, rfl, rfl, rfl, rfl, rfl, rfl, rfl, rfl, trivial⟩ rfl ?_
    refine a_istore_n C dX11_holds_41 (by decide) rfl ?_
    refine a_iload_n C dX11_holds_42 rfl ?_
    refine a_if_eq C 59 dX11_holds_43 (by decide) (fun h5 => ?_) (fun h5 => ?_)
    · have hf := fx_t h5 hf
      refine a_iinc C (1 : Int32) dX11_holds_59 (by decide) rfl (by decide) rfl ?_
      refine a_goto C 13 dX11_holds_62 (by decide) ?_
      refine a_kill [2, 3] ?_
      exact hk13 (r3.2, r4.2.1, r4.2.2.1, r4.2.2.2.1, r4.2.2.2.2, (x1 + (1 : Int32))) hf
    · have hf := fx_f h5 hf
      exact kX11_holds_b46 C hQ hf
set_option maxHeartbeats 400000 in
set_option maxRecDepth 100000 in
theorem kX11_holds_b13 {X : cxT} {l : Launch} {D : va_G} {Y : Nat → ClassId} {ao atext atold aL aC alaw aotherLaw anow atrial ahistory aguess acrewPlan amoatPlan achance : Nat → Nat} {io_wind : Int32} {io_spadeLimit : Int32} {iL_cells : Int32} {cL_base : Nat → Int32} {cL_dyke : Nat → Int32} {ilaw_length : Int32} {ilaw_at : Int32} {ilaw_sign : Int32} {ilaw_bad : Int32} {claw_codes : Nat → Int32} {claw_stack : Nat → Int32} {inow_moats : Int32} {inow_spades : Int32} {inow_tides : Int32} {cnow_wall : Nat → Int32} {cnow_depth : Nat → Int32} {cnow_mood : Nat → Int32} {cnow_place : Nat → Int32} {itold_size : Int32} {ctold_numbers : Nat → Int64} {itrial_moats : Int32} {itrial_spades : Int32} {itrial_tides : Int32} {ctrial_wall : Nat → Int32} {ctrial_depth : Nat → Int32} {ctrial_mood : Nat → Int32} {ctrial_place : Nat → Int32} {x1 : Int32} {res : Int32 × (Nat → Int32) × Int32 × (Nat → Int64) × Int32 × Int32 × Int32 × (Nat → Int32) × (Nat → Int32) × (Nat → Int32) × (Nat → Int32)} (C : axC X l D Y cX11_holds 4 RX11 wsX11_holds rmX11_holds (some .int)) (hQ : axQ X 0 0 (fun r9 w9 => r9 = (some (.int res.1)) ∧ w9 = [oX11 ao atext atold aL aC alaw aotherLaw anow atrial ahistory aguess acrewPlan amoatPlan achance io_wind io_spadeLimit, oX5 aL iL_cells, rI Y (aL 1) 12 cL_base, rI Y (aL 2) 12 cL_dyke, oX6 alaw ilaw_length ilaw_at ilaw_sign ilaw_bad, rI Y (alaw 1) 40 claw_codes, rI Y (alaw 2) 40 res.2.1, oX9 anow aL aC inow_moats inow_spades inow_tides, rI Y (anow 1) 12 cnow_wall, rI Y (anow 2) 12 cnow_depth, rI Y (anow 3) 8 cnow_mood, rI Y (anow 4) 8 cnow_place, oX8 atold res.2.2.1, rJ Y (atold 1) 12 res.2.2.2.1, oX9 atrial aL aC res.2.2.2.2.1 res.2.2.2.2.2.1 res.2.2.2.2.2.2.1, rI Y (atrial 1) 12 res.2.2.2.2.2.2.2.1, rI Y (atrial 2) 12 res.2.2.2.2.2.2.2.2.1, rI Y (atrial 3) 8 res.2.2.2.2.2.2.2.2.2.1, rI Y (atrial 4) 8 res.2.2.2.2.2.2.2.2.2.2])) (hf : fX11_holds_b13 io_wind iL_cells cL_base cL_dyke ilaw_length claw_codes claw_stack inow_moats inow_spades inow_tides cnow_wall cnow_depth cnow_mood cnow_place itold_size ctold_numbers itrial_moats itrial_spades itrial_tides ctrial_wall ctrial_depth ctrial_mood ctrial_place x1 = some res) : ax X 0 0 13 [some (.ref (ao 0)), some (.int x1), none, none] [oX11 ao atext atold aL aC alaw aotherLaw anow atrial ahistory aguess acrewPlan amoatPlan achance io_wind io_spadeLimit, oX5 aL iL_cells, rI Y (aL 1) 12 cL_base, rI Y (aL 2) 12 cL_dyke, oX6 alaw ilaw_length ilaw_at ilaw_sign ilaw_bad, rI Y (alaw 1) 40 claw_codes, rI Y (alaw 2) 40 claw_stack, oX9 anow aL aC inow_moats inow_spades inow_tides, rI Y (anow 1) 12 cnow_wall, rI Y (anow 2) 12 cnow_depth, rI Y (anow 3) 8 cnow_mood, rI Y (anow 4) 8 cnow_place, oX8 atold itold_size, rJ Y (atold 1) 12 ctold_numbers, oX9 atrial aL aC itrial_moats itrial_spades itrial_tides, rI Y (atrial 1) 12 ctrial_wall, rI Y (atrial 2) 12 ctrial_depth, rI Y (atrial 3) 8 ctrial_mood, rI Y (atrial 4) 8 ctrial_place] [] := by
  unfold fX11_holds_b13 at hf
  exact fx_loop (P := fun s : (Nat → Int32) × Int32 × Int32 × (Nat → Int32) × (Nat → Int32) × Int32 => ax X 0 0 13 [some (.ref (ao 0)), some (.int s.2.2.2.2.2), none, none] [oX11 ao atext atold aL aC alaw aotherLaw anow atrial ahistory aguess acrewPlan amoatPlan achance io_wind io_spadeLimit, oX5 aL iL_cells, rI Y (aL 1) 12 cL_base, rI Y (aL 2) 12 cL_dyke, oX6 alaw ilaw_length ilaw_at ilaw_sign ilaw_bad, rI Y (alaw 1) 40 claw_codes, rI Y (alaw 2) 40 s.1, oX9 anow aL aC inow_moats inow_spades inow_tides, rI Y (anow 1) 12 cnow_wall, rI Y (anow 2) 12 cnow_depth, rI Y (anow 3) 8 cnow_mood, rI Y (anow 4) 8 cnow_place, oX8 atold itold_size, rJ Y (atold 1) 12 ctold_numbers, oX9 atrial aL aC s.2.1 itrial_spades s.2.2.1, rI Y (atrial 1) 12 s.2.2.2.1, rI Y (atrial 2) 12 s.2.2.2.2.1, rI Y (atrial 3) 8 ctrial_mood, rI Y (atrial 4) 8 ctrial_place] []) (fun s k13 hk13 h => kX11_holds_l13 C hQ hk13 h) FUEL (claw_stack, itrial_moats, itrial_tides, ctrial_wall, ctrial_depth, x1) hf
def fX11_holds (io_wind : Int32) (iL_cells : Int32) (cL_base : Nat → Int32) (cL_dyke : Nat → Int32) (ilaw_length : Int32) (claw_codes : Nat → Int32) (claw_stack : Nat → Int32) (inow_moats : Int32) (inow_spades : Int32) (inow_tides : Int32) (cnow_wall : Nat → Int32) (cnow_depth : Nat → Int32) (cnow_mood : Nat → Int32) (cnow_place : Nat → Int32) (itold_size : Int32) (ctold_numbers : Nat → Int64) (itrial_moats : Int32) (itrial_spades : Int32) (itrial_tides : Int32) (ctrial_wall : Nat → Int32) (ctrial_depth : Nat → Int32) (ctrial_mood : Nat → Int32) (ctrial_place : Nat → Int32) : Option (Int32 × (Nat → Int32) × Int32 × (Nat → Int64) × Int32 × Int32 × Int32 × (Nat → Int32) × (Nat → Int32) × (Nat → Int32) × (Nat → Int32)) :=
  (fX9_copy itrial_moats itrial_spades itrial_tides ctrial_wall ctrial_depth ctrial_mood ctrial_place inow_moats inow_spades inow_tides cnow_wall cnow_depth cnow_mood cnow_place).bind (fun r6 => fX11_holds_b13 io_wind iL_cells cL_base cL_dyke ilaw_length claw_codes claw_stack inow_moats inow_spades inow_tides cnow_wall cnow_depth cnow_mood cnow_place itold_size ctold_numbers r6.1 r6.2.1 r6.2.2.1 r6.2.2.2.1 r6.2.2.2.2.1 r6.2.2.2.2.2.1 r6.2.2.2.2.2.2 (1 : Int32))
set_option maxHeartbeats 400000 in
set_option maxRecDepth 100000 in
theorem kX11_holds (l : Launch) (D : va_G) (Y : Nat → ClassId) (ao atext atold aL aC alaw aotherLaw anow atrial ahistory aguess acrewPlan amoatPlan achance : Nat → Nat) (io_wind : Int32) (io_spadeLimit : Int32) (iL_cells : Int32) (cL_base : Nat → Int32) (cL_dyke : Nat → Int32) (ilaw_length : Int32) (ilaw_at : Int32) (ilaw_sign : Int32) (ilaw_bad : Int32) (claw_codes : Nat → Int32) (claw_stack : Nat → Int32) (inow_moats : Int32) (inow_spades : Int32) (inow_tides : Int32) (cnow_wall : Nat → Int32) (cnow_depth : Nat → Int32) (cnow_mood : Nat → Int32) (cnow_place : Nat → Int32) (itold_size : Int32) (ctold_numbers : Nat → Int64) (itrial_moats : Int32) (itrial_spades : Int32) (itrial_tides : Int32) (ctrial_wall : Nat → Int32) (ctrial_depth : Nat → Int32) (ctrial_mood : Nat → Int32) (ctrial_place : Nat → Int32) (res : Int32 × (Nat → Int32) × Int32 × (Nat → Int64) × Int32 × Int32 × Int32 × (Nat → Int32) × (Nat → Int32) × (Nat → Int32) × (Nat → Int32)) (hf : fX11_holds io_wind iL_cells cL_base cL_dyke ilaw_length claw_codes claw_stack inow_moats inow_spades inow_tides cnow_wall cnow_depth cnow_mood cnow_place itold_size ctold_numbers itrial_moats itrial_spades itrial_tides ctrial_wall ctrial_depth ctrial_mood ctrial_place = some res) : amf l D Y yX11_holds wsX11_holds rmX11_holds [.ref (ao 0)] [oX11 ao atext atold aL aC alaw aotherLaw anow atrial ahistory aguess acrewPlan amoatPlan achance io_wind io_spadeLimit, oX5 aL iL_cells, rI Y (aL 1) 12 cL_base, rI Y (aL 2) 12 cL_dyke, oX6 alaw ilaw_length ilaw_at ilaw_sign ilaw_bad, rI Y (alaw 1) 40 claw_codes, rI Y (alaw 2) 40 claw_stack, oX9 anow aL aC inow_moats inow_spades inow_tides, rI Y (anow 1) 12 cnow_wall, rI Y (anow 2) 12 cnow_depth, rI Y (anow 3) 8 cnow_mood, rI Y (anow 4) 8 cnow_place, oX8 atold itold_size, rJ Y (atold 1) 12 ctold_numbers, oX9 atrial aL aC itrial_moats itrial_spades itrial_tides, rI Y (atrial 1) 12 ctrial_wall, rI Y (atrial 2) 12 ctrial_depth, rI Y (atrial 3) 8 ctrial_mood, rI Y (atrial 4) 8 ctrial_place] (some (.int res.1)) [oX11 ao atext atold aL aC alaw aotherLaw anow atrial ahistory aguess acrewPlan amoatPlan achance io_wind io_spadeLimit, oX5 aL iL_cells, rI Y (aL 1) 12 cL_base, rI Y (aL 2) 12 cL_dyke, oX6 alaw ilaw_length ilaw_at ilaw_sign ilaw_bad, rI Y (alaw 1) 40 claw_codes, rI Y (alaw 2) 40 res.2.1, oX9 anow aL aC inow_moats inow_spades inow_tides, rI Y (anow 1) 12 cnow_wall, rI Y (anow 2) 12 cnow_depth, rI Y (anow 3) 8 cnow_mood, rI Y (anow 4) 8 cnow_place, oX8 atold res.2.2.1, rJ Y (atold 1) 12 res.2.2.2.1, oX9 atrial aL aC res.2.2.2.2.1 res.2.2.2.2.2.1 res.2.2.2.2.2.2.1, rI Y (atrial 1) 12 res.2.2.2.2.2.2.2.1, rI Y (atrial 2) 12 res.2.2.2.2.2.2.2.2.1, rI Y (atrial 3) 8 res.2.2.2.2.2.2.2.2.2.1, rI Y (atrial 4) 8 res.2.2.2.2.2.2.2.2.2.2] := by
  refine amf.of (cc := cX11_holds) (maxL := 4) (rt := (some .int)) (by decide) rfl RX11 rfl (Nat.le_of_ble_eq_true rfl) [some (.ref (ao 0)), none, none, none] rfl ?_
  intro X C hQ
  unfold fX11_holds at hf
  refine a_aload_n C dX11_holds_0 rfl ?_
  refine a_get C eX11_holds_60 dX11_holds_1 0 rfl rfl ?_
  refine a_aload_n C dX11_holds_4 rfl ?_
  refine a_get C eX11_holds_56 dX11_holds_5 0 rfl rfl ?_
  obtain ⟨r6, h6, hf⟩ := fx_bind hf
  refine a_fV C (kX9_copy l D Y atrial aL aC anow itrial_moats itrial_spades itrial_tides ctrial_wall ctrial_depth ctrial_mood ctrial_place inow_moats inow_spades inow_tides cnow_wall cnow_depth cnow_mood cnow_place r6 h6) gX11_holds_X9_copy rfl dvX9_copy ⟨⟨rfl, rfl⟩, ⟨Nat.le_of_ble_eq_true rfl, Nat.le_of_ble_eq_true rfl⟩, ⟨Nat.le_of_ble_eq_true rfl, Nat.le_of_ble_eq_true rfl⟩⟩ rfl (Nat.le_of_ble_eq_true rfl) dX11_holds_8 rfl rfl [14, 15, 16, 17, 18, 7, 8, 9, 10, 11] [0, 1, 2, 3, 4, 5, 6, 12, 13] ⟨rfl, rfl, rfl, rfl, rfl, rfl, rfl, rfl, rfl, rfl, trivial⟩ rfl rfl [oX11 ao atext atold aL aC alaw aotherLaw anow atrial ahistory aguess acrewPlan amoatPlan achance io_wind io_spadeLimit, oX5 aL iL_cells, rI Y (aL 1) 12 cL_base, rI Y (aL 2) 12 cL_dyke, oX6 alaw ilaw_length ilaw_at ilaw_sign ilaw_bad, rI Y (alaw 1) 40 claw_codes, rI Y (alaw 2) 40 claw_stack, oX9 anow aL aC inow_moats inow_spades inow_tides, rI Y (anow 1) 12 cnow_wall, rI Y (anow 2) 12 cnow_depth, rI Y (anow 3) 8 cnow_mood, rI Y (anow 4) 8 cnow_place, oX8 atold itold_size, rJ Y (atold 1) 12 ctold_numbers, oX9 atrial aL aC r6.1 r6.2.1 r6.2.2.1, rI Y (atrial 1) 12 r6.2.2.2.1, rI Y (atrial 2) 12 r6.2.2.2.2.1, rI Y (atrial 3) 8 r6.2.2.2.2.2.1, rI Y (atrial 4) 8 r6.2.2.2.2.2.2] ⟨rfl, rfl, rfl, rfl, rfl, rfl, rfl, rfl, rfl, rfl, trivial⟩ ⟨rfl, rfl, rfl, rfl, rfl, rfl, rfl, rfl, rfl, trivial⟩ rfl ?_
  refine a_iconst C (1 : Int32) dX11_holds_11 (by decide) ?_
  refine a_istore_n C dX11_holds_12 (by decide) rfl ?_
  exact kX11_holds_b13 C hQ hf
-- X11_tides
abbrev rmX11_tides : Room := { frames := 5, cells := 0, slots := 0, locals := 116 }
theorem dvX11_tides : yX11_tides.cls = RX11 ∧ yX11_tides.cls ≠ "java/lang/invoke/MethodHandle" ∧ yX11_tides.cls ≠ "java/lang/invoke/VarHandle" ∧ (parseMethodDescriptor yX11_tides.desc).map (fun d => d.parameters.length) = some 1 := by decide +kernel
theorem eX11_tides_inX11 : ∀ w ∈ wsX110, w ∈ wsX11_tides := by decide +kernel
theorem eX11_tides_40 : aF wsX11_tides RX11 40 11 4 := ⟨RX11, TX11, 17, rfl, eX11_tides_inX11, by decide, by decide +kernel⟩
theorem eX11_tides_19 : aF wsX11_tides RX11 19 11 1 := ⟨RX11, TX11, 17, rfl, eX11_tides_inX11, by decide, by decide +kernel⟩
theorem eX11_tides_60 : aF wsX11_tides RX11 60 11 9 := ⟨RX11, TX11, 17, rfl, eX11_tides_inX11, by decide, by decide +kernel⟩
def fX11_tides (io_wind : Int32) (iL_cells : Int32) (cL_base : Nat → Int32) (cL_dyke : Nat → Int32) (ilaw_length : Int32) (claw_codes : Nat → Int32) (claw_stack : Nat → Int32) (inow_moats : Int32) (inow_spades : Int32) (inow_tides : Int32) (cnow_wall : Nat → Int32) (cnow_depth : Nat → Int32) (cnow_mood : Nat → Int32) (cnow_place : Nat → Int32) (itold_size : Int32) (ctold_numbers : Nat → Int64) (itrial_moats : Int32) (itrial_spades : Int32) (itrial_tides : Int32) (ctrial_wall : Nat → Int32) (ctrial_depth : Nat → Int32) (ctrial_mood : Nat → Int32) (ctrial_place : Nat → Int32) (x1 : Int32) : Option (Int32 × (Nat → Int32) × Int32 × (Nat → Int64) × Int32 × Int32 × Int32 × (Nat → Int32) × (Nat → Int32) × (Nat → Int32) × (Nat → Int32)) :=
  (fX11_within x1 (0 : Int32) (60 : Int32)).bind (fun r1 => if r1 = (0 : Int32) then (some ((-1 : Int32), claw_stack, itold_size, ctold_numbers, itrial_moats, itrial_spades, itrial_tides, ctrial_wall, ctrial_depth, ctrial_mood, ctrial_place)) else ((fX11_breaksOf io_wind ilaw_length claw_codes claw_stack iL_cells cL_base cL_dyke inow_moats inow_spades inow_tides cnow_wall cnow_depth cnow_mood cnow_place itrial_moats itrial_spades itrial_tides ctrial_wall ctrial_depth ctrial_mood ctrial_place x1).bind (fun r3 => (fX9_wet r3.2.2.2.2.2.2.1 iL_cells).bind (fun r4 => (fJ6_bitCount_0f7a4 r4).bind (fun r5 => (fX9_water r3.2.2.2.2.2.2.1 iL_cells).bind (fun r6 => (fX8_tell_ itold_size ctold_numbers (r5.toInt64) (r6.toInt64)).bind (fun r7 => some (r3.1, r3.2.1, r7.1, r7.2, r3.2.2.1, r3.2.2.2.1, r3.2.2.2.2.1, r3.2.2.2.2.2.1, r3.2.2.2.2.2.2.1, r3.2.2.2.2.2.2.2.1, r3.2.2.2.2.2.2.2.2))))))))
set_option maxHeartbeats 400000 in
set_option maxRecDepth 100000 in
theorem kX11_tides (l : Launch) (D : va_G) (Y : Nat → ClassId) (ao atext atold aL aC alaw aotherLaw anow atrial ahistory aguess acrewPlan amoatPlan achance : Nat → Nat) (io_wind : Int32) (io_spadeLimit : Int32) (iL_cells : Int32) (cL_base : Nat → Int32) (cL_dyke : Nat → Int32) (ilaw_length : Int32) (ilaw_at : Int32) (ilaw_sign : Int32) (ilaw_bad : Int32) (claw_codes : Nat → Int32) (claw_stack : Nat → Int32) (inow_moats : Int32) (inow_spades : Int32) (inow_tides : Int32) (cnow_wall : Nat → Int32) (cnow_depth : Nat → Int32) (cnow_mood : Nat → Int32) (cnow_place : Nat → Int32) (itold_size : Int32) (ctold_numbers : Nat → Int64) (itrial_moats : Int32) (itrial_spades : Int32) (itrial_tides : Int32) (ctrial_wall : Nat → Int32) (ctrial_depth : Nat → Int32) (ctrial_mood : Nat → Int32) (ctrial_place : Nat → Int32) (x1 : Int32) (res : Int32 × (Nat → Int32) × Int32 × (Nat → Int64) × Int32 × Int32 × Int32 × (Nat → Int32) × (Nat → Int32) × (Nat → Int32) × (Nat → Int32)) (hf : fX11_tides io_wind iL_cells cL_base cL_dyke ilaw_length claw_codes claw_stack inow_moats inow_spades inow_tides cnow_wall cnow_depth cnow_mood cnow_place itold_size ctold_numbers itrial_moats itrial_spades itrial_tides ctrial_wall ctrial_depth ctrial_mood ctrial_place x1 = some res) : amf l D Y yX11_tides wsX11_tides rmX11_tides [.ref (ao 0), .int x1] [oX11 ao atext atold aL aC alaw aotherLaw anow atrial ahistory aguess acrewPlan amoatPlan achance io_wind io_spadeLimit, oX5 aL iL_cells, rI Y (aL 1) 12 cL_base, rI Y (aL 2) 12 cL_dyke, oX6 alaw ilaw_length ilaw_at ilaw_sign ilaw_bad, rI Y (alaw 1) 40 claw_codes, rI Y (alaw 2) 40 claw_stack, oX9 anow aL aC inow_moats inow_spades inow_tides, rI Y (anow 1) 12 cnow_wall, rI Y (anow 2) 12 cnow_depth, rI Y (anow 3) 8 cnow_mood, rI Y (anow 4) 8 cnow_place, oX8 atold itold_size, rJ Y (atold 1) 12 ctold_numbers, oX9 atrial aL aC itrial_moats itrial_spades itrial_tides, rI Y (atrial 1) 12 ctrial_wall, rI Y (atrial 2) 12 ctrial_depth, rI Y (atrial 3) 8 ctrial_mood, rI Y (atrial 4) 8 ctrial_place] (some (.int res.1)) [oX11 ao atext atold aL aC alaw aotherLaw anow atrial ahistory aguess acrewPlan amoatPlan achance io_wind io_spadeLimit, oX5 aL iL_cells, rI Y (aL 1) 12 cL_base, rI Y (aL 2) 12 cL_dyke, oX6 alaw ilaw_length ilaw_at ilaw_sign ilaw_bad, rI Y (alaw 1) 40 claw_codes, rI Y (alaw 2) 40 res.2.1, oX9 anow aL aC inow_moats inow_spades inow_tides, rI Y (anow 1) 12 cnow_wall, rI Y (anow 2) 12 cnow_depth, rI Y (anow 3) 8 cnow_mood, rI Y (anow 4) 8 cnow_place, oX8 atold res.2.2.1, rJ Y (atold 1) 12 res.2.2.2.1, oX9 atrial aL aC res.2.2.2.2.1 res.2.2.2.2.2.1 res.2.2.2.2.2.2.1, rI Y (atrial 1) 12 res.2.2.2.2.2.2.2.1, rI Y (atrial 2) 12 res.2.2.2.2.2.2.2.2.1, rI Y (atrial 3) 8 res.2.2.2.2.2.2.2.2.2.1, rI Y (atrial 4) 8 res.2.2.2.2.2.2.2.2.2.2] := by
  refine amf.of (cc := cX11_tides) (maxL := 3) (rt := (some .int)) (by decide) rfl RX11 rfl (Nat.le_of_ble_eq_true rfl) [some (.ref (ao 0)), some (.int x1), none] rfl ?_
  intro X C hQ
  unfold fX11_tides at hf
  refine a_iload_n C dX11_tides_0 rfl ?_
  refine a_iconst C (0 : Int32) dX11_tides_1 (by decide) ?_
  refine a_bipush C (60 : Int32) dX11_tides_2 (by decide) ?_
  obtain ⟨r1, h1, hf⟩ := fx_bind hf
  refine a_fS C (kX11_within l D Y x1 (0 : Int32) (60 : Int32) r1 h1) gX11_tides_X11_within rfl dvX11_within ⟨⟨rfl, rfl⟩, ⟨Nat.le_of_ble_eq_true rfl, Nat.le_of_ble_eq_true rfl⟩, ⟨Nat.le_of_ble_eq_true rfl, Nat.le_of_ble_eq_true rfl⟩⟩ rfl (Nat.le_of_ble_eq_true rfl) dX11_tides_4 [] [0, 1, 2, 3, 4, 5, 6, 7, 8, 9, 10, 11, 12, 13, 14, 15, 16, 17, 18] trivial rfl rfl [oX11 ao atext atold aL aC alaw aotherLaw anow atrial ahistory aguess acrewPlan amoatPlan achance io_wind io_spadeLimit, oX5 aL iL_cells, rI Y (aL 1) 12 cL_base, rI Y (aL 2) 12 cL_dyke, oX6 alaw ilaw_length ilaw_at ilaw_sign ilaw_bad, rI Y (alaw 1) 40 claw_codes, rI Y (alaw 2) 40 claw_stack, oX9 anow aL aC inow_moats inow_spades inow_tides, rI Y (anow 1) 12 cnow_wall, rI Y (anow 2) 12 cnow_depth, rI Y (anow 3) 8 cnow_mood, rI Y (anow 4) 8 cnow_place, oX8 atold itold_size, rJ Y (atold 1) 12 ctold_numbers, oX9 atrial aL aC itrial_moats itrial_spades itrial_tides, rI Y (atrial 1) 12 ctrial_wall, rI Y (atrial 2) 12 ctrial_depth, rI Y (atrial 3) 8 ctrial_mood, rI Y (atrial 4) 8 ctrial_place] trivial ⟨rfl, rfl, rfl, rfl, rfl, rfl, rfl, rfl, rfl, rfl, rfl, rfl, rfl, rfl, rfl, rfl, rfl, rfl, rfl, trivial⟩ rfl ?_
  refine a_if_ne C 12 dX11_tides_7 (by decide) (fun h2 => ?_) (fun h2 => ?_)
  · have hf := fx_f h2 hf
    refine a_aload_n C dX11_tides_12 rfl ?_
    refine a_aload_n C dX11_tides_13 rfl ?_
    refine a_get C eX11_tides_40 dX11_tides_14 0 rfl rfl ?_
    refine a_iload_n C dX11_tides_17 rfl ?_
    obtain ⟨r3, h3, hf⟩ := fx_bind hf
    refine a_fV C (kX11_breaksOf l D Y ao atext atold aL aC alaw aotherLaw anow atrial ahistory aguess acrewPlan amoatPlan achance alaw io_wind io_spadeLimit ilaw_length ilaw_at ilaw_sign ilaw_bad claw_codes claw_stack iL_cells cL_base cL_dyke inow_moats inow_spades inow_tides cnow_wall cnow_depth cnow_mood cnow_place itrial_moats itrial_spades itrial_tides ctrial_wall ctrial_depth ctrial_mood ctrial_place x1 r3 h3) gX11_tides_X11_breaksOf rfl dvX11_breaksOf ⟨⟨rfl, rfl⟩, ⟨Nat.le_of_ble_eq_true rfl, Nat.le_of_ble_eq_true rfl⟩, ⟨Nat.le_of_ble_eq_true rfl, Nat.le_of_ble_eq_true rfl⟩⟩ rfl (Nat.le_of_ble_eq_true rfl) dX11_tides_18 rfl rfl [0, 4, 5, 6, 1, 2, 3, 7, 8, 9, 10, 11, 14, 15, 16, 17, 18] [12, 13] ⟨rfl, rfl, rfl, rfl, rfl, rfl, rfl, rfl, rfl, rfl, rfl, rfl, rfl, rfl, rfl, rfl, rfl, trivial⟩ rfl rfl [oX11 ao atext atold aL aC alaw aotherLaw anow atrial ahistory aguess acrewPlan amoatPlan achance io_wind io_spadeLimit, oX5 aL iL_cells, rI Y (aL 1) 12 cL_base, rI Y (aL 2) 12 cL_dyke, oX6 alaw ilaw_length ilaw_at ilaw_sign ilaw_bad, rI Y (alaw 1) 40 claw_codes, rI Y (alaw 2) 40 r3.2.1, oX9 anow aL aC inow_moats inow_spades inow_tides, rI Y (anow 1) 12 cnow_wall, rI Y (anow 2) 12 cnow_depth, rI Y (anow 3) 8 cnow_mood, rI Y (anow 4) 8 cnow_place, oX8 atold itold_size, rJ Y (atold 1) 12 ctold_numbers, oX9 atrial aL aC r3.2.2.1 r3.2.2.2.1 r3.2.2.2.2.1, rI Y (atrial 1) 12 r3.2.2.2.2.2.1, rI Y (atrial 2) 12 r3.2.2.2.2.2.2.1, rI Y (atrial 3) 8 r3.2.2.2.2.2.2.2.1, rI Y (atrial 4) 8 r3.2.2.2.2.2.2.2.2] ⟨rfl, rfl, rfl, rfl, rfl, rfl, rfl, rfl, rfl, rfl, rfl, rfl, rfl, rfl, rfl, rfl, rfl, trivial⟩ ⟨rfl, rfl, trivial⟩ rfl ?_
    refine a_istore_n C dX11_tides_21 (by decide) rfl ?_
    refine a_aload_n C dX11_tides_22 rfl ?_
    refine a_get C eX11_tides_19 dX11_tides_23 0 rfl rfl ?_
    refine a_aload_n C dX11_tides_26 rfl ?_
    refine a_get C eX11_tides_60 dX11_tides_27 0 rfl rfl ?_
    obtain ⟨r4, h4, hf⟩ := fx_bind hf
    refine a_fV C (kX9_wet l D Y atrial aL aC r3.2.2.1 r3.2.2.2.1 r3.2.2.2.2.1 r3.2.2.2.2.2.2.1 iL_cells r4 h4) gX11_tides_X9_wet rfl dvX9_wet ⟨⟨rfl, rfl⟩, ⟨Nat.le_of_ble_eq_true rfl, Nat.le_of_ble_eq_true rfl⟩, ⟨Nat.le_of_ble_eq_true rfl, Nat.le_of_ble_eq_true rfl⟩⟩ rfl (Nat.le_of_ble_eq_true rfl) dX11_tides_30 rfl rfl [14, 16, 1] [0, 2, 3, 4, 5, 6, 7, 8, 9, 10, 11, 12, 13, 15, 17, 18] ⟨rfl, rfl, rfl, trivial⟩ rfl rfl [oX11 ao atext atold aL aC alaw aotherLaw anow atrial ahistory aguess acrewPlan amoatPlan achance io_wind io_spadeLimit, oX5 aL iL_cells, rI Y (aL 1) 12 cL_base, rI Y (aL 2) 12 cL_dyke, oX6 alaw ilaw_length ilaw_at ilaw_sign ilaw_bad, rI Y (alaw 1) 40 claw_codes, rI Y (alaw 2) 40 r3.2.1, oX9 anow aL aC inow_moats inow_spades inow_tides, rI Y (anow 1) 12 cnow_wall, rI Y (anow 2) 12 cnow_depth, rI Y (anow 3) 8 cnow_mood, rI Y (anow 4) 8 cnow_place, oX8 atold itold_size, rJ Y (atold 1) 12 ctold_numbers, oX9 atrial aL aC r3.2.2.1 r3.2.2.2.1 r3.2.2.2.2.1, rI Y (atrial 1) 12 r3.2.2.2.2.2.1, rI Y (atrial 2) 12 r3.2.2.2.2.2.2.1, rI Y (atrial 3) 8 r3.2.2.2.2.2.2.2.1, rI Y (atrial 4) 8 r3.2.2.2.2.2.2.2.2] ⟨rfl, rfl, rfl, trivial⟩ ⟨rfl, rfl, rfl, rfl, rfl, rfl, rfl, rfl, rfl, rfl, rfl, rfl, rfl, rfl, rfl, rfl, trivial⟩ rfl ?_
    obtain ⟨r5, h5, hf⟩ := fx_bind hf
    refine a_fS C (kJ6_bitCount_0f7a4 l D Y r4 r5 h5) gX11_tides_J6_bitCount_0f7a4 rfl dvJ6_bitCount_0f7a4 ⟨⟨rfl, rfl⟩, ⟨Nat.le_of_ble_eq_true rfl, Nat.le_of_ble_eq_true rfl⟩, ⟨Nat.le_of_ble_eq_true rfl, Nat.le_of_ble_eq_true rfl⟩⟩ rfl (Nat.le_of_ble_eq_true rfl) dX11_tides_33 [] [0, 1, 2, 3, 4, 5, 6, 7, 8, 9, 10, 11, 12, 13, 14, 15, 16, 17, 18] trivial rfl rfl [oX11 ao atext atold aL aC alaw aotherLaw anow atrial ahistory aguess acrewPlan amoatPlan achance io_wind io_spadeLimit, oX5 aL iL_cells, rI Y (aL 1) 12 cL_base, rI Y (aL 2) 12 cL_dyke, oX6 alaw ilaw_length ilaw_at ilaw_sign ilaw_bad, rI Y (alaw 1) 40 claw_codes, rI Y (alaw 2) 40 r3.2.1, oX9 anow aL aC inow_moats inow_spades inow_tides, rI Y (anow 1) 12 cnow_wall, rI Y (anow 2) 12 cnow_depth, rI Y (anow 3) 8 cnow_mood, rI Y (anow 4) 8 cnow_place, oX8 atold itold_size, rJ Y (atold 1) 12 ctold_numbers, oX9 atrial aL aC r3.2.2.1 r3.2.2.2.1 r3.2.2.2.2.1, rI Y (atrial 1) 12 r3.2.2.2.2.2.1, rI Y (atrial 2) 12 r3.2.2.2.2.2.2.1, rI Y (atrial 3) 8 r3.2.2.2.2.2.2.2.1, rI Y (atrial 4) 8 r3.2.2.2.2.2.2.2.2] trivial ⟨rfl, rfl, rfl, rfl, rfl, rfl, rfl, rfl, rfl, rfl, rfl, rfl, rfl, rfl, rfl, rfl, rfl, rfl, rfl, trivial⟩ rfl ?_
    refine a_i2l C dX11_tides_36 ?_
    refine a_aload_n C dX11_tides_37 rfl ?_
    refine a_get C eX11_tides_60 dX11_tides_38 0 rfl rfl ?_
    obtain ⟨r6, h6, hf⟩ := fx_bind hf
    refine a_fV C (kX9_water l D Y atrial aL aC r3.2.2.1 r3.2.2.2.1 r3.2.2.2.2.1 r3.2.2.2.2.2.2.1 iL_cells r6 h6) gX11_tides_X9_water rfl dvX9_water ⟨⟨rfl, rfl⟩, ⟨Nat.le_of_ble_eq_true rfl, Nat.le_of_ble_eq_true rfl⟩, ⟨Nat.le_of_ble_eq_true rfl, Nat.le_of_ble_eq_true rfl⟩⟩ rfl (Nat.le_of_ble_eq_true rfl) dX11_tides_41 rfl rfl [14, 16, 1] [0, 2, 3, 4, 5, 6, 7, 8, 9, 10, 11, 12, 13, 15, 17, 18] ⟨rfl, rfl, rfl, trivial⟩ rfl rfl [oX11 ao atext atold aL aC alaw aotherLaw anow atrial ahistory aguess acrewPlan amoatPlan achance io_wind io_spadeLimit, oX5 aL iL_cells, rI Y (aL 1) 12 cL_base, rI Y (aL 2) 12 cL_dyke, oX6 alaw ilaw_length ilaw_at ilaw_sign ilaw_bad, rI Y (alaw 1) 40 claw_codes, rI Y (alaw 2) 40 r3.2.1, oX9 anow aL aC inow_moats inow_spades inow_tides, rI Y (anow 1) 12 cnow_wall, rI Y (anow 2) 12 cnow_depth, rI Y (anow 3) 8 cnow_mood, rI Y (anow 4) 8 cnow_place, oX8 atold itold_size, rJ Y (atold 1) 12 ctold_numbers, oX9 atrial aL aC r3.2.2.1 r3.2.2.2.1 r3.2.2.2.2.1, rI Y (atrial 1) 12 r3.2.2.2.2.2.1, rI Y (atrial 2) 12 r3.2.2.2.2.2.2.1, rI Y (atrial 3) 8 r3.2.2.2.2.2.2.2.1, rI Y (atrial 4) 8 r3.2.2.2.2.2.2.2.2] ⟨rfl, rfl, rfl, trivial⟩ ⟨rfl, rfl, rfl, rfl, rfl, rfl, rfl, rfl, rfl, rfl, rfl, rfl, rfl, rfl, rfl, rfl, trivial⟩ rfl ?_
    refine a_i2l C dX11_tides_44 ?_
    obtain ⟨r7, h7, hf⟩ := fx_bind hf
    refine a_fV C (kX8_tell_ l D Y atold itold_size ctold_numbers (r5.toInt64) (r6.toInt64) r7 h7) gX11_tides_X8_tell_ rfl dvX8_tell_ ⟨⟨rfl, rfl⟩, ⟨Nat.le_of_ble_eq_true rfl, Nat.le_of_ble_eq_true rfl⟩, ⟨Nat.le_of_ble_eq_true rfl, Nat.le_of_ble_eq_true rfl⟩⟩ rfl (Nat.le_of_ble_eq_true rfl) dX11_tides_45 rfl rfl [12, 13] [0, 1, 2, 3, 4, 5, 6, 7, 8, 9, 10, 11, 14, 15, 16, 17, 18] ⟨rfl, rfl, trivial⟩ rfl rfl [oX11 ao atext atold aL aC alaw aotherLaw anow atrial ahistory aguess acrewPlan amoatPlan achance io_wind io_spadeLimit, oX5 aL iL_cells, rI Y (aL 1) 12 cL_base, rI Y (aL 2) 12 cL_dyke, oX6 alaw ilaw_length ilaw_at ilaw_sign ilaw_bad, rI Y (alaw 1) 40 claw_codes, rI Y (alaw 2) 40 r3.2.1, oX9 anow aL aC inow_moats inow_spades inow_tides, rI Y (anow 1) 12 cnow_wall, rI Y (anow 2) 12 cnow_depth, rI Y (anow 3) 8 cnow_mood, rI Y (anow 4) 8 cnow_place, oX8 atold r7.1, rJ Y (atold 1) 12 r7.2, oX9 atrial aL aC r3.2.2.1 r3.2.2.2.1 r3.2.2.2.2.1, rI Y (atrial 1) 12 r3.2.2.2.2.2.1, rI Y (atrial 2) 12 r3.2.2.2.2.2.2.1, rI Y (atrial 3) 8 r3.2.2.2.2.2.2.2.1, rI Y (atrial 4) 8 r3.2.2.2.2.2.2.2.2] ⟨rfl, rfl, trivial⟩ ⟨rfl, rfl, rfl, rfl, rfl, rfl, rfl, rfl, rfl, rfl, rfl, rfl, rfl, rfl, rfl, rfl, rfl, trivial⟩ rfl ?_
    refine a_iload_n C dX11_tides_48 rfl ?_
    obtain rfl := fx_some hf
    exact a_iret C hQ dX11_tides_49 ⟨rfl, rfl⟩
  · have hf := fx_t h2 hf
    refine a_iconst C (-1 : Int32) dX11_tides_10 (by decide) ?_
    obtain rfl := fx_some hf
    exact a_iret C hQ dX11_tides_11 ⟨rfl, rfl⟩
-- X11_spells
abbrev rmX11_spells : Room := { frames := 4, cells := 0, slots := 0, locals := 92 }
theorem dvX11_spells : yX11_spells.cls = RX11 ∧ yX11_spells.cls ≠ "java/lang/invoke/MethodHandle" ∧ yX11_spells.cls ≠ "java/lang/invoke/VarHandle" ∧ (parseMethodDescriptor yX11_spells.desc).map (fun d => d.parameters.length) = some 0 := by decide +kernel
theorem eX11_spells_inX11 : ∀ w ∈ wsX110, w ∈ wsX11_spells := by decide +kernel
theorem eX11_spells_60 : aF wsX11_spells RX11 60 11 9 := ⟨RX11, TX11, 17, rfl, eX11_spells_inX11, by decide, by decide +kernel⟩
theorem eX11_spells_40 : aF wsX11_spells RX11 40 11 4 := ⟨RX11, TX11, 17, rfl, eX11_spells_inX11, by decide, by decide +kernel⟩
theorem eX11_spells_56 : aF wsX11_spells RX11 56 11 8 := ⟨RX11, TX11, 17, rfl, eX11_spells_inX11, by decide, by decide +kernel⟩
def fX11_spells_b59 (io_wind : Int32) (iC_size : Int32) (cC_age : Nat → Int32) (cC_skill : Nat → Int32) (cC_pals : Nat → Int32) (iL_cells : Int32) (cL_base : Nat → Int32) (ilaw_length : Int32) (claw_codes : Nat → Int32) (claw_stack : Nat → Int32) (inow_moats : Int32) (inow_spades : Int32) (inow_tides : Int32) (cnow_wall : Nat → Int32) (cnow_depth : Nat → Int32) (cnow_mood : Nat → Int32) (cnow_place : Nat → Int32) (itrial_moats : Int32) (itrial_spades : Int32) (itrial_tides : Int32) (ctrial_wall : Nat → Int32) (ctrial_depth : Nat → Int32) (ctrial_mood : Nat → Int32) (ctrial_place : Nat → Int32) : Option (Int32 × (Nat → Int32) × Int32 × Int32 × Int32 × (Nat → Int32) × (Nat → Int32) × (Nat → Int32) × (Nat → Int32)) :=
  some ((-2 : Int32), claw_stack, itrial_moats, itrial_spades, itrial_tides, ctrial_wall, ctrial_depth, ctrial_mood, ctrial_place)
set_option maxHeartbeats 400000 in
set_option maxRecDepth 100000 in
theorem kX11_spells_b59 {X : cxT} {l : Launch} {D : va_G} {Y : Nat → ClassId} {ao atext atold aL aC alaw aotherLaw anow atrial ahistory aguess acrewPlan amoatPlan achance : Nat → Nat} {io_wind : Int32} {io_spadeLimit : Int32} {iC_size : Int32} {cC_age : Nat → Int32} {cC_skill : Nat → Int32} {cC_pals : Nat → Int32} {iL_cells : Int32} {cL_base : Nat → Int32} {ilaw_length : Int32} {ilaw_at : Int32} {ilaw_sign : Int32} {ilaw_bad : Int32} {claw_codes : Nat → Int32} {claw_stack : Nat → Int32} {inow_moats : Int32} {inow_spades : Int32} {inow_tides : Int32} {cnow_wall : Nat → Int32} {cnow_depth : Nat → Int32} {cnow_mood : Nat → Int32} {cnow_place : Nat → Int32} {itrial_moats : Int32} {itrial_spades : Int32} {itrial_tides : Int32} {ctrial_wall : Nat → Int32} {ctrial_depth : Nat → Int32} {ctrial_mood : Nat → Int32} {ctrial_place : Nat → Int32} {res : Int32 × (Nat → Int32) × Int32 × Int32 × Int32 × (Nat → Int32) × (Nat → Int32) × (Nat → Int32) × (Nat → Int32)} (C : axC X l D Y cX11_spells 3 RX11 wsX11_spells rmX11_spells (some .int)) (hQ : axQ X 0 0 (fun r9 w9 => r9 = (some (.int res.1)) ∧ w9 = [oX11 ao atext atold aL aC alaw aotherLaw anow atrial ahistory aguess acrewPlan amoatPlan achance io_wind io_spadeLimit, oX2 aC iC_size, rI Y (aC 1) 8 cC_age, rI Y (aC 2) 8 cC_skill, rI Y (aC 4) 8 cC_pals, oX5 aL iL_cells, rI Y (aL 1) 12 cL_base, oX6 alaw ilaw_length ilaw_at ilaw_sign ilaw_bad, rI Y (alaw 1) 40 claw_codes, rI Y (alaw 2) 40 res.2.1, oX9 anow aL aC inow_moats inow_spades inow_tides, rI Y (anow 1) 12 cnow_wall, rI Y (anow 2) 12 cnow_depth, rI Y (anow 3) 8 cnow_mood, rI Y (anow 4) 8 cnow_place, oX9 atrial aL aC res.2.2.1 res.2.2.2.1 res.2.2.2.2.1, rI Y (atrial 1) 12 res.2.2.2.2.2.1, rI Y (atrial 2) 12 res.2.2.2.2.2.2.1, rI Y (atrial 3) 8 res.2.2.2.2.2.2.2.1, rI Y (atrial 4) 8 res.2.2.2.2.2.2.2.2])) (hf : fX11_spells_b59 io_wind iC_size cC_age cC_skill cC_pals iL_cells cL_base ilaw_length claw_codes claw_stack inow_moats inow_spades inow_tides cnow_wall cnow_depth cnow_mood cnow_place itrial_moats itrial_spades itrial_tides ctrial_wall ctrial_depth ctrial_mood ctrial_place = some res) : ax X 0 0 59 [none, none, none] [oX11 ao atext atold aL aC alaw aotherLaw anow atrial ahistory aguess acrewPlan amoatPlan achance io_wind io_spadeLimit, oX2 aC iC_size, rI Y (aC 1) 8 cC_age, rI Y (aC 2) 8 cC_skill, rI Y (aC 4) 8 cC_pals, oX5 aL iL_cells, rI Y (aL 1) 12 cL_base, oX6 alaw ilaw_length ilaw_at ilaw_sign ilaw_bad, rI Y (alaw 1) 40 claw_codes, rI Y (alaw 2) 40 claw_stack, oX9 anow aL aC inow_moats inow_spades inow_tides, rI Y (anow 1) 12 cnow_wall, rI Y (anow 2) 12 cnow_depth, rI Y (anow 3) 8 cnow_mood, rI Y (anow 4) 8 cnow_place, oX9 atrial aL aC itrial_moats itrial_spades itrial_tides, rI Y (atrial 1) 12 ctrial_wall, rI Y (atrial 2) 12 ctrial_depth, rI Y (atrial 3) 8 ctrial_mood, rI Y (atrial 4) 8 ctrial_place] [] := by
  unfold fX11_spells_b59 at hf
  refine a_bipush C (-2 : Int32) dX11_spells_59 (by decide) ?_
  obtain rfl := fx_some hf
  exact a_iret C hQ dX11_spells_61 ⟨rfl, rfl⟩
def fX11_spells_b44 (io_wind : Int32) (iC_size : Int32) (cC_age : Nat → Int32) (cC_skill : Nat → Int32) (cC_pals : Nat → Int32) (iL_cells : Int32) (cL_base : Nat → Int32) (ilaw_length : Int32) (claw_codes : Nat → Int32) (claw_stack : Nat → Int32) (inow_moats : Int32) (inow_spades : Int32) (inow_tides : Int32) (cnow_wall : Nat → Int32) (cnow_depth : Nat → Int32) (cnow_mood : Nat → Int32) (cnow_place : Nat → Int32) (itrial_moats : Int32) (itrial_spades : Int32) (itrial_tides : Int32) (ctrial_wall : Nat → Int32) (ctrial_depth : Nat → Int32) (ctrial_mood : Nat → Int32) (ctrial_place : Nat → Int32) (x2 : Int32) : Option (Int32 × (Nat → Int32) × Int32 × Int32 × Int32 × (Nat → Int32) × (Nat → Int32) × (Nat → Int32) × (Nat → Int32)) :=
  some (x2, claw_stack, itrial_moats, itrial_spades, itrial_tides, ctrial_wall, ctrial_depth, ctrial_mood, ctrial_place)
set_option maxHeartbeats 400000 in
set_option maxRecDepth 100000 in
theorem kX11_spells_b44 {X : cxT} {l : Launch} {D : va_G} {Y : Nat → ClassId} {ao atext atold aL aC alaw aotherLaw anow atrial ahistory aguess acrewPlan amoatPlan achance : Nat → Nat} {io_wind : Int32} {io_spadeLimit : Int32} {iC_size : Int32} {cC_age : Nat → Int32} {cC_skill : Nat → Int32} {cC_pals : Nat → Int32} {iL_cells : Int32} {cL_base : Nat → Int32} {ilaw_length : Int32} {ilaw_at : Int32} {ilaw_sign : Int32} {ilaw_bad : Int32} {claw_codes : Nat → Int32} {claw_stack : Nat → Int32} {inow_moats : Int32} {inow_spades : Int32} {inow_tides : Int32} {cnow_wall : Nat → Int32} {cnow_depth : Nat → Int32} {cnow_mood : Nat → Int32} {cnow_place : Nat → Int32} {itrial_moats : Int32} {itrial_spades : Int32} {itrial_tides : Int32} {ctrial_wall : Nat → Int32} {ctrial_depth : Nat → Int32} {ctrial_mood : Nat → Int32} {ctrial_place : Nat → Int32} {x2 : Int32} {res : Int32 × (Nat → Int32) × Int32 × Int32 × Int32 × (Nat → Int32) × (Nat → Int32) × (Nat → Int32) × (Nat → Int32)} (C : axC X l D Y cX11_spells 3 RX11 wsX11_spells rmX11_spells (some .int)) (hQ : axQ X 0 0 (fun r9 w9 => r9 = (some (.int res.1)) ∧ w9 = [oX11 ao atext atold aL aC alaw aotherLaw anow atrial ahistory aguess acrewPlan amoatPlan achance io_wind io_spadeLimit, oX2 aC iC_size, rI Y (aC 1) 8 cC_age, rI Y (aC 2) 8 cC_skill, rI Y (aC 4) 8 cC_pals, oX5 aL iL_cells, rI Y (aL 1) 12 cL_base, oX6 alaw ilaw_length ilaw_at ilaw_sign ilaw_bad, rI Y (alaw 1) 40 claw_codes, rI Y (alaw 2) 40 res.2.1, oX9 anow aL aC inow_moats inow_spades inow_tides, rI Y (anow 1) 12 cnow_wall, rI Y (anow 2) 12 cnow_depth, rI Y (anow 3) 8 cnow_mood, rI Y (anow 4) 8 cnow_place, oX9 atrial aL aC res.2.2.1 res.2.2.2.1 res.2.2.2.2.1, rI Y (atrial 1) 12 res.2.2.2.2.2.1, rI Y (atrial 2) 12 res.2.2.2.2.2.2.1, rI Y (atrial 3) 8 res.2.2.2.2.2.2.2.1, rI Y (atrial 4) 8 res.2.2.2.2.2.2.2.2])) (hf : fX11_spells_b44 io_wind iC_size cC_age cC_skill cC_pals iL_cells cL_base ilaw_length claw_codes claw_stack inow_moats inow_spades inow_tides cnow_wall cnow_depth cnow_mood cnow_place itrial_moats itrial_spades itrial_tides ctrial_wall ctrial_depth ctrial_mood ctrial_place x2 = some res) : ax X 0 0 44 [none, none, some (.int x2)] [oX11 ao atext atold aL aC alaw aotherLaw anow atrial ahistory aguess acrewPlan amoatPlan achance io_wind io_spadeLimit, oX2 aC iC_size, rI Y (aC 1) 8 cC_age, rI Y (aC 2) 8 cC_skill, rI Y (aC 4) 8 cC_pals, oX5 aL iL_cells, rI Y (aL 1) 12 cL_base, oX6 alaw ilaw_length ilaw_at ilaw_sign ilaw_bad, rI Y (alaw 1) 40 claw_codes, rI Y (alaw 2) 40 claw_stack, oX9 anow aL aC inow_moats inow_spades inow_tides, rI Y (anow 1) 12 cnow_wall, rI Y (anow 2) 12 cnow_depth, rI Y (anow 3) 8 cnow_mood, rI Y (anow 4) 8 cnow_place, oX9 atrial aL aC itrial_moats itrial_spades itrial_tides, rI Y (atrial 1) 12 ctrial_wall, rI Y (atrial 2) 12 ctrial_depth, rI Y (atrial 3) 8 ctrial_mood, rI Y (atrial 4) 8 ctrial_place] [] := by
  unfold fX11_spells_b44 at hf
  refine a_iload_n C dX11_spells_44 rfl ?_
  obtain rfl := fx_some hf
  exact a_iret C hQ dX11_spells_45 ⟨rfl, rfl⟩
def fX11_spells_l27 (io_wind : Int32) (iC_size : Int32) (cC_age : Nat → Int32) (cC_skill : Nat → Int32) (cC_pals : Nat → Int32) (iL_cells : Int32) (cL_base : Nat → Int32) (ilaw_length : Int32) (claw_codes : Nat → Int32) (claw_stack : Nat → Int32) (inow_moats : Int32) (inow_spades : Int32) (inow_tides : Int32) (cnow_wall : Nat → Int32) (cnow_depth : Nat → Int32) (cnow_mood : Nat → Int32) (cnow_place : Nat → Int32) (itrial_moats : Int32) (itrial_spades : Int32) (itrial_tides : Int32) (ctrial_depth : Nat → Int32) (x1 : Int32) (k27 : (Nat → Int32) × (Nat → Int32) × (Nat → Int32) × Int32 → Option (Int32 × (Nat → Int32) × Int32 × Int32 × Int32 × (Nat → Int32) × (Nat → Int32) × (Nat → Int32) × (Nat → Int32))) (ctrial_wall : Nat → Int32) (ctrial_mood : Nat → Int32) (ctrial_place : Nat → Int32) (x2 : Int32) : Option (Int32 × (Nat → Int32) × Int32 × Int32 × Int32 × (Nat → Int32) × (Nat → Int32) × (Nat → Int32) × (Nat → Int32)) :=
  if (30 : Int32) < x2 then (fX11_spells_b59 io_wind iC_size cC_age cC_skill cC_pals iL_cells cL_base ilaw_length claw_codes claw_stack inow_moats inow_spades inow_tides cnow_wall cnow_depth cnow_mood cnow_place itrial_moats itrial_spades itrial_tides ctrial_wall ctrial_depth ctrial_mood ctrial_place) else ((fX9_below ctrial_wall iL_cells cL_base x1).bind (fun r2 => if r2 = (0 : Int32) then (fX11_spells_b44 io_wind iC_size cC_age cC_skill cC_pals iL_cells cL_base ilaw_length claw_codes claw_stack inow_moats inow_spades inow_tides cnow_wall cnow_depth cnow_mood cnow_place itrial_moats itrial_spades itrial_tides ctrial_wall ctrial_depth ctrial_mood ctrial_place x2) else ((fX9_spell itrial_spades ctrial_wall ctrial_mood ctrial_place iC_size cC_age cC_skill cC_pals iL_cells).bind (fun r4 => k27 (r4.1, r4.2.1, r4.2.2, (x2 + (1 : Int32)))))))
def fX11_spells_b27 (io_wind : Int32) (iC_size : Int32) (cC_age : Nat → Int32) (cC_skill : Nat → Int32) (cC_pals : Nat → Int32) (iL_cells : Int32) (cL_base : Nat → Int32) (ilaw_length : Int32) (claw_codes : Nat → Int32) (claw_stack : Nat → Int32) (inow_moats : Int32) (inow_spades : Int32) (inow_tides : Int32) (cnow_wall : Nat → Int32) (cnow_depth : Nat → Int32) (cnow_mood : Nat → Int32) (cnow_place : Nat → Int32) (itrial_moats : Int32) (itrial_spades : Int32) (itrial_tides : Int32) (ctrial_wall : Nat → Int32) (ctrial_depth : Nat → Int32) (ctrial_mood : Nat → Int32) (ctrial_place : Nat → Int32) (x1 : Int32) (x2 : Int32) : Option (Int32 × (Nat → Int32) × Int32 × Int32 × Int32 × (Nat → Int32) × (Nat → Int32) × (Nat → Int32) × (Nat → Int32)) :=
  loopN (fun (s : (Nat → Int32) × (Nat → Int32) × (Nat → Int32) × Int32) k27 => fX11_spells_l27 io_wind iC_size cC_age cC_skill cC_pals iL_cells cL_base ilaw_length claw_codes claw_stack inow_moats inow_spades inow_tides cnow_wall cnow_depth cnow_mood cnow_place itrial_moats itrial_spades itrial_tides ctrial_depth x1 k27 s.1 s.2.1 s.2.2.1 s.2.2.2) FUEL (ctrial_wall, ctrial_mood, ctrial_place, x2)
set_option maxHeartbeats 400000 in
set_option maxRecDepth 100000 in
theorem kX11_spells_l27 {X : cxT} {l : Launch} {D : va_G} {Y : Nat → ClassId} {ao atext atold aL aC alaw aotherLaw anow atrial ahistory aguess acrewPlan amoatPlan achance : Nat → Nat} {io_wind : Int32} {io_spadeLimit : Int32} {iC_size : Int32} {cC_age : Nat → Int32} {cC_skill : Nat → Int32} {cC_pals : Nat → Int32} {iL_cells : Int32} {cL_base : Nat → Int32} {ilaw_length : Int32} {ilaw_at : Int32} {ilaw_sign : Int32} {ilaw_bad : Int32} {claw_codes : Nat → Int32} {claw_stack : Nat → Int32} {inow_moats : Int32} {inow_spades : Int32} {inow_tides : Int32} {cnow_wall : Nat → Int32} {cnow_depth : Nat → Int32} {cnow_mood : Nat → Int32} {cnow_place : Nat → Int32} {itrial_moats : Int32} {itrial_spades : Int32} {itrial_tides : Int32} {ctrial_wall : Nat → Int32} {ctrial_depth : Nat → Int32} {ctrial_mood : Nat → Int32} {ctrial_place : Nat → Int32} {x1 : Int32} {x2 : Int32} {res : Int32 × (Nat → Int32) × Int32 × Int32 × Int32 × (Nat → Int32) × (Nat → Int32) × (Nat → Int32) × (Nat → Int32)} (C : axC X l D Y cX11_spells 3 RX11 wsX11_spells rmX11_spells (some .int)) (hQ : axQ X 0 0 (fun r9 w9 => r9 = (some (.int res.1)) ∧ w9 = [oX11 ao atext atold aL aC alaw aotherLaw anow atrial ahistory aguess acrewPlan amoatPlan achance io_wind io_spadeLimit, oX2 aC iC_size, rI Y (aC 1) 8 cC_age, rI Y (aC 2) 8 cC_skill, rI Y (aC 4) 8 cC_pals, oX5 aL iL_cells, rI Y (aL 1) 12 cL_base, oX6 alaw ilaw_length ilaw_at ilaw_sign ilaw_bad, rI Y (alaw 1) 40 claw_codes, rI Y (alaw 2) 40 res.2.1, oX9 anow aL aC inow_moats inow_spades inow_tides, rI Y (anow 1) 12 cnow_wall, rI Y (anow 2) 12 cnow_depth, rI Y (anow 3) 8 cnow_mood, rI Y (anow 4) 8 cnow_place, oX9 atrial aL aC res.2.2.1 res.2.2.2.1 res.2.2.2.2.1, rI Y (atrial 1) 12 res.2.2.2.2.2.1, rI Y (atrial 2) 12 res.2.2.2.2.2.2.1, rI Y (atrial 3) 8 res.2.2.2.2.2.2.2.1, rI Y (atrial 4) 8 res.2.2.2.2.2.2.2.2])) {k27 : (Nat → Int32) × (Nat → Int32) × (Nat → Int32) × Int32 → Option (Int32 × (Nat → Int32) × Int32 × Int32 × Int32 × (Nat → Int32) × (Nat → Int32) × (Nat → Int32) × (Nat → Int32))} (hk27 : ∀ s : (Nat → Int32) × (Nat → Int32) × (Nat → Int32) × Int32, k27 s = some res → ax X 0 0 27 [some (.ref (ao 0)), some (.int x1), some (.int s.2.2.2)] [oX11 ao atext atold aL aC alaw aotherLaw anow atrial ahistory aguess acrewPlan amoatPlan achance io_wind io_spadeLimit, oX2 aC iC_size, rI Y (aC 1) 8 cC_age, rI Y (aC 2) 8 cC_skill, rI Y (aC 4) 8 cC_pals, oX5 aL iL_cells, rI Y (aL 1) 12 cL_base, oX6 alaw ilaw_length ilaw_at ilaw_sign ilaw_bad, rI Y (alaw 1) 40 claw_codes, rI Y (alaw 2) 40 claw_stack, oX9 anow aL aC inow_moats inow_spades inow_tides, rI Y (anow 1) 12 cnow_wall, rI Y (anow 2) 12 cnow_depth, rI Y (anow 3) 8 cnow_mood, rI Y (anow 4) 8 cnow_place, oX9 atrial aL aC itrial_moats itrial_spades itrial_tides, rI Y (atrial 1) 12 s.1, rI Y (atrial 2) 12 ctrial_depth, rI Y (atrial 3) 8 s.2.1, rI Y (atrial 4) 8 s.2.2.1] []) (hf : fX11_spells_l27 io_wind iC_size cC_age cC_skill cC_pals iL_cells cL_base ilaw_length claw_codes claw_stack inow_moats inow_spades inow_tides cnow_wall cnow_depth cnow_mood cnow_place itrial_moats itrial_spades itrial_tides ctrial_depth x1 k27 ctrial_wall ctrial_mood ctrial_place x2 = some res) : ax X 0 0 27 [some (.ref (ao 0)), some (.int x1), some (.int x2)] [oX11 ao atext atold aL aC alaw aotherLaw anow atrial ahistory aguess acrewPlan amoatPlan achance io_wind io_spadeLimit, oX2 aC iC_size, rI Y (aC 1) 8 cC_age, rI Y (aC 2) 8 cC_skill, rI Y (aC 4) 8 cC_pals, oX5 aL iL_cells, rI Y (aL 1) 12 cL_base, oX6 alaw ilaw_length ilaw_at ilaw_sign ilaw_bad, rI Y (alaw 1) 40 claw_codes, rI Y (alaw 2) 40 claw_stack, oX9 anow aL aC inow_moats inow_spades inow_tides, rI Y (anow 1) 12 cnow_wall, rI Y (anow 2) 12 cnow_depth, rI Y (anow 3) 8 cnow_mood, rI Y (anow 4) 8 cnow_place, oX9 atrial aL aC itrial_moats itrial_spades itrial_tides, rI Y (atrial 1) 12 ctrial_wall, rI Y (atrial 2) 12 ctrial_depth, rI Y (atrial 3) 8 ctrial_mood, rI Y (atrial 4) 8 ctrial_place] [] := by
  unfold fX11_spells_l27 at hf
  refine a_iload_n C dX11_spells_27 rfl ?_
  refine a_bipush C (30 : Int32) dX11_spells_28 (by decide) ?_
  refine a_icmp_gt C 59 dX11_spells_30 (by decide) (fun h1 => ?_) (fun h1 => ?_)
  · have hf := fx_t h1 hf
    refine a_kill [0, 1, 2] ?_
    exact kX11_spells_b59 C hQ hf
  · have hf := fx_f h1 hf
    refine a_aload_n C dX11_spells_33 rfl ?_
    refine a_get C eX11_spells_60 dX11_spells_34 0 rfl rfl ?_
    refine a_iload_n C dX11_spells_37 rfl ?_
    obtain ⟨r2, h2, hf⟩ := fx_bind hf
    refine a_fV C (kX9_below l D Y atrial aL aC itrial_moats itrial_spades itrial_tides ctrial_wall iL_cells cL_base x1 r2 h2) gX11_spells_X9_below rfl dvX9_below ⟨⟨rfl, rfl⟩, ⟨Nat.le_of_ble_eq_true rfl, Nat.le_of_ble_eq_true rfl⟩, ⟨Nat.le_of_ble_eq_true rfl, Nat.le_of_ble_eq_true rfl⟩⟩ rfl (Nat.le_of_ble_eq_true rfl) dX11_spells_38 rfl rfl [15, 16, 5, 6] [0, 1, 2, 3, 4, 7, 8, 9, 10, 11, 12, 13, 14, 17, 18, 19] ⟨rfl, rfl, rfl, rfl, trivial⟩ rfl rfl [oX11 ao atext atold aL aC alaw aotherLaw anow atrial ahistory aguess acrewPlan amoatPlan achance io_wind io_spadeLimit, oX2 aC iC_size, rI Y (aC 1) 8 cC_age, rI Y (aC 2) 8 cC_skill, rI Y (aC 4) 8 cC_pals, oX5 aL iL_cells, rI Y (aL 1) 12 cL_base, oX6 alaw ilaw_length ilaw_at ilaw_sign ilaw_bad, rI Y (alaw 1) 40 claw_codes, rI Y (alaw 2) 40 claw_stack, oX9 anow aL aC inow_moats inow_spades inow_tides, rI Y (anow 1) 12 cnow_wall, rI Y (anow 2) 12 cnow_depth, rI Y (anow 3) 8 cnow_mood, rI Y (anow 4) 8 cnow_place, oX9 atrial aL aC itrial_moats itrial_spades itrial_tides, rI Y (atrial 1) 12 ctrial_wall, rI Y (atrial 2) 12 ctrial_depth, rI Y (atrial 3) 8 ctrial_mood, rI Y (atrial 4) 8 ctrial_place] ⟨rfl, rfl, rfl, rfl, trivial⟩ ⟨rfl, rfl, rfl, rfl, rfl, rfl, rfl, rfl, rfl, rfl, rfl, rfl, rfl, rfl, rfl, rfl, trivial⟩ rfl ?_
    refine a_if_ne C 46 dX11_spells_41 (by decide) (fun h3 => ?_) (fun h3 => ?_)
    · have hf := fx_f h3 hf
      refine a_aload_n C dX11_spells_46 rfl ?_
      refine a_get C eX11_spells_60 dX11_spells_47 0 rfl rfl ?_
      obtain ⟨r4, h4, hf⟩ := fx_bind hf
      refine a_fV C (kX9_spell l D Y atrial aL aC itrial_moats itrial_spades itrial_tides ctrial_wall ctrial_mood ctrial_place iC_size cC_age cC_skill cC_pals iL_cells r4 h4) gX11_spells_X9_spell rfl dvX9_spell ⟨⟨rfl, rfl⟩, ⟨Nat.le_of_ble_eq_true rfl, Nat.le_of_ble_eq_true rfl⟩, ⟨Nat.le_of_ble_eq_true rfl, Nat.le_of_ble_eq_true rfl⟩⟩ rfl (Nat.le_of_ble_eq_true rfl) dX11_spells_50 rfl rfl [15, 16, 18, 19, 1, 2, 3, 4, 5] [0, 6, 7, 8, 9, 10, 11, 12, 13, 14, 17] ⟨rfl, rfl, rfl, rfl, rfl, rfl, rfl, rfl, rfl, trivial⟩ rfl rfl [oX11 ao atext atold aL aC alaw aotherLaw anow atrial ahistory aguess acrewPlan amoatPlan achance io_wind io_spadeLimit, oX2 aC iC_size, rI Y (aC 1) 8 cC_age, rI Y (aC 2) 8 cC_skill, rI Y (aC 4) 8 cC_pals, oX5 aL iL_cells, rI Y (aL 1) 12 cL_base, oX6 alaw ilaw_length ilaw_at ilaw_sign ilaw_bad, rI Y (alaw 1) 40 claw_codes, rI Y (alaw 2) 40 claw_stack, oX9 anow aL aC inow_moats inow_spades inow_tides, rI Y (anow 1) 12 cnow_wall, rI Y (anow 2) 12 cnow_depth, rI Y (anow 3) 8 cnow_mood, rI Y (anow 4) 8 cnow_place, oX9 atrial aL aC itrial_moats itrial_spades itrial_tides, rI Y (atrial 1) 12 r4.1, rI Y (atrial 2) 12 ctrial_depth, rI Y (atrial 3) 8 r4.2.1, rI Y (atrial 4) 8 r4.2.2] ⟨rfl, rfl, rfl, rfl, rfl, rfl, rfl, rfl, rfl, trivial⟩ ⟨rfl, rfl, rfl, rfl, rfl, rfl, rfl, rfl, rfl, rfl, rfl, trivial⟩ rfl ?_
      refine a_iinc C (1 : Int32) dX11_spells_53 (by decide) rfl (by decide) rfl ?_
      refine a_goto C 27 dX11_spells_56 (by decide) ?_
      exact hk27 (r4.1, r4.2.1, r4.2.2, (x2 + (1 : Int32))) hf
    · have hf := fx_t h3 hf
      refine a_kill [0, 1] ?_
      exact kX11_spells_b44 C hQ hf
set_option maxHeartbeats 400000 in
set_option maxRecDepth 100000 in
theorem kX11_spells_b27 {X : cxT} {l : Launch} {D : va_G} {Y : Nat → ClassId} {ao atext atold aL aC alaw aotherLaw anow atrial ahistory aguess acrewPlan amoatPlan achance : Nat → Nat} {io_wind : Int32} {io_spadeLimit : Int32} {iC_size : Int32} {cC_age : Nat → Int32} {cC_skill : Nat → Int32} {cC_pals : Nat → Int32} {iL_cells : Int32} {cL_base : Nat → Int32} {ilaw_length : Int32} {ilaw_at : Int32} {ilaw_sign : Int32} {ilaw_bad : Int32} {claw_codes : Nat → Int32} {claw_stack : Nat → Int32} {inow_moats : Int32} {inow_spades : Int32} {inow_tides : Int32} {cnow_wall : Nat → Int32} {cnow_depth : Nat → Int32} {cnow_mood : Nat → Int32} {cnow_place : Nat → Int32} {itrial_moats : Int32} {itrial_spades : Int32} {itrial_tides : Int32} {ctrial_wall : Nat → Int32} {ctrial_depth : Nat → Int32} {ctrial_mood : Nat → Int32} {ctrial_place : Nat → Int32} {x1 : Int32} {x2 : Int32} {res : Int32 × (Nat → Int32) × Int32 × Int32 × Int32 × (Nat → Int32) × (Nat → Int32) × (Nat → Int32) × (Nat → Int32)} (C : axC X l D Y cX11_spells 3 RX11 wsX11_spells rmX11_spells (some .int)) (hQ : axQ X 0 0 (fun r9 w9 => r9 = (some (.int res.1)) ∧ w9 = [oX11 ao atext atold aL aC alaw aotherLaw anow atrial ahistory aguess acrewPlan amoatPlan achance io_wind io_spadeLimit, oX2 aC iC_size, rI Y (aC 1) 8 cC_age, rI Y (aC 2) 8 cC_skill, rI Y (aC 4) 8 cC_pals, oX5 aL iL_cells, rI Y (aL 1) 12 cL_base, oX6 alaw ilaw_length ilaw_at ilaw_sign ilaw_bad, rI Y (alaw 1) 40 claw_codes, rI Y (alaw 2) 40 res.2.1, oX9 anow aL aC inow_moats inow_spades inow_tides, rI Y (anow 1) 12 cnow_wall, rI Y (anow 2) 12 cnow_depth, rI Y (anow 3) 8 cnow_mood, rI Y (anow 4) 8 cnow_place, oX9 atrial aL aC res.2.2.1 res.2.2.2.1 res.2.2.2.2.1, rI Y (atrial 1) 12 res.2.2.2.2.2.1, rI Y (atrial 2) 12 res.2.2.2.2.2.2.1, rI Y (atrial 3) 8 res.2.2.2.2.2.2.2.1, rI Y (atrial 4) 8 res.2.2.2.2.2.2.2.2])) (hf : fX11_spells_b27 io_wind iC_size cC_age cC_skill cC_pals iL_cells cL_base ilaw_length claw_codes claw_stack inow_moats inow_spades inow_tides cnow_wall cnow_depth cnow_mood cnow_place itrial_moats itrial_spades itrial_tides ctrial_wall ctrial_depth ctrial_mood ctrial_place x1 x2 = some res) : ax X 0 0 27 [some (.ref (ao 0)), some (.int x1), some (.int x2)] [oX11 ao atext atold aL aC alaw aotherLaw anow atrial ahistory aguess acrewPlan amoatPlan achance io_wind io_spadeLimit, oX2 aC iC_size, rI Y (aC 1) 8 cC_age, rI Y (aC 2) 8 cC_skill, rI Y (aC 4) 8 cC_pals, oX5 aL iL_cells, rI Y (aL 1) 12 cL_base, oX6 alaw ilaw_length ilaw_at ilaw_sign ilaw_bad, rI Y (alaw 1) 40 claw_codes, rI Y (alaw 2) 40 claw_stack, oX9 anow aL aC inow_moats inow_spades inow_tides, rI Y (anow 1) 12 cnow_wall, rI Y (anow 2) 12 cnow_depth, rI Y (anow 3) 8 cnow_mood, rI Y (anow 4) 8 cnow_place, oX9 atrial aL aC itrial_moats itrial_spades itrial_tides, rI Y (atrial 1) 12 ctrial_wall, rI Y (atrial 2) 12 ctrial_depth, rI Y (atrial 3) 8 ctrial_mood, rI Y (atrial 4) 8 ctrial_place] [] := by
  unfold fX11_spells_b27 at hf
  exact fx_loop (P := fun s : (Nat → Int32) × (Nat → Int32) × (Nat → Int32) × Int32 => ax X 0 0 27 [some (.ref (ao 0)), some (.int x1), some (.int s.2.2.2)] [oX11 ao atext atold aL aC alaw aotherLaw anow atrial ahistory aguess acrewPlan amoatPlan achance io_wind io_spadeLimit, oX2 aC iC_size, rI Y (aC 1) 8 cC_age, rI Y (aC 2) 8 cC_skill, rI Y (aC 4) 8 cC_pals, oX5 aL iL_cells, rI Y (aL 1) 12 cL_base, oX6 alaw ilaw_length ilaw_at ilaw_sign ilaw_bad, rI Y (alaw 1) 40 claw_codes, rI Y (alaw 2) 40 claw_stack, oX9 anow aL aC inow_moats inow_spades inow_tides, rI Y (anow 1) 12 cnow_wall, rI Y (anow 2) 12 cnow_depth, rI Y (anow 3) 8 cnow_mood, rI Y (anow 4) 8 cnow_place, oX9 atrial aL aC itrial_moats itrial_spades itrial_tides, rI Y (atrial 1) 12 s.1, rI Y (atrial 2) 12 ctrial_depth, rI Y (atrial 3) 8 s.2.1, rI Y (atrial 4) 8 s.2.2.1] []) (fun s k27 hk27 h => kX11_spells_l27 C hQ hk27 h) FUEL (ctrial_wall, ctrial_mood, ctrial_place, x2) hf
def fX11_spells (io_wind : Int32) (iC_size : Int32) (cC_age : Nat → Int32) (cC_skill : Nat → Int32) (cC_pals : Nat → Int32) (iL_cells : Int32) (cL_base : Nat → Int32) (ilaw_length : Int32) (claw_codes : Nat → Int32) (claw_stack : Nat → Int32) (inow_moats : Int32) (inow_spades : Int32) (inow_tides : Int32) (cnow_wall : Nat → Int32) (cnow_depth : Nat → Int32) (cnow_mood : Nat → Int32) (cnow_place : Nat → Int32) (itrial_moats : Int32) (itrial_spades : Int32) (itrial_tides : Int32) (ctrial_wall : Nat → Int32) (ctrial_depth : Nat → Int32) (ctrial_mood : Nat → Int32) (ctrial_place : Nat → Int32) : Option (Int32 × (Nat → Int32) × Int32 × Int32 × Int32 × (Nat → Int32) × (Nat → Int32) × (Nat → Int32) × (Nat → Int32)) :=
  (fX11_heightOf io_wind ilaw_length claw_codes claw_stack inow_moats inow_tides iL_cells (0 : Int32)).bind (fun r5 => (fX9_copy itrial_moats itrial_spades itrial_tides ctrial_wall ctrial_depth ctrial_mood ctrial_place inow_moats inow_spades inow_tides cnow_wall cnow_depth cnow_mood cnow_place).bind (fun r6 => fX11_spells_b27 io_wind iC_size cC_age cC_skill cC_pals iL_cells cL_base ilaw_length claw_codes r5.2 inow_moats inow_spades inow_tides cnow_wall cnow_depth cnow_mood cnow_place r6.1 r6.2.1 r6.2.2.1 r6.2.2.2.1 r6.2.2.2.2.1 r6.2.2.2.2.2.1 r6.2.2.2.2.2.2 r5.1 (0 : Int32)))
set_option maxHeartbeats 400000 in
set_option maxRecDepth 100000 in
theorem kX11_spells (l : Launch) (D : va_G) (Y : Nat → ClassId) (ao atext atold aL aC alaw aotherLaw anow atrial ahistory aguess acrewPlan amoatPlan achance : Nat → Nat) (io_wind : Int32) (io_spadeLimit : Int32) (iC_size : Int32) (cC_age : Nat → Int32) (cC_skill : Nat → Int32) (cC_pals : Nat → Int32) (iL_cells : Int32) (cL_base : Nat → Int32) (ilaw_length : Int32) (ilaw_at : Int32) (ilaw_sign : Int32) (ilaw_bad : Int32) (claw_codes : Nat → Int32) (claw_stack : Nat → Int32) (inow_moats : Int32) (inow_spades : Int32) (inow_tides : Int32) (cnow_wall : Nat → Int32) (cnow_depth : Nat → Int32) (cnow_mood : Nat → Int32) (cnow_place : Nat → Int32) (itrial_moats : Int32) (itrial_spades : Int32) (itrial_tides : Int32) (ctrial_wall : Nat → Int32) (ctrial_depth : Nat → Int32) (ctrial_mood : Nat → Int32) (ctrial_place : Nat → Int32) (res : Int32 × (Nat → Int32) × Int32 × Int32 × Int32 × (Nat → Int32) × (Nat → Int32) × (Nat → Int32) × (Nat → Int32)) (hf : fX11_spells io_wind iC_size cC_age cC_skill cC_pals iL_cells cL_base ilaw_length claw_codes claw_stack inow_moats inow_spades inow_tides cnow_wall cnow_depth cnow_mood cnow_place itrial_moats itrial_spades itrial_tides ctrial_wall ctrial_depth ctrial_mood ctrial_place = some res) : amf l D Y yX11_spells wsX11_spells rmX11_spells [.ref (ao 0)] [oX11 ao atext atold aL aC alaw aotherLaw anow atrial ahistory aguess acrewPlan amoatPlan achance io_wind io_spadeLimit, oX2 aC iC_size, rI Y (aC 1) 8 cC_age, rI Y (aC 2) 8 cC_skill, rI Y (aC 4) 8 cC_pals, oX5 aL iL_cells, rI Y (aL 1) 12 cL_base, oX6 alaw ilaw_length ilaw_at ilaw_sign ilaw_bad, rI Y (alaw 1) 40 claw_codes, rI Y (alaw 2) 40 claw_stack, oX9 anow aL aC inow_moats inow_spades inow_tides, rI Y (anow 1) 12 cnow_wall, rI Y (anow 2) 12 cnow_depth, rI Y (anow 3) 8 cnow_mood, rI Y (anow 4) 8 cnow_place, oX9 atrial aL aC itrial_moats itrial_spades itrial_tides, rI Y (atrial 1) 12 ctrial_wall, rI Y (atrial 2) 12 ctrial_depth, rI Y (atrial 3) 8 ctrial_mood, rI Y (atrial 4) 8 ctrial_place] (some (.int res.1)) [oX11 ao atext atold aL aC alaw aotherLaw anow atrial ahistory aguess acrewPlan amoatPlan achance io_wind io_spadeLimit, oX2 aC iC_size, rI Y (aC 1) 8 cC_age, rI Y (aC 2) 8 cC_skill, rI Y (aC 4) 8 cC_pals, oX5 aL iL_cells, rI Y (aL 1) 12 cL_base, oX6 alaw ilaw_length ilaw_at ilaw_sign ilaw_bad, rI Y (alaw 1) 40 claw_codes, rI Y (alaw 2) 40 res.2.1, oX9 anow aL aC inow_moats inow_spades inow_tides, rI Y (anow 1) 12 cnow_wall, rI Y (anow 2) 12 cnow_depth, rI Y (anow 3) 8 cnow_mood, rI Y (anow 4) 8 cnow_place, oX9 atrial aL aC res.2.2.1 res.2.2.2.1 res.2.2.2.2.1, rI Y (atrial 1) 12 res.2.2.2.2.2.1, rI Y (atrial 2) 12 res.2.2.2.2.2.2.1, rI Y (atrial 3) 8 res.2.2.2.2.2.2.2.1, rI Y (atrial 4) 8 res.2.2.2.2.2.2.2.2] := by
  refine amf.of (cc := cX11_spells) (maxL := 3) (rt := (some .int)) (by decide) rfl RX11 rfl (Nat.le_of_ble_eq_true rfl) [some (.ref (ao 0)), none, none] rfl ?_
  intro X C hQ
  unfold fX11_spells at hf
  refine a_aload_n C dX11_spells_0 rfl ?_
  refine a_aload_n C dX11_spells_1 rfl ?_
  refine a_get C eX11_spells_40 dX11_spells_2 0 rfl rfl ?_
  refine a_aload_n C dX11_spells_5 rfl ?_
  refine a_get C eX11_spells_56 dX11_spells_6 0 rfl rfl ?_
  refine a_iconst C (0 : Int32) dX11_spells_9 (by decide) ?_
  obtain ⟨r5, h5, hf⟩ := fx_bind hf
  refine a_fV C (kX11_heightOf l D Y ao atext atold aL aC alaw aotherLaw anow atrial ahistory aguess acrewPlan amoatPlan achance alaw anow io_wind io_spadeLimit ilaw_length ilaw_at ilaw_sign ilaw_bad claw_codes claw_stack inow_moats inow_spades inow_tides iL_cells (0 : Int32) r5 h5) gX11_spells_X11_heightOf rfl dvX11_heightOf ⟨⟨rfl, rfl⟩, ⟨Nat.le_of_ble_eq_true rfl, Nat.le_of_ble_eq_true rfl⟩, ⟨Nat.le_of_ble_eq_true rfl, Nat.le_of_ble_eq_true rfl⟩⟩ rfl (Nat.le_of_ble_eq_true rfl) dX11_spells_10 rfl rfl [0, 7, 8, 9, 10, 5] [1, 2, 3, 4, 6, 11, 12, 13, 14, 15, 16, 17, 18, 19] ⟨rfl, rfl, rfl, rfl, rfl, rfl, trivial⟩ rfl rfl [oX11 ao atext atold aL aC alaw aotherLaw anow atrial ahistory aguess acrewPlan amoatPlan achance io_wind io_spadeLimit, oX2 aC iC_size, rI Y (aC 1) 8 cC_age, rI Y (aC 2) 8 cC_skill, rI Y (aC 4) 8 cC_pals, oX5 aL iL_cells, rI Y (aL 1) 12 cL_base, oX6 alaw ilaw_length ilaw_at ilaw_sign ilaw_bad, rI Y (alaw 1) 40 claw_codes, rI Y (alaw 2) 40 r5.2, oX9 anow aL aC inow_moats inow_spades inow_tides, rI Y (anow 1) 12 cnow_wall, rI Y (anow 2) 12 cnow_depth, rI Y (anow 3) 8 cnow_mood, rI Y (anow 4) 8 cnow_place, oX9 atrial aL aC itrial_moats itrial_spades itrial_tides, rI Y (atrial 1) 12 ctrial_wall, rI Y (atrial 2) 12 ctrial_depth, rI Y (atrial 3) 8 ctrial_mood, rI Y (atrial 4) 8 ctrial_place] ⟨rfl, rfl, rfl, rfl, rfl, rfl, trivial⟩ ⟨rfl, rfl, rfl, rfl, rfl, rfl, rfl, rfl, rfl, rfl, rfl, rfl, rfl, rfl, trivial⟩ rfl ?_
  refine a_istore_n C dX11_spells_13 (by decide) rfl ?_
  refine a_aload_n C dX11_spells_14 rfl ?_
  refine a_get C eX11_spells_60 dX11_spells_15 0 rfl rfl ?_
  refine a_aload_n C dX11_spells_18 rfl ?_
  refine a_get C eX11_spells_56 dX11_spells_19 0 rfl rfl ?_
  obtain ⟨r6, h6, hf⟩ := fx_bind hf
  refine a_fV C (kX9_copy l D Y atrial aL aC anow itrial_moats itrial_spades itrial_tides ctrial_wall ctrial_depth ctrial_mood ctrial_place inow_moats inow_spades inow_tides cnow_wall cnow_depth cnow_mood cnow_place r6 h6) gX11_spells_X9_copy rfl dvX9_copy ⟨⟨rfl, rfl⟩, ⟨Nat.le_of_ble_eq_true rfl, Nat.le_of_ble_eq_true rfl⟩, ⟨Nat.le_of_ble_eq_true rfl, Nat.le_of_ble_eq_true rfl⟩⟩ rfl (Nat.le_of_ble_eq_true rfl) dX11_spells_22 rfl rfl [15, 16, 17, 18, 19, 10, 11, 12, 13, 14] [0, 1, 2, 3, 4, 5, 6, 7, 8, 9] ⟨rfl, rfl, rfl, rfl, rfl, rfl, rfl, rfl, rfl, rfl, trivial⟩ rfl rfl [oX11 ao atext atold aL aC alaw aotherLaw anow atrial ahistory aguess acrewPlan amoatPlan achance io_wind io_spadeLimit, oX2 aC iC_size, rI Y (aC 1) 8 cC_age, rI Y (aC 2) 8 cC_skill, rI Y (aC 4) 8 cC_pals, oX5 aL iL_cells, rI Y (aL 1) 12 cL_base, oX6 alaw ilaw_length ilaw_at ilaw_sign ilaw_bad, rI Y (alaw 1) 40 claw_codes, rI Y (alaw 2) 40 r5.2, oX9 anow aL aC inow_moats inow_spades inow_tides, rI Y (anow 1) 12 cnow_wall, rI Y (anow 2) 12 cnow_depth, rI Y (anow 3) 8 cnow_mood, rI Y (anow 4) 8 cnow_place, oX9 atrial aL aC r6.1 r6.2.1 r6.2.2.1, rI Y (atrial 1) 12 r6.2.2.2.1, rI Y (atrial 2) 12 r6.2.2.2.2.1, rI Y (atrial 3) 8 r6.2.2.2.2.2.1, rI Y (atrial 4) 8 r6.2.2.2.2.2.2] ⟨rfl, rfl, rfl, rfl, rfl, rfl, rfl, rfl, rfl, rfl, trivial⟩ ⟨rfl, rfl, rfl, rfl, rfl, rfl, rfl, rfl, rfl, rfl, trivial⟩ rfl ?_
  refine a_iconst C (0 : Int32) dX11_spells_25 (by decide) ?_
  refine a_istore_n C dX11_spells_26 (by decide) rfl ?_
  exact kX11_spells_b27 C hQ hf
