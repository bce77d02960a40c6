abbrev rmL_cell : Room := { frames := 7, cells := 0, slots := 0, locals := 130 }
abbrev rtL_cell : Room := { frames := 7, cells := 1, slots := 6, locals := 130 }
theorem dvL_cell : yL_cell.cls ≠ "java/lang/invoke/MethodHandle" ∧ yL_cell.cls ≠ "java/lang/invoke/VarHandle" ∧ (parseMethodDescriptor yL_cell.desc).map (fun d => d.parameters.length) = some 4 := by decide +kernel
set_option maxHeartbeats 4000000 in
set_option maxRecDepth 100000 in
theorem kL_cell (l : Launch) (D : va_G) (Y : Nat → ClassId) (ao atext atold aL aC alaw aotherLaw anow atrial ahistory aguess acrewPlan amoatPlan achance : Nat → Nat) (qo : Nat) (io_wind : Int32) (io_spadeLimit : Int32) (iC_size : Int32) (iL_cells : Int32) (cL_base : Nat → Int32) (cL_dyke : Nat → Int32) (inow_moats : Int32) (inow_spades : Int32) (inow_tides : Int32) (cnow_wall : Nat → Int32) (cnow_depth : Nat → Int32) (cnow_place : Nat → Int32) (cout : Nat → Int64) (x1 : Int32) (x2 : Int32) (res : Int32) (hf : fX11_cell iC_size iL_cells cL_base cL_dyke inow_moats cnow_wall cnow_depth cnow_place x1 x2 = some res) : am l D Y yL_cell wsL_cell rmL_cell [.ref (ao 0), .int x1, .int x2, .ref qo] [oX11 ao atext atold aL aC alaw aotherLaw anow atrial ahistory aguess acrewPlan amoatPlan achance io_wind io_spadeLimit, oX2 aC iC_size, oX5 aL iL_cells, rI Y (aL 1) 12 cL_base, rI Y (aL 2) 12 cL_dyke, oX9 anow aL aC inow_moats inow_spades inow_tides, rI Y (anow 1) 12 cnow_wall, rI Y (anow 2) 12 cnow_depth, rI Y (anow 4) 8 cnow_place, rJ Y qo 1 cout] 0 0 (fun r' w'' => r' = some (.int 0) ∧ w'' = [oX11 ao atext atold aL aC alaw aotherLaw anow atrial ahistory aguess acrewPlan amoatPlan achance io_wind io_spadeLimit, oX2 aC iC_size, oX5 aL iL_cells, rI Y (aL 1) 12 cL_base, rI Y (aL 2) 12 cL_dyke, oX9 anow aL aC inow_moats inow_spades inow_tides, rI Y (anow 1) 12 cnow_wall, rI Y (anow 2) 12 cnow_depth, rI Y (anow 4) 8 cnow_place, rJ Y qo 1 (vp_updL cout (Int32.toNatClampNeg (0 : Int32)) (res.toInt64))]) := by
  refine am.ofH (cc := cL_cell) (maxL := 5) (rt := (some .int)) (hh := [(0, 10, 13, 13)]) (by decide) rfl RL rfl (Nat.le_of_ble_eq_true rfl) [some (.ref (ao 0)), some (.int x1), some (.int x2), some (.ref qo), none] rfl ?_
  intro X C hQ hH
  refine a_aload_n C dL_cell_0 rfl ?_
  refine a_iconst C (0 : Int32) dL_cell_1 (by decide) ?_
  refine a_aload_n C dL_cell_2 rfl ?_
  refine a_iload_n C dL_cell_3 rfl ?_
  refine a_iload_n C dL_cell_4 rfl ?_
  refine a_fV C (kX11_cell l D Y ao atext atold aL aC alaw aotherLaw anow atrial ahistory aguess acrewPlan amoatPlan achance io_wind io_spadeLimit iC_size iL_cells cL_base cL_dyke inow_moats inow_spades inow_tides cnow_wall cnow_depth cnow_place x1 x2 res hf) (gB_L_7 _) rfl dvX11_cell ⟨⟨rfl, rfl⟩, ⟨Nat.le_of_ble_eq_true rfl, Nat.le_of_ble_eq_true rfl⟩, ⟨Nat.le_of_ble_eq_true rfl, Nat.le_of_ble_eq_true rfl⟩⟩ rfl (Nat.le_of_ble_eq_true rfl) dL_cell_5 rfl rfl [0, 1, 2, 3, 4, 5, 6, 7, 8] [9] ⟨rfl, rfl, rfl, rfl, rfl, rfl, rfl, rfl, rfl, trivial⟩ (by decide +kernel) rfl [oX11 ao atext atold aL aC alaw aotherLaw anow atrial ahistory aguess acrewPlan amoatPlan achance io_wind io_spadeLimit, oX2 aC iC_size, oX5 aL iL_cells, rI Y (aL 1) 12 cL_base, rI Y (aL 2) 12 cL_dyke, oX9 anow aL aC inow_moats inow_spades inow_tides, rI Y (anow 1) 12 cnow_wall, rI Y (anow 2) 12 cnow_depth, rI Y (anow 4) 8 cnow_place, rJ Y qo 1 cout] ⟨rfl, rfl, rfl, rfl, rfl, rfl, rfl, rfl, rfl, trivial⟩ ⟨rfl, trivial⟩ 10 rfl (by decide +kernel) ?_
  refine a_i2l C dL_cell_8 ?_
  refine a_last C dL_cell_9 9 rfl (show vp_in (0 : Int32) 1 from by unfold vp_in; decide) ?_
  refine a_goto C 17 dL_cell_10 (by decide) ?_
  refine a_iconst C (0 : Int32) dL_cell_17 (by decide) ?_
  exact a_iret C hQ dL_cell_18 ⟨rfl, rfl⟩
set_option maxHeartbeats 4000000 in
set_option maxRecDepth 100000 in
theorem hL_cell (l : Launch) (hl : l.stackTraces = false) (D : va_G) (Y : Nat → ClassId) (ao atext atold aL aC alaw aotherLaw anow atrial ahistory aguess acrewPlan amoatPlan achance : Nat → Nat) (qo : Nat) (io_wind : Int32) (io_spadeLimit : Int32) (iC_size : Int32) (iL_cells : Int32) (cL_base : Nat → Int32) (cL_dyke : Nat → Int32) (inow_moats : Int32) (inow_spades : Int32) (inow_tides : Int32) (cnow_wall : Nat → Int32) (cnow_depth : Nat → Int32) (cnow_place : Nat → Int32) (cout : Nat → Int64) (x1 : Int32) (x2 : Int32) (hf : tX11_cell iC_size iL_cells cL_base cL_dyke inow_moats cnow_wall cnow_depth cnow_place x1 x2 = some ()) : am l D Y yL_cell wsL_cell rtL_cell [.ref (ao 0), .int x1, .int x2, .ref qo] [oX11 ao atext atold aL aC alaw aotherLaw anow atrial ahistory aguess acrewPlan amoatPlan achance io_wind io_spadeLimit, oX2 aC iC_size, oX5 aL iL_cells, rI Y (aL 1) 12 cL_base, rI Y (aL 2) 12 cL_dyke, oX9 anow aL aC inow_moats inow_spades inow_tides, rI Y (anow 1) 12 cnow_wall, rI Y (anow 2) 12 cnow_depth, rI Y (anow 4) 8 cnow_place, rJ Y qo 1 cout] 1 6 (fun r' w'' => r' = some (.int 1) ∧ w'' = [oX11 ao atext atold aL aC alaw aotherLaw anow atrial ahistory aguess acrewPlan amoatPlan achance io_wind io_spadeLimit, oX2 aC iC_size, oX5 aL iL_cells, rI Y (aL 1) 12 cL_base, rI Y (aL 2) 12 cL_dyke, oX9 anow aL aC inow_moats inow_spades inow_tides, rI Y (anow 1) 12 cnow_wall, rI Y (anow 2) 12 cnow_depth, rI Y (anow 4) 8 cnow_place, rJ Y qo 1 cout]) := by
  refine am.ofH (cc := cL_cell) (maxL := 5) (rt := (some .int)) (hh := [(0, 10, 13, 13)]) (by decide) rfl RL rfl (Nat.le_of_ble_eq_true rfl) [some (.ref (ao 0)), some (.int x1), some (.int x2), some (.ref qo), none] rfl ?_
  intro X C hQ hH
  refine a_aload_n C dL_cell_0 rfl ?_
  refine a_iconst C (0 : Int32) dL_cell_1 (by decide) ?_
  refine a_aload_n C dL_cell_2 rfl ?_
  refine a_iload_n C dL_cell_3 rfl ?_
  refine a_iload_n C dL_cell_4 rfl ?_
  refine a_catchV C hH (hX11_cell l hl D Y ao atext atold aL aC alaw aotherLaw anow atrial ahistory aguess acrewPlan amoatPlan achance io_wind io_spadeLimit iC_size iL_cells cL_base cL_dyke inow_moats inow_spades inow_tides cnow_wall cnow_depth cnow_place x1 x2 hf) (gB_L_7 _) rfl dvX11_cell ⟨⟨rfl, rfl⟩, ⟨Nat.le_of_ble_eq_true rfl, Nat.le_of_ble_eq_true rfl⟩, ⟨Nat.le_of_ble_eq_true rfl, Nat.le_of_ble_eq_true rfl⟩⟩ rfl (Nat.le_of_ble_eq_true rfl) dL_cell_5 rfl rfl [0, 1, 2, 3, 4, 5, 6, 7, 8] ⟨rfl, rfl, rfl, rfl, rfl, rfl, rfl, rfl, rfl, trivial⟩ (by decide +kernel) (by decide +kernel) (by decide) (List.mem_cons_of_mem _ (inB20 _ (List.mem_of_getElem? (i := 21) rfl))) (fun q => ?_)
  refine a_astore C dL_cell_13 (by decide) rfl ?_
  refine a_iconst C (1 : Int32) dL_cell_15 (by decide) ?_
  exact a_iret C hQ dL_cell_16 ⟨rfl, rfl⟩
abbrev rmL_child : Room := { frames := 7, cells := 0, slots := 0, locals := 130 }
abbrev rtL_child : Room := { frames := 7, cells := 1, slots := 6, locals := 130 }
theorem dvL_child : yL_child.cls ≠ "java/lang/invoke/MethodHandle" ∧ yL_child.cls ≠ "java/lang/invoke/VarHandle" ∧ (parseMethodDescriptor yL_child.desc).map (fun d => d.parameters.length) = some 4 := by decide +kernel
set_option maxHeartbeats 4000000 in
set_option maxRecDepth 100000 in
theorem kL_child (l : Launch) (D : va_G) (Y : Nat → ClassId) (ao atext atold aL aC alaw aotherLaw anow atrial ahistory aguess acrewPlan amoatPlan achance : Nat → Nat) (qo : Nat) (io_wind : Int32) (io_spadeLimit : Int32) (iC_size : Int32) (cC_age : Nat → Int32) (cC_skill : Nat → Int32) (cC_friend : Nat → Int32) (cC_pals : Nat → Int32) (inow_moats : Int32) (inow_spades : Int32) (inow_tides : Int32) (cnow_mood : Nat → Int32) (cnow_place : Nat → Int32) (cout : Nat → Int64) (x1 : Int32) (x2 : Int32) (res : Int32) (hf : fX11_child iC_size cC_age cC_skill cC_friend cC_pals inow_spades cnow_mood cnow_place x1 x2 = some res) : am l D Y yL_child wsL_child rmL_child [.ref (ao 0), .int x1, .int x2, .ref qo] [oX11 ao atext atold aL aC alaw aotherLaw anow atrial ahistory aguess acrewPlan amoatPlan achance io_wind io_spadeLimit, oX2 aC iC_size, rI Y (aC 1) 8 cC_age, rI Y (aC 2) 8 cC_skill, rI Y (aC 3) 8 cC_friend, rI Y (aC 4) 8 cC_pals, oX9 anow aL aC inow_moats inow_spades inow_tides, rI Y (anow 3) 8 cnow_mood, rI Y (anow 4) 8 cnow_place, rJ Y qo 1 cout] 0 0 (fun r' w'' => r' = some (.int 0) ∧ w'' = [oX11 ao atext atold aL aC alaw aotherLaw anow atrial ahistory aguess acrewPlan amoatPlan achance io_wind io_spadeLimit, oX2 aC iC_size, rI Y (aC 1) 8 cC_age, rI Y (aC 2) 8 cC_skill, rI Y (aC 3) 8 cC_friend, rI Y (aC 4) 8 cC_pals, oX9 anow aL aC inow_moats inow_spades inow_tides, rI Y (anow 3) 8 cnow_mood, rI Y (anow 4) 8 cnow_place, rJ Y qo 1 (vp_updL cout (Int32.toNatClampNeg (0 : Int32)) (res.toInt64))]) := by
  refine am.ofH (cc := cL_child) (maxL := 5) (rt := (some .int)) (hh := [(0, 10, 13, 13)]) (by decide) rfl RL rfl (Nat.le_of_ble_eq_true rfl) [some (.ref (ao 0)), some (.int x1), some (.int x2), some (.ref qo), none] rfl ?_
  intro X C hQ hH
  refine a_aload_n C dL_child_0 rfl ?_
  refine a_iconst C (0 : Int32) dL_child_1 (by decide) ?_
  refine a_aload_n C dL_child_2 rfl ?_
  refine a_iload_n C dL_child_3 rfl ?_
  refine a_iload_n C dL_child_4 rfl ?_
  refine a_fV C (kX11_child l D Y ao atext atold aL aC alaw aotherLaw anow atrial ahistory aguess acrewPlan amoatPlan achance io_wind io_spadeLimit iC_size cC_age cC_skill cC_friend cC_pals inow_moats inow_spades inow_tides cnow_mood cnow_place x1 x2 res hf) (gB_L_15 _) rfl dvX11_child ⟨⟨rfl, rfl⟩, ⟨Nat.le_of_ble_eq_true rfl, Nat.le_of_ble_eq_true rfl⟩, ⟨Nat.le_of_ble_eq_true rfl, Nat.le_of_ble_eq_true rfl⟩⟩ rfl (Nat.le_of_ble_eq_true rfl) dL_child_5 rfl rfl [0, 1, 2, 3, 4, 5, 6, 7, 8] [9] ⟨rfl, rfl, rfl, rfl, rfl, rfl, rfl, rfl, rfl, trivial⟩ (by decide +kernel) rfl [oX11 ao atext atold aL aC alaw aotherLaw anow atrial ahistory aguess acrewPlan amoatPlan achance io_wind io_spadeLimit, oX2 aC iC_size, rI Y (aC 1) 8 cC_age, rI Y (aC 2) 8 cC_skill, rI Y (aC 3) 8 cC_friend, rI Y (aC 4) 8 cC_pals, oX9 anow aL aC inow_moats inow_spades inow_tides, rI Y (anow 3) 8 cnow_mood, rI Y (anow 4) 8 cnow_place, rJ Y qo 1 cout] ⟨rfl, rfl, rfl, rfl, rfl, rfl, rfl, rfl, rfl, trivial⟩ ⟨rfl, trivial⟩ 10 rfl (by decide +kernel) ?_
  refine a_i2l C dL_child_8 ?_
  refine a_last C dL_child_9 9 rfl (show vp_in (0 : Int32) 1 from by unfold vp_in; decide) ?_
  refine a_goto C 17 dL_child_10 (by decide) ?_
  refine a_iconst C (0 : Int32) dL_child_17 (by decide) ?_
  exact a_iret C hQ dL_child_18 ⟨rfl, rfl⟩
set_option maxHeartbeats 4000000 in
set_option maxRecDepth 100000 in
theorem hL_child (l : Launch) (hl : l.stackTraces = false) (D : va_G) (Y : Nat → ClassId) (ao atext atold aL aC alaw aotherLaw anow atrial ahistory aguess acrewPlan amoatPlan achance : Nat → Nat) (qo : Nat) (io_wind : Int32) (io_spadeLimit : Int32) (iC_size : Int32) (cC_age : Nat → Int32) (cC_skill : Nat → Int32) (cC_friend : Nat → Int32) (cC_pals : Nat → Int32) (inow_moats : Int32) (inow_spades : Int32) (inow_tides : Int32) (cnow_mood : Nat → Int32) (cnow_place : Nat → Int32) (cout : Nat → Int64) (x1 : Int32) (x2 : Int32) (hf : tX11_child iC_size cC_age cC_skill cC_friend cC_pals inow_spades cnow_mood cnow_place x1 x2 = some ()) : am l D Y yL_child wsL_child rtL_child [.ref (ao 0), .int x1, .int x2, .ref qo] [oX11 ao atext atold aL aC alaw aotherLaw anow atrial ahistory aguess acrewPlan amoatPlan achance io_wind io_spadeLimit, oX2 aC iC_size, rI Y (aC 1) 8 cC_age, rI Y (aC 2) 8 cC_skill, rI Y (aC 3) 8 cC_friend, rI Y (aC 4) 8 cC_pals, oX9 anow aL aC inow_moats inow_spades inow_tides, rI Y (anow 3) 8 cnow_mood, rI Y (anow 4) 8 cnow_place, rJ Y qo 1 cout] 1 6 (fun r' w'' => r' = some (.int 1) ∧ w'' = [oX11 ao atext atold aL aC alaw aotherLaw anow atrial ahistory aguess acrewPlan amoatPlan achance io_wind io_spadeLimit, oX2 aC iC_size, rI Y (aC 1) 8 cC_age, rI Y (aC 2) 8 cC_skill, rI Y (aC 3) 8 cC_friend, rI Y (aC 4) 8 cC_pals, oX9 anow aL aC inow_moats inow_spades inow_tides, rI Y (anow 3) 8 cnow_mood, rI Y (anow 4) 8 cnow_place, rJ Y qo 1 cout]) := by
  refine am.ofH (cc := cL_child) (maxL := 5) (rt := (some .int)) (hh := [(0, 10, 13, 13)]) (by decide) rfl RL rfl (Nat.le_of_ble_eq_true rfl) [some (.ref (ao 0)), some (.int x1), some (.int x2), some (.ref qo), none] rfl ?_
  intro X C hQ hH
  refine a_aload_n C dL_child_0 rfl ?_
  refine a_iconst C (0 : Int32) dL_child_1 (by decide) ?_
  refine a_aload_n C dL_child_2 rfl ?_
  refine a_iload_n C dL_child_3 rfl ?_
  refine a_iload_n C dL_child_4 rfl ?_
  refine a_catchV C hH (hX11_child l hl D Y ao atext atold aL aC alaw aotherLaw anow atrial ahistory aguess acrewPlan amoatPlan achance io_wind io_spadeLimit iC_size cC_age cC_skill cC_friend cC_pals inow_moats inow_spades inow_tides cnow_mood cnow_place x1 x2 hf) (gB_L_15 _) rfl dvX11_child ⟨⟨rfl, rfl⟩, ⟨Nat.le_of_ble_eq_true rfl, Nat.le_of_ble_eq_true rfl⟩, ⟨Nat.le_of_ble_eq_true rfl, Nat.le_of_ble_eq_true rfl⟩⟩ rfl (Nat.le_of_ble_eq_true rfl) dL_child_5 rfl rfl [0, 1, 2, 3, 4, 5, 6, 7, 8] ⟨rfl, rfl, rfl, rfl, rfl, rfl, rfl, rfl, rfl, trivial⟩ (by decide +kernel) (by decide +kernel) (by decide) (List.mem_cons_of_mem _ (inB20 _ (List.mem_of_getElem? (i := 21) rfl))) (fun q => ?_)
  refine a_astore C dL_child_13 (by decide) rfl ?_
  refine a_iconst C (1 : Int32) dL_child_15 (by decide) ?_
  exact a_iret C hQ dL_child_16 ⟨rfl, rfl⟩
abbrev rmL_row : Room := { frames := 7, cells := 0, slots := 0, locals := 130 }
abbrev rtL_row : Room := { frames := 7, cells := 1, slots := 6, locals := 130 }
theorem dvL_row : yL_row.cls ≠ "java/lang/invoke/MethodHandle" ∧ yL_row.cls ≠ "java/lang/invoke/VarHandle" ∧ (parseMethodDescriptor yL_row.desc).map (fun d => d.parameters.length) = some 3 := by decide +kernel
set_option maxHeartbeats 4000000 in
set_option maxRecDepth 100000 in
theorem kL_row (l : Launch) (D : va_G) (Y : Nat → ClassId) (ao atext atold aL aC alaw aotherLaw anow atrial ahistory aguess acrewPlan amoatPlan achance : Nat → Nat) (qo : Nat) (io_wind : Int32) (io_spadeLimit : Int32) (itold_size : Int32) (ctold_numbers : Nat → Int64) (cout : Nat → Int64) (x1 : Int32) (res : Int64) (hf : fX11_row itold_size ctold_numbers x1 = some res) : am l D Y yL_row wsL_row rmL_row [.ref (ao 0), .int x1, .ref qo] [oX11 ao atext atold aL aC alaw aotherLaw anow atrial ahistory aguess acrewPlan amoatPlan achance io_wind io_spadeLimit, oX8 atold itold_size, rJ Y (atold 1) 12 ctold_numbers, rJ Y qo 1 cout] 0 0 (fun r' w'' => r' = some (.int 0) ∧ w'' = [oX11 ao atext atold aL aC alaw aotherLaw anow atrial ahistory aguess acrewPlan amoatPlan achance io_wind io_spadeLimit, oX8 atold itold_size, rJ Y (atold 1) 12 ctold_numbers, rJ Y qo 1 (vp_updL cout (Int32.toNatClampNeg (0 : Int32)) res)]) := by
  refine am.ofH (cc := cL_row) (maxL := 4) (rt := (some .int)) (hh := [(0, 8, 11, 13)]) (by decide) rfl RL rfl (Nat.le_of_ble_eq_true rfl) [some (.ref (ao 0)), some (.int x1), some (.ref qo), none] rfl ?_
  intro X C hQ hH
  refine a_aload_n C dL_row_0 rfl ?_
  refine a_iconst C (0 : Int32) dL_row_1 (by decide) ?_
  refine a_aload_n C dL_row_2 rfl ?_
  refine a_iload_n C dL_row_3 rfl ?_
  refine a_fV C (kX11_row l D Y ao atext atold aL aC alaw aotherLaw anow atrial ahistory aguess acrewPlan amoatPlan achance io_wind io_spadeLimit itold_size ctold_numbers x1 res hf) (gB_L_18 _) rfl dvX11_row ⟨⟨rfl, rfl⟩, ⟨Nat.le_of_ble_eq_true rfl, Nat.le_of_ble_eq_true rfl⟩, ⟨Nat.le_of_ble_eq_true rfl, Nat.le_of_ble_eq_true rfl⟩⟩ rfl (Nat.le_of_ble_eq_true rfl) dL_row_4 rfl rfl [0, 1, 2] [3] ⟨rfl, rfl, rfl, trivial⟩ (by decide +kernel) rfl [oX11 ao atext atold aL aC alaw aotherLaw anow atrial ahistory aguess acrewPlan amoatPlan achance io_wind io_spadeLimit, oX8 atold itold_size, rJ Y (atold 1) 12 ctold_numbers, rJ Y qo 1 cout] ⟨rfl, rfl, rfl, trivial⟩ ⟨rfl, trivial⟩ 4 rfl (by decide +kernel) ?_
  refine a_last C dL_row_7 3 rfl (show vp_in (0 : Int32) 1 from by unfold vp_in; decide) ?_
  refine a_goto C 14 dL_row_8 (by decide) ?_
  refine a_iconst C (0 : Int32) dL_row_14 (by decide) ?_
  exact a_iret C hQ dL_row_15 ⟨rfl, rfl⟩
set_option maxHeartbeats 4000000 in
set_option maxRecDepth 100000 in
theorem hL_row (l : Launch) (hl : l.stackTraces = false) (D : va_G) (Y : Nat → ClassId) (ao atext atold aL aC alaw aotherLaw anow atrial ahistory aguess acrewPlan amoatPlan achance : Nat → Nat) (qo : Nat) (io_wind : Int32) (io_spadeLimit : Int32) (itold_size : Int32) (ctold_numbers : Nat → Int64) (cout : Nat → Int64) (x1 : Int32) (hf : tX11_row itold_size ctold_numbers x1 = some ()) : am l D Y yL_row wsL_row rtL_row [.ref (ao 0), .int x1, .ref qo] [oX11 ao atext atold aL aC alaw aotherLaw anow atrial ahistory aguess acrewPlan amoatPlan achance io_wind io_spadeLimit, oX8 atold itold_size, rJ Y (atold 1) 12 ctold_numbers, rJ Y qo 1 cout] 1 6 (fun r' w'' => r' = some (.int 1) ∧ w'' = [oX11 ao atext atold aL aC alaw aotherLaw anow atrial ahistory aguess acrewPlan amoatPlan achance io_wind io_spadeLimit, oX8 atold itold_size, rJ Y (atold 1) 12 ctold_numbers, rJ Y qo 1 cout]) := by
  refine am.ofH (cc := cL_row) (maxL := 4) (rt := (some .int)) (hh := [(0, 8, 11, 13)]) (by decide) rfl RL rfl (Nat.le_of_ble_eq_true rfl) [some (.ref (ao 0)), some (.int x1), some (.ref qo), none] rfl ?_
  intro X C hQ hH
  refine a_aload_n C dL_row_0 rfl ?_
  refine a_iconst C (0 : Int32) dL_row_1 (by decide) ?_
  refine a_aload_n C dL_row_2 rfl ?_
  refine a_iload_n C dL_row_3 rfl ?_
  refine a_catchV C hH (hX11_row l hl D Y ao atext atold aL aC alaw aotherLaw anow atrial ahistory aguess acrewPlan amoatPlan achance io_wind io_spadeLimit itold_size ctold_numbers x1 hf) (gB_L_18 _) rfl dvX11_row ⟨⟨rfl, rfl⟩, ⟨Nat.le_of_ble_eq_true rfl, Nat.le_of_ble_eq_true rfl⟩, ⟨Nat.le_of_ble_eq_true rfl, Nat.le_of_ble_eq_true rfl⟩⟩ rfl (Nat.le_of_ble_eq_true rfl) dL_row_4 rfl rfl [0, 1, 2] ⟨rfl, rfl, rfl, trivial⟩ (by decide +kernel) (by decide +kernel) (by decide) (List.mem_cons_of_mem _ (inB20 _ (List.mem_of_getElem? (i := 21) rfl))) (fun q => ?_)
  refine a_astore_n C dL_row_11 (by decide) rfl ?_
  refine a_iconst C (1 : Int32) dL_row_12 (by decide) ?_
  exact a_iret C hQ dL_row_13 ⟨rfl, rfl⟩
